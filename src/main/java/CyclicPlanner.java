public final class CyclicPlanner {
    public static final int BAD = -1;
    public static final int NONE = -2;

    private static final int STATES = 8;
    private static final int ACTIONS = 3;
    private static final int SLOTS = 24;
    private static final int ALL_STATES = 255;

    // One slot for each action of each state. An action has at least one outcome,
    // so the empty set can stand for an action that there is not.
    private final int[] outcomeSets = new int[SLOTS];
    private int goalSet = 0;

    public CyclicPlanner() {
    }

    public boolean action(int s, int a, int outcomes) {
        if (!isState(s) || a < 0 || a >= ACTIONS || !isStateSet(outcomes)) {
            return false;
        }
        outcomeSets[s * ACTIONS + a] = outcomes;
        return true;
    }

    public boolean goals(int set) {
        if (!isStateSet(set)) {
            return false;
        }
        goalSet = set;
        return true;
    }

    public int weak() {
        return reachingWithin(ALL_STATES);
    }

    public int safe() {
        // A state that can't come to a goal must not be met, which may cut off others
        // in turn. Each round loses a state or is the last that changes anything, so
        // there are never more rounds to do than states.
        int kept = ALL_STATES;
        for (int round = 0; round < STATES; round++) {
            kept = reachingWithin(kept);
        }
        return kept;
    }

    public int sure() {
        return sureAfter(STATES);
    }

    public int steps(int s) {
        if (!isState(s)) {
            return BAD;
        }
        int reached = goalSet;
        for (int k = 0; k < STATES; k++) {
            if (holds(reached, s)) {
                return k;
            }
            reached = oneStepBack(reached, reached);
        }
        return NONE;
    }

    public int luck(int s) {
        if (!isState(s)) {
            return BAD;
        }
        int reached = goalSet;
        for (int k = 0; k < STATES; k++) {
            if (holds(reached, s)) {
                return k;
            }
            reached = oneStepBack(ALL_STATES, reached);
        }
        return NONE;
    }

    public int safeActions(int s) {
        if (!isState(s) || holds(goalSet, s)) {
            return 0;
        }
        int safeSet = safe();
        return holds(safeSet, s) ? actionsInto(s, safeSet) : 0;
    }

    public int sureAction(int s) {
        int k = steps(s);
        // Below 1 are the codes of a state that is none or not sure, and the 0 of a goal.
        if (k < 1) {
            return NONE;
        }
        int nearer = sureAfter(k - 1);
        int fitting = actionsInto(s, nearer);
        for (int a = 0; a < ACTIONS; a++) {
            if (holds(fitting, a)) {
                return a;
            }
        }
        return NONE;
    }

    public int prune() {
        int safeSet = safe();
        int taken = 0;
        for (int slot = 0; slot < SLOTS; slot++) {
            if ((outcomeSets[slot] & ~safeSet) != 0) {
                outcomeSets[slot] = 0;
                taken++;
            }
        }
        return taken;
    }

    public int hopeful() {
        int safeSet = safe();
        int sureSet = sure();
        int hopefulSet = safeSet & ~sureSet;
        int count = 0;
        for (int s = 0; s < STATES; s++) {
            if (holds(hopefulSet, s)) {
                count++;
            }
        }
        return count;
    }

    private static boolean isState(int s) {
        return s >= 0 && s < STATES;
    }

    private static boolean isStateSet(int set) {
        return set >= 0 && set <= ALL_STATES;
    }

    private static boolean holds(int set, int member) {
        return ((set >> member) & 1) != 0;
    }

    // The states that can come to a goal by actions that cannot leave the allowed states.
    // A shortest way meets no state twice, so as many steps as states are enough.
    private int reachingWithin(int allowed) {
        int reached = goalSet;
        for (int step = 0; step < STATES; step++) {
            reached = oneStepBack(allowed, reached);
        }
        return reached;
    }

    // The states from which a policy can force a goal after at most k steps. An action
    // counts only if all its outcomes are reached, so reached is also what is allowed.
    private int sureAfter(int k) {
        int reached = goalSet;
        for (int step = 0; step < k && step < STATES; step++) {
            reached = oneStepBack(reached, reached);
        }
        return reached;
    }

    // The reached states, and those with an action that cannot leave the allowed states
    // and may come to a reached one. Reached stays as it is meanwhile, so that this is
    // one step and not several.
    private int oneStepBack(int allowed, int reached) {
        int grown = reached;
        for (int slot = 0; slot < SLOTS; slot++) {
            int outcomes = outcomeSets[slot];
            if ((outcomes & ~allowed) == 0 && (outcomes & reached) != 0) {
                grown |= 1 << (slot / ACTIONS);
            }
        }
        return grown;
    }

    // The caller has made sure that s is a state.
    private int actionsInto(int s, int allowed) {
        int found = 0;
        for (int a = 0; a < ACTIONS; a++) {
            int outcomes = outcomeSets[s * ACTIONS + a];
            if (outcomes != 0 && (outcomes & ~allowed) == 0) {
                found |= 1 << a;
            }
        }
        return found;
    }
}
