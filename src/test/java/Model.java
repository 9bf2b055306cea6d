/**
 * What the document's terms say, word by word: every policy is tried, and the courses under
 * it are followed. It shares no thought with the program, which never looks at a policy.
 */
final class Model {
    static final int STATES = 8;
    static final int ACTIONS = 3;
    static final int NO_ACTION = -1;

    final int[][] outcomes = new int[STATES][ACTIONS];
    int goals = 0;

    int weak;
    int safe;
    int sure;
    final int[] steps = new int[STATES];
    final int[] luck = new int[STATES];
    final int[] sureAction = new int[STATES];

    /** Works out every answer for the actions and goals as they stand. */
    void workOut() {
        weak = 0;
        safe = 0;
        sure = 0;
        for (int s = 0; s < STATES; s++) {
            steps[s] = CyclicPlanner.NONE;
            luck[s] = CyclicPlanner.NONE;
            sureAction[s] = CyclicPlanner.NONE;
        }
        int[] policy = new int[STATES];
        java.util.Arrays.fill(policy, NO_ACTION);
        do {
            for (int s = 0; s < STATES; s++) judge(policy, s);
        } while (next(policy));
    }

    int safeActions(int s) {
        if (s < 0 || s >= STATES || has(goals, s) || !has(safe, s)) return 0;
        int found = 0;
        for (int a = 0; a < ACTIONS; a++) {
            if (outcomes[s][a] != 0 && allSafe(outcomes[s][a])) found |= 1 << a;
        }
        return found;
    }

    int prune() {
        int taken = 0;
        for (int[] ofState : outcomes) {
            for (int a = 0; a < ACTIONS; a++) {
                if (ofState[a] != 0 && !allSafe(ofState[a])) {
                    ofState[a] = 0;
                    taken++;
                }
            }
        }
        return taken;
    }

    int hopeful() {
        return Integer.bitCount(safe & ~sure);
    }

    private boolean allSafe(int set) {
        for (int s = 0; s < STATES; s++) {
            if (has(set, s) && !has(safe, s)) return false;
        }
        return true;
    }

    private static boolean has(int set, int s) {
        return (set & 1 << s) != 0;
    }

    /** Makes the next policy out of this one; false after the last. */
    private boolean next(int[] policy) {
        for (int s = 0; s < STATES; s++) {
            if (has(goals, s)) continue;
            for (int a = policy[s] + 1; a < ACTIONS; a++) {
                if (outcomes[s][a] != 0) {
                    policy[s] = a;
                    return true;
                }
            }
            policy[s] = NO_ACTION;
        }
        return false;
    }

    private void judge(int[] policy, int s) {
        int fastest = fastest(policy, s);
        if (fastest >= 0) {
            weak |= 1 << s;
            if (luck[s] < 0 || fastest < luck[s]) luck[s] = fastest;
        }
        if (isSafeUnder(policy, s)) safe |= 1 << s;
        int slowest = slowest(policy, s);
        if (slowest >= 0) {
            sure |= 1 << s;
            boolean better = steps[s] < 0 || slowest < steps[s];
            if (better) steps[s] = slowest;
            if (!has(goals, s) && (better || slowest == steps[s] && policy[s] < sureAction[s])) {
                sureAction[s] = policy[s];
            }
        }
    }

    /** Where courses that are in a set of states can be one step later; goals and stuck ones stop. */
    private int step(int[] policy, int here) {
        int there = 0;
        for (int s = 0; s < STATES; s++) {
            if (has(here, s) && !has(goals, s) && policy[s] != NO_ACTION) there |= outcomes[s][policy[s]];
        }
        return there;
    }

    /** The steps of the shortest course from s to a goal, or -1. */
    private int fastest(int[] policy, int s) {
        int here = 1 << s;
        for (int k = 0; k <= STATES; k++) {
            if ((here & goals) != 0) return k;
            here = step(policy, here);
        }
        return -1;
    }

    /** The steps after which the last course from s has come to a goal, or -1. */
    private int slowest(int[] policy, int s) {
        int here = 1 << s;
        for (int k = 0; k <= STATES; k++) {
            if ((here & ~goals) == 0) return k;
            if (holdsStuck(policy, here)) return -1;
            here = step(policy, here);
        }
        return -1;
    }

    private boolean isSafeUnder(int[] policy, int s) {
        int met = 1 << s;
        for (int k = 0; k < STATES; k++) met |= step(policy, met);
        if (holdsStuck(policy, met)) return false;
        for (int t = 0; t < STATES; t++) {
            if (has(met, t) && fastest(policy, t) < 0) return false;
        }
        return true;
    }

    private boolean holdsStuck(int[] policy, int set) {
        for (int s = 0; s < STATES; s++) {
            if (has(set, s) && !has(goals, s) && policy[s] == NO_ACTION) return true;
        }
        return false;
    }
}
