import java.util.function.Consumer;

/**
 * Goals and actions, and a planner that has them. What a planner holds can be read back in full,
 * so that a test can say of a call that it changed this and nothing else.
 */
final class Plan {
    private static final int SLOTS = 24;

    private int goals;
    private final int[] outcomes = new int[SLOTS];

    private Plan(int goals) {
        this.goals = goals;
    }

    static Plan goals(int set) {
        return new Plan(set);
    }

    /** All 24 actions, no two of a state alike, and none empty. */
    static Plan full(int goals) {
        Plan p = goals(goals);
        for (int slot = 0; slot < SLOTS; slot++) p.outcomes[slot] = 1 + (slot * 37 + 11) % 255;
        return p;
    }

    /** From 0 to the goal 7, one state at a time. */
    static Plan chain() {
        Plan p = goals(128);
        for (int s = 0; s < 7; s++) p.set(s, 0, 1 << s + 1);
        return p;
    }

    /** Something of each sort: 3, 4 and 5 are sure, 0 is hopeful, 2 is weak, 1 and 6 are none of it. */
    static Plan rich() {
        return goals(128).set(0, 0, 0b10000010).set(0, 1, 1).set(0, 2, 0b10000001).set(2, 0, 0b10000010)
            .set(3, 0, 128).set(4, 0, 8).set(4, 1, 0b11000).set(5, 2, 0b10001000).set(6, 1, 64)
            .set(7, 0, 128).set(7, 1, 4);
    }

    /** Any goals and actions; a place that is drawn twice makes one action. */
    static Plan mixed(Row row, int actions, int most) {
        Plan p = goals(row.anySet(2));
        for (int n = 0; n < actions; n++) p.outcomes[row.any(SLOTS)] = row.anySet(most);
        return p;
    }

    int goals() {
        return goals;
    }

    /** The empty set if there is no such action. */
    int outcomes(int s, int a) {
        return outcomes[s * 3 + a];
    }

    Plan set(int s, int a, int set) {
        outcomes[s * 3 + a] = set;
        return this;
    }

    Plan setGoals(int set) {
        goals = set;
        return this;
    }

    /** Takes at most 25 calls. */
    CyclicPlanner make() {
        CyclicPlanner x = new CyclicPlanner();
        for (int slot = 0; slot < SLOTS; slot++) {
            if (outcomes[slot] != 0) x.action(slot / 3, slot % 3, outcomes[slot]);
        }
        x.goals(goals);
        return x;
    }

    /** The goals and then every action, as a planner of this plan should hold them. */
    int[] content() {
        int[] all = new int[1 + SLOTS];
        all[0] = goals;
        System.arraycopy(outcomes, 0, all, 1, SLOTS);
        return all;
    }

    /** The goals and then every action, as a planner of this plan does hold them after these calls. */
    int[] contentAfter(Consumer<CyclicPlanner> calls) {
        int[] all = new int[1 + SLOTS];
        CyclicPlanner x = make();
        calls.accept(x);
        for (int s = 0; s < 8; s++) if (x.luck(s) == 0) all[0] |= 1 << s;
        // Reading an action takes the others away, so there is a new planner for each.
        for (int slot = 0; slot < SLOTS; slot++) {
            CyclicPlanner y = make();
            calls.accept(y);
            all[1 + slot] = readAction(y, slot);
        }
        return all;
    }

    private static int readAction(CyclicPlanner x, int wanted) {
        for (int slot = 0; slot < SLOTS; slot++) if (slot != wanted) x.action(slot / 3, slot % 3, 0);
        int s = wanted / 3;
        int others = 0;
        for (int t = 0; t < 8; t++) {
            x.goals(1 << t);
            if (t != s && x.luck(s) == 1) others |= 1 << t;
        }
        x.goals(others);
        boolean onlyOthers = (x.sure() >> s & 1) != 0;
        // Without goals nothing is safe, so that an action goes if there is one.
        x.goals(0);
        boolean thereIsOne = x.prune() == 1;
        return thereIsOne && !onlyOthers ? others | 1 << s : others;
    }
}
