/**
 * Each answer held against the one that trying all policies gives: in every world of a few states
 * and actions, and in long mixed runs on one object.
 */
public final class ModelTest {
    private static final Due due = new Due();
    private static final Row row = new Row(20261115L);

    public static void main(String[] args) {
        // Few actions are quick to try out, so there are more of those runs.
        for (int run = 0; run < 400; run++) mixedRun("sparse run " + run, 10, 2);
        for (int run = 0; run < 60; run++) mixedRun("medium run " + run, 16, 3);
        for (int run = 0; run < 15; run++) mixedRun("dense run " + run, 40, 3);
        everyWorld("2 states, 3 actions", new int[] {1, 6}, 3);
        everyWorld("3 states, 1 action", new int[] {0, 4, 7}, 1);
        due.end();
    }

    /** Every choice of goals and of outcomes, an action that is not there among them, for these states. */
    private static void everyWorld(String name, int[] states, int actions) {
        int sets = 1 << states.length;
        int slots = states.length * actions;
        int worlds = 1 << states.length * (slots + 1);
        for (int world = 0; world < worlds; world++) {
            CyclicPlanner x = new CyclicPlanner();
            Model m = new Model();
            String at = name + ", world " + world;
            int left = world / sets;
            setGoals(at, x, m, spread(world % sets, states));
            for (int slot = 0; slot < slots; slot++) {
                setAction(at, x, m, states[slot / actions], slot % actions, spread(left % sets, states));
                left /= sets;
            }
            compare(at, x, m);
            due.is(at + ": prune()", x.prune(), m.prune());
            compare(at + " pruned", x, m);
        }
    }

    /** The set in which states[i] stands for i. */
    private static int spread(int set, int[] states) {
        int spread = 0;
        for (int i = 0; i < states.length; i++) if ((set >> i & 1) != 0) spread |= 1 << states[i];
        return spread;
    }

    private static void mixedRun(String name, int actions, int most) {
        CyclicPlanner x = new CyclicPlanner();
        Model m = new Model();
        setGoals(name, x, m, row.anySet(2));
        for (int n = 0; n < actions; n++) giveAction(name, x, m, row.anySet(most));
        compare(name, x, m);
        for (int turn = 0; turn < 4; turn++) {
            String at = name + " turn " + turn;
            switch (row.any(5)) {
                case 0 -> setGoals(at, x, m, row.any(4) == 0 ? 0 : row.anySet(3));
                case 1 -> giveAction(at, x, m, 0);
                case 2 -> due.is(at + ": prune()", x.prune(), m.prune());
                default -> giveAction(at, x, m, row.anySet(most));
            }
            compare(at, x, m);
        }
        due.is(name + ": last prune()", x.prune(), m.prune());
        compare(name + " pruned", x, m);
        due.is(name + ": prune() again", x.prune(), 0);
    }

    private static void setGoals(String name, CyclicPlanner x, Model m, int set) {
        m.goals = set;
        due.is(name + ": goals(" + set + ")", x.goals(set), true);
    }

    private static void giveAction(String name, CyclicPlanner x, Model m, int set) {
        setAction(name, x, m, row.any(8), row.any(3), set);
    }

    private static void setAction(String name, CyclicPlanner x, Model m, int s, int a, int set) {
        m.outcomes[s][a] = set;
        due.is(name + ": action(" + s + ", " + a + ", " + set + ")", x.action(s, a, set), true);
    }

    private static void compare(String name, CyclicPlanner x, Model m) {
        m.workOut();
        due.is(name + ": weak()", x.weak(), m.weak);
        due.is(name + ": safe()", x.safe(), m.safe);
        due.is(name + ": sure()", x.sure(), m.sure);
        due.is(name + ": hopeful()", x.hopeful(), m.hopeful());
        for (int s = 0; s < Model.STATES; s++) {
            due.is(name + ": steps(" + s + ")", x.steps(s), m.steps[s]);
            due.is(name + ": luck(" + s + ")", x.luck(s), m.luck[s]);
            due.is(name + ": safeActions(" + s + ")", x.safeActions(s), m.safeActions(s));
            due.is(name + ": sureAction(" + s + ")", x.sureAction(s), m.sureAction[s]);
        }
    }
}
