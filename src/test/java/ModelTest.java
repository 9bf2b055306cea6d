/** Long mixed runs on one object, each answer held against the one that trying all policies gives. */
public final class ModelTest {
    private static final Due due = new Due();
    private static long seed = 20261115L;

    public static void main(String[] args) {
        // Few actions are quick to try out, so there are more of those runs.
        for (int run = 0; run < 400; run++) mixedRun("sparse run " + run, 10, 2);
        for (int run = 0; run < 60; run++) mixedRun("medium run " + run, 16, 3);
        for (int run = 0; run < 15; run++) mixedRun("dense run " + run, 40, 3);
        due.end();
    }

    /** A fixed row of numbers that look random, so that every run of the test is the same. */
    private static int any(int bound) {
        seed = seed * 6364136223846793005L + 1442695040888963407L;
        return (int) ((seed >>> 33) % bound);
    }

    private static int anySet(int most) {
        int set = 0;
        for (int n = any(most) + 1; n > 0; n--) set |= 1 << any(8);
        return set;
    }

    private static void mixedRun(String name, int actions, int most) {
        CyclicPlanner x = new CyclicPlanner();
        Model m = new Model();
        setGoals(name, x, m, anySet(2));
        for (int n = 0; n < actions; n++) giveAction(name, x, m, anySet(most));
        compare(name, x, m);
        for (int turn = 0; turn < 4; turn++) {
            String at = name + " turn " + turn;
            switch (any(5)) {
                case 0 -> setGoals(at, x, m, any(4) == 0 ? 0 : anySet(3));
                case 1 -> giveAction(at, x, m, 0);
                case 2 -> due.is(at + ": prune()", x.prune(), m.prune());
                default -> giveAction(at, x, m, anySet(most));
            }
            compare(at, x, m);
        }
        due.is(name + ": last prune()", x.prune(), m.prune());
        compare(name + " pruned", x, m);
        due.is(name + ": prune() again", x.prune(), 0);
    }

    private static void setGoals(String name, CyclicPlanner x, Model m, int set) {
        m.goals = set;
        due.is(name + ": goals(" + set + ")", x.goals(set), true);
    }

    private static void giveAction(String name, CyclicPlanner x, Model m, int set) {
        int s = any(8);
        int a = any(3);
        m.outcomes[s][a] = set;
        due.is(name + ": action(" + s + ", " + a + ", " + set + ")", x.action(s, a, set), true);
    }

    private static void compare(String name, CyclicPlanner x, Model m) {
        m.workOut();
        due.is(name + ": weak()", x.weak(), m.weak);
        due.is(name + ": safe()", x.safe(), m.safe);
        due.is(name + ": sure()", x.sure(), m.sure);
        due.is(name + ": hopeful()", x.hopeful(), m.hopeful());
        for (int s = 0; s < Model.STATES; s++) {
            due.is(name + ": steps(" + s + ")", x.steps(s), m.steps[s]);
            due.is(name + ": luck(" + s + ")", x.luck(s), m.luck[s]);
            due.is(name + ": safeActions(" + s + ")", x.safeActions(s), m.safeActions(s));
            due.is(name + ": sureAction(" + s + ")", x.sureAction(s), m.sureAction[s]);
        }
    }
}
