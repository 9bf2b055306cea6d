/** The sentences of promises 1, 2, 3, 11 and 13 that name a boundary case, one test for each. */
public final class ChangesEdgesTest {
    private static final int BAD = CyclicPlanner.BAD;
    private static final int NONE = CyclicPlanner.NONE;
    private static final int[] SETS = {1, 2, 128, 129, 254, 255};
    private static final Due due = new Due();

    public static void main(String[] args) {
        due.sentence("Promise 1", "No actions, no goals.", ChangesEdgesTest::newObject);
        due.sentence("Promise 2", "Gives a state an action with these outcomes", ChangesEdgesTest::givesAction);
        due.sentence("Promise 2", "or, with the empty set, takes the action away", ChangesEdgesTest::takesActionAway);
        due.sentence("Promise 2", "s outside 0..7: refused, answers false", ChangesEdgesTest::actionOfNoState);
        due.sentence("Promise 2", "a outside 0..2: refused, answers false", ChangesEdgesTest::noAction);
        due.sentence("Promise 2", "outcomes outside 0..255: refused, answers false", ChangesEdgesTest::noOutcomeSet);
        due.sentence("Promise 2", "s ..., a ... or outcomes outside: more than one of them", ChangesEdgesTest::moreThanOneWrong);
        due.sentence("Promise 2", "Else true.", ChangesEdgesTest::actionElseTrue);
        due.sentence("Promise 3", "Makes just the states of a set goals.", ChangesEdgesTest::justTheseGoals);
        due.sentence("Promise 3", "the empty set as goals", ChangesEdgesTest::emptyGoals);
        due.sentence("Promise 3", "the full set as goals", ChangesEdgesTest::fullGoals);
        due.sentence("Promise 3", "set outside 0..255: refused, answers false.", ChangesEdgesTest::noGoalSet);
        due.sentence("Promise 3", "Else true.", ChangesEdgesTest::goalsElseTrue);
        due.sentence("Promise 11", "Takes away every action some outcome of which is not safe", ChangesEdgesTest::someOutcome);
        due.sentence("Promise 11", "answers how many were taken away: none", ChangesEdgesTest::pruneNone);
        due.sentence("Promise 11", "answers how many were taken away: all", ChangesEdgesTest::pruneAll);
        due.sentence("Promise 11", "(Actions of goals, too.)", ChangesEdgesTest::pruneGoals);
        due.sentence("Promise 13", "refused (by a code below 0 that is named ...) changes nothing", ChangesEdgesTest::refusedByCode);
        due.sentence("Promise 13", "refused (... or by false) changes nothing", ChangesEdgesTest::refusedByFalse);
        due.sentence("Promise 13", "on a new object, too", ChangesEdgesTest::refusedFirst);
        due.sentence("Promise 13", "however many there are", ChangesEdgesTest::refusedOften);
        due.end();
    }

    private static void newObject() {
        due.is("content", Plan.goals(0).contentAfter(x -> { }), new int[25]);
        due.is("no goals", new CyclicPlanner().weak(), 0);
        due.is("no actions", new CyclicPlanner().prune(), 0);
        CyclicPlanner used = Plan.full(255).make();
        due.is("a new one beside a full one", new CyclicPlanner().weak(), 0);
        due.is("the full one beside a new one", used.weak(), 255);
    }

    private static void givesAction() {
        for (int slot = 0; slot < 24; slot++) {
            int s = slot / 3;
            int a = slot % 3;
            for (int set : SETS) {
                String call = "action(" + s + ", " + a + ", " + set + ")";
                due.is(call + " where there is none", Plan.goals(2).contentAfter(x -> due.is(call, x.action(s, a, set), true)),
                    Plan.goals(2).set(s, a, set).content());
                due.is(call + " in place of another", Plan.full(2).contentAfter(x -> due.is(call, x.action(s, a, set), true)),
                    Plan.full(2).set(s, a, set).content());
            }
        }
    }

    private static void takesActionAway() {
        for (int slot = 0; slot < 24; slot++) {
            int s = slot / 3;
            int a = slot % 3;
            String call = "action(" + s + ", " + a + ", 0)";
            due.is(call, Plan.full(2).contentAfter(x -> due.is(call, x.action(s, a, 0), true)),
                Plan.full(2).set(s, a, 0).content());
            due.is(call + " where there is none", Plan.goals(2).contentAfter(x -> due.is(call, x.action(s, a, 0), true)),
                Plan.goals(2).content());
            due.is(call + " twice", Plan.full(2).set(s, a, 0).contentAfter(x -> due.is(call, x.action(s, a, 0), true)),
                Plan.full(2).set(s, a, 0).content());
            due.is(call + " and given again", Plan.full(2).contentAfter(x -> {
                x.action(s, a, 0);
                x.action(s, a, 129);
            }), Plan.full(2).set(s, a, 129).content());
        }
    }

    /** Refused, whether there are many actions to spoil or none. */
    private static void refusesAction(int s, int a, int outcomes) {
        String call = "action(" + s + ", " + a + ", " + outcomes + ")";
        for (Plan p : new Plan[] {Plan.full(4), Plan.goals(0)}) {
            due.is(call, p.contentAfter(x -> due.is(call, x.action(s, a, outcomes), false)), p.content());
        }
    }

    private static void actionOfNoState() {
        for (int s : Outside.STATES) {
            for (int a = 0; a < 3; a++) {
                refusesAction(s, a, 0);
                refusesAction(s, a, 1);
                refusesAction(s, a, 255);
            }
        }
    }

    private static void noAction() {
        for (int a : Outside.ACTIONS) {
            for (int s = 0; s < 8; s++) {
                refusesAction(s, a, 0);
                refusesAction(s, a, 1);
                refusesAction(s, a, 255);
            }
        }
    }

    private static void noOutcomeSet() {
        for (int set : Outside.SETS) {
            for (int slot = 0; slot < 24; slot += 23) refusesAction(slot / 3, slot % 3, set);
            refusesAction(4, 1, set);
        }
    }

    private static void moreThanOneWrong() {
        refusesAction(8, 3, 256);
        refusesAction(-1, -1, -1);
        refusesAction(-1, 3, 0);
        refusesAction(8, -1, 1);
        refusesAction(8, -24, 1);
        refusesAction(0, 3, 256);
        refusesAction(7, -1, -1);
        refusesAction(8, 0, 256);
        refusesAction(-1, 2, -1);
        refusesAction(Integer.MIN_VALUE, Integer.MIN_VALUE, Integer.MIN_VALUE);
        refusesAction(Integer.MAX_VALUE, Integer.MAX_VALUE, Integer.MAX_VALUE);
    }

    private static void actionElseTrue() {
        for (int s = 0; s < 8; s += 7) {
            for (int a = 0; a < 3; a += 2) {
                CyclicPlanner x = new CyclicPlanner();
                for (int set = 0; set < 256; set++) due.is("action(" + s + ", " + a + ", " + set + ")", x.action(s, a, set), true);
            }
        }
        for (int slot = 0; slot < 24; slot++) {
            due.is("to itself alone", new CyclicPlanner().action(slot / 3, slot % 3, 1 << slot / 3), true);
            due.is("of a goal", Plan.goals(255).make().action(slot / 3, slot % 3, 255), true);
        }
    }

    private static void justTheseGoals() {
        for (int set = 0; set < 256; set++) {
            CyclicPlanner x = Plan.goals(255 - set).make();
            due.is("goals(" + set + ") after the opposite", x.goals(set), true);
            due.is("goals(" + set + ") after the opposite", x.sure(), set);
        }
        for (int s = 0; s < 8; s++) {
            int set = 1 << s;
            due.is("goals(" + set + ") leaves actions alone", Plan.full(128).contentAfter(x -> x.goals(set)), Plan.full(set).content());
        }
    }

    private static void emptyGoals() {
        due.is("goals(0)", Plan.full(255).contentAfter(x -> due.is("goals(0)", x.goals(0), true)), Plan.full(0).content());
        due.is("goals(0) twice", Plan.full(0).contentAfter(x -> due.is("goals(0)", x.goals(0), true)), Plan.full(0).content());
        due.is("goals(0) on a new object", new CyclicPlanner().goals(0), true);
    }

    private static void fullGoals() {
        due.is("goals(255)", Plan.full(0).contentAfter(x -> due.is("goals(255)", x.goals(255), true)), Plan.full(255).content());
        due.is("goals(255) twice", Plan.full(255).contentAfter(x -> due.is("goals(255)", x.goals(255), true)), Plan.full(255).content());
        due.is("goals(255) on a new object", new CyclicPlanner().goals(255), true);
    }

    private static void noGoalSet() {
        for (int set : Outside.SETS) {
            String call = "goals(" + set + ")";
            for (int goals : new int[] {0, 0b1010, 255}) {
                Plan p = Plan.full(goals);
                due.is(call, p.contentAfter(x -> due.is(call, x.goals(set), false)), p.content());
            }
        }
    }

    private static void goalsElseTrue() {
        CyclicPlanner x = new CyclicPlanner();
        for (int set = 0; set < 256; set++) due.is("goals(" + set + ")", x.goals(set), true);
    }

    private static void someOutcome() {
        // All but 6 are safe. 6 is one of eight outcomes, or the only one, or none.
        Plan p = Plan.goals(128);
        for (int s = 0; s < 6; s++) p.set(s, 0, 128 | 1 << s).set(s, 1, 255).set(s, 2, 64);
        Plan left = Plan.goals(128);
        for (int s = 0; s < 6; s++) left.set(s, 0, 128 | 1 << s);
        due.is("one of eight, or the only one", p.contentAfter(x -> due.is("prune()", x.prune(), 12)), left.content());

        Plan loop = Plan.goals(128).set(0, 0, 128).set(0, 1, 1);
        due.is("one that turns round among safe states stays", loop.contentAfter(x -> due.is("prune()", x.prune(), 0)), loop.content());
        Plan lost = Plan.goals(128).set(0, 0, 128).set(1, 2, 2);
        due.is("one that turns round among others goes", lost.contentAfter(x -> due.is("prune()", x.prune(), 1)),
            Plan.goals(128).set(0, 0, 128).content());
    }

    private static void pruneNone() {
        due.is("there is none", Plan.goals(0).make().prune(), 0);
        due.is("there is none, but goals", Plan.goals(255).make().prune(), 0);
        Plan chain = Plan.chain();
        due.is("all are safe", chain.contentAfter(x -> due.is("prune()", x.prune(), 0)), chain.content());
        Plan full = Plan.full(255);
        due.is("every state is a goal", full.contentAfter(x -> due.is("prune()", x.prune(), 0)), full.content());
        CyclicPlanner twice = Plan.rich().make();
        due.is("the first time", twice.prune(), 4);
        due.is("the second time", twice.prune(), 0);
    }

    private static void pruneAll() {
        due.is("no state is a goal", Plan.full(0).contentAfter(x -> due.is("prune()", x.prune(), 24)), new int[25]);
        Plan p = Plan.goals(128);
        for (int slot = 0; slot < 24; slot++) p.set(slot / 3, slot % 3, 0b1111111);
        due.is("the goal can't be reached", p.contentAfter(x -> due.is("prune()", x.prune(), 24)), Plan.goals(128).content());
        for (int slot = 0; slot < 24; slot++) {
            Plan one = Plan.goals(0).set(slot / 3, slot % 3, 1);
            due.is("the only one", one.contentAfter(x -> due.is("prune()", x.prune(), 1)), new int[25]);
        }
    }

    private static void pruneGoals() {
        Plan p = Plan.goals(0b10000001).set(7, 0, 2).set(7, 1, 0b10000011).set(7, 2, 0b10000001).set(0, 2, 0b10).set(0, 0, 1);
        due.is("of goals", p.contentAfter(x -> due.is("prune()", x.prune(), 3)),
            Plan.goals(0b10000001).set(7, 2, 0b10000001).set(0, 0, 1).content());
    }

    private static void refusedByCode() {
        Plan p = Plan.rich();
        for (int s : Outside.STATES) {
            due.is("steps(" + s + ")", p.contentAfter(x -> due.is("steps", x.steps(s), BAD)), p.content());
            due.is("luck(" + s + ")", p.contentAfter(x -> due.is("luck", x.luck(s), BAD)), p.content());
            due.is("sureAction(" + s + ")", p.contentAfter(x -> due.is("sureAction", x.sureAction(s), NONE)), p.content());
            due.is("safeActions(" + s + ")", p.contentAfter(x -> due.is("safeActions", x.safeActions(s), 0)), p.content());
        }
        for (int s : new int[] {0, 1, 2, 6}) {
            due.is("steps(" + s + ")", p.contentAfter(x -> due.is("steps", x.steps(s), NONE)), p.content());
            due.is("sureAction(" + s + ")", p.contentAfter(x -> due.is("sureAction", x.sureAction(s), NONE)), p.content());
        }
        for (int s : new int[] {1, 6}) {
            due.is("luck(" + s + ")", p.contentAfter(x -> due.is("luck", x.luck(s), NONE)), p.content());
        }
        due.is("sureAction of a goal", p.contentAfter(x -> due.is("sureAction", x.sureAction(7), NONE)), p.content());
    }

    private static void refuseAll(CyclicPlanner x) {
        for (int s : Outside.STATES) due.is("s " + s, x.action(s, 0, 3), false);
        for (int a : Outside.ACTIONS) due.is("a " + a, x.action(0, a, 3), false);
        for (int set : Outside.SETS) {
            due.is("outcomes " + set, x.action(0, 0, set), false);
            due.is("set " + set, x.goals(set), false);
        }
    }

    private static void refusedByFalse() {
        Plan p = Plan.rich();
        due.is("after all refusals", p.contentAfter(ChangesEdgesTest::refuseAll), p.content());
        due.is("a call after them counts", p.contentAfter(x -> {
            refuseAll(x);
            due.is("action", x.action(0, 0, 5), true);
            due.is("goals", x.goals(6), true);
        }), Plan.rich().set(0, 0, 5).setGoals(6).content());
    }

    private static void refusedFirst() {
        due.is("new object", Plan.goals(0).contentAfter(ChangesEdgesTest::refuseAll), new int[25]);
    }

    private static void refusedOften() {
        Plan p = Plan.rich();
        due.is("400 refusals", p.contentAfter(x -> {
            for (int n = 0; n < 100; n++) {
                due.is("action", x.action(n % 8, 3, n), false);
                due.is("goals", x.goals(256 + n), false);
                due.is("steps", x.steps(8 + n), BAD);
                due.is("luck", x.luck(-1 - n), BAD);
            }
        }), p.content());
    }
}
