/** The sentences under "What it is" and "Terms" that name a boundary case, one test for each. */
public final class TermsEdgesTest {
    private static final int NONE = CyclicPlanner.NONE;
    private static final Due due = new Due();

    public static void main(String[] args) {
        due.sentence("What it is", "An object is used for at most 512 calls after it has been made", TermsEdgesTest::call512);
        due.sentence("What it is", "what later calls answer is free (but they end, LANGUAGE.md 7)", TermsEdgesTest::laterCalls);
        due.sentence("Terms", "There are 8 STATES, 0 to 7", TermsEdgesTest::eightStates);
        due.sentence("Terms", "in each state up to 3 ACTIONS, 0 to 2", TermsEdgesTest::upToThreeActions);
        due.sentence("Terms", "an action of a state has a set of OUTCOMES, states, at least one", TermsEdgesTest::atLeastOneOutcome);
        due.sentence("Terms", "a number whose bit s speaks of state s", TermsEdgesTest::bitOfEachState);
        due.sentence("Terms", "A POLICY names, for some states that are no goals, one action that there is", TermsEdgesTest::policyOfNone);
        due.sentence("Terms", "it stops at a goal", TermsEdgesTest::stopsAtGoal);
        due.sentence("Terms", "is STUCK at a state that is no goal and for which the policy names no action", TermsEdgesTest::stuck);
        due.sentence("Terms", "WEAK iff some policy has a course from it that comes to a goal", TermsEdgesTest::someCourse);
        due.sentence("Terms", "SAFE iff for some policy no course from it ever gets stuck", TermsEdgesTest::neverStuck);
        due.sentence("Terms", "from every state that a course comes to some course comes to a goal", TermsEdgesTest::wayOutOfEach);
        due.sentence("Terms", "SURE iff for some policy there is a number k", TermsEdgesTest::thereIsNumber);
        due.sentence("Terms", "and none gets stuck before that", TermsEdgesTest::noneStuckBefore);
        due.end();
    }

    /** A full planner after 511 calls: 24 actions, goals, and 486 that come and go. */
    private static CyclicPlanner after511() {
        CyclicPlanner x = new CyclicPlanner();
        for (int slot = 0; slot < 24; slot++) x.action(slot / 3, slot % 3, 255);
        for (int n = 0; n < 162; n++) {
            x.action(n % 8, n % 3, n % 256);
            x.goals(n);
            x.action(n % 8, n % 3, 255);
        }
        x.goals(1);
        return x;
    }

    private static void call512() {
        due.is("weak", after511().weak(), 255);
        due.is("safe", after511().safe(), 255);
        due.is("sure", after511().sure(), 1);
        due.is("steps of the goal", after511().steps(0), 0);
        due.is("steps of another", after511().steps(7), NONE);
        due.is("luck", after511().luck(7), 1);
        due.is("safeActions", after511().safeActions(7), 7);
        due.is("sureAction", after511().sureAction(7), NONE);
        due.is("prune", after511().prune(), 0);
        due.is("hopeful", after511().hopeful(), 7);
        due.is("action", after511().action(7, 2, 255), true);
        due.is("action refused", after511().action(7, 3, 255), false);
        due.is("goals", after511().goals(0), true);
        due.is("goals refused", after511().goals(256), false);

        CyclicPlanner asked = Plan.chain().make();
        for (int call = 9; call <= 512; call++) due.is("steps, call " + call, asked.steps(call % 8), 7 - call % 8);
    }

    private static void laterCalls() {
        CyclicPlanner x = after511();
        for (int n = -2000; n < 2000; n++) {
            x.action(n % 9, n % 4, n % 300);
            x.goals(n % 300);
            x.weak();
            x.safe();
            x.sure();
            x.steps(n % 9);
            x.luck(n % 9);
            x.safeActions(n % 9);
            x.sureAction(n % 9);
            x.hopeful();
            x.prune();
        }
    }

    private static void eightStates() {
        for (int s = 0; s < 8; s++) {
            for (int goal = 0; goal < 8; goal++) {
                if (s == goal) continue;
                CyclicPlanner x = Plan.goals(1 << goal).set(s, 0, 1 << goal).make();
                due.is("from " + s + " to " + goal, x.sure(), 1 << s | 1 << goal);
            }
        }
        due.is("state 0 is one", new CyclicPlanner().steps(0), NONE);
        due.is("state 7 is one", new CyclicPlanner().steps(7), NONE);
        due.is("state 8 is none", new CyclicPlanner().steps(8), CyclicPlanner.BAD);
        due.is("all are goals", Plan.goals(255).make().sure(), 255);
    }

    private static void upToThreeActions() {
        for (int s = 0; s < 8; s++) {
            int goal = 1 << (s + 1) % 8;
            for (int which = 0; which < 8; which++) {
                Plan p = Plan.goals(goal);
                for (int a = 0; a < 3; a++) if ((which >> a & 1) != 0) p.set(s, a, goal);
                due.is("state " + s + " with actions " + which, p.make().safeActions(s), which);
            }
        }
        Plan full = Plan.full(0b1000);
        due.is("all 24 side by side", full.contentAfter(x -> { }), full.content());
    }

    private static void atLeastOneOutcome() {
        CyclicPlanner one = Plan.goals(128).set(0, 1, 128).make();
        due.is("one outcome", one.steps(0), 1);
        CyclicPlanner all = Plan.goals(128).set(0, 1, 255).make();
        due.is("all eight outcomes", all.luck(0), 1);
        due.is("all eight outcomes, most of them stuck", all.safe(), 128);
        CyclicPlanner none = Plan.goals(128).make();
        due.is("the empty set", none.action(0, 1, 0), true);
        due.is("no outcome is no action: weak", none.weak(), 128);
        due.is("no outcome is no action: safe", none.safe(), 128);
        due.is("no outcome is no action: sure", none.sure(), 128);
        CyclicPlanner beside = Plan.goals(128).set(0, 2, 128).make();
        beside.action(0, 0, 0);
        due.is("no outcome is no safe action", beside.safeActions(0), 0b100);
        due.is("no outcome is no sure action", beside.sureAction(0), 2);
        beside.goals(0);
        due.is("no outcome is nothing to take away", beside.prune(), 1);
    }

    private static void bitOfEachState() {
        for (int s = 0; s < 8; s++) {
            CyclicPlanner x = Plan.goals(1 << s).make();
            due.is("weak, bit " + s, x.weak(), 1 << s);
            due.is("safe, bit " + s, x.safe(), 1 << s);
            due.is("sure, bit " + s, x.sure(), 1 << s);
            for (int t = 0; t < 8; t++) due.is("goal " + s + ", luck of " + t, x.luck(t), s == t ? 0 : NONE);
            int from = (s + 3) % 8;
            CyclicPlanner y = Plan.goals(1 << s).set(from, 0, 1 << s).make();
            due.is("outcome, bit " + s, y.luck(from), 1);
        }
    }

    private static void policyOfNone() {
        CyclicPlanner allGoals = Plan.full(255).make();
        due.is("a policy for no state is enough for goals", allGoals.sure(), 255);
        for (int s = 0; s < 8; s++) due.is("no action is named for a goal", allGoals.sureAction(s), NONE);
        CyclicPlanner noActions = Plan.goals(0b10000001).make();
        due.is("where there is no action none is named", noActions.weak(), 0b10000001);
        // Each action alone may get stuck; both together would not, but a policy names one.
        CyclicPlanner two = Plan.goals(128).set(0, 0, 0b10000010).set(0, 1, 0b10000100).make();
        due.is("one action, not two", two.safe(), 128);
    }

    private static void stopsAtGoal() {
        CyclicPlanner x = Plan.goals(0b10001000).set(7, 0, 1).set(7, 1, 0b11).set(3, 0, 8).set(2, 0, 128).make();
        due.is("what a goal's actions lead to spoils nothing: safe", x.safe(), 0b10001100);
        due.is("what a goal's actions lead to spoils nothing: sure", x.sure(), 0b10001100);
        due.is("a goal's course has no step", x.steps(7), 0);
        due.is("the step before it is the last", x.steps(2), 1);
        due.is("a goal's loop is not gone round", x.steps(3), 0);
    }

    private static void stuck() {
        Plan p = Plan.goals(128).set(0, 0, 0b10000010);
        due.is("stuck at 1, that has no action: weak", p.make().weak(), 0b10000001);
        due.is("stuck at 1, that has no action: safe", p.make().safe(), 128);
        due.is("stuck at 1, that has no action: sure", p.make().sure(), 128);
        p.setGoals(0b10000010);
        due.is("a goal without an action is not stuck: safe", p.make().safe(), 0b10000011);
        due.is("a goal without an action is not stuck: sure", p.make().sure(), 0b10000011);
    }

    private static void someCourse() {
        CyclicPlanner allStuck = Plan.goals(128).set(0, 2, 255).make();
        due.is("one course of eight", allStuck.weak(), 0b10000001);
        CyclicPlanner noCourse = Plan.goals(128).set(0, 0, 0b1111111).set(1, 0, 0b1111111).make();
        due.is("every outcome but the goal", noCourse.weak(), 128);
    }

    private static void neverStuck() {
        // Lucky at each of six steps, and stuck only after the seventh.
        Plan p = Plan.goals(128);
        for (int s = 1; s < 7; s++) p.set(s, 0, 128 | 1 << s - 1);
        due.is("stuck late is stuck", p.make().safe(), 128);
        due.is("another action of the last mends all", p.set(0, 2, 0b11).make().safe(), 255);
    }

    private static void wayOutOfEach() {
        Plan p = Plan.goals(128).set(0, 0, 0b10000010).set(1, 0, 0b100).set(2, 0, 0b10);
        due.is("never stuck, but a ring without a way out", p.make().safe(), 128);
        due.is("a way out of the ring", p.set(2, 1, 0b10000010).make().safe(), 0b10000111);
        Plan ring = Plan.goals(1);
        for (int s = 1; s < 8; s++) ring.set(s, 0, s == 7 ? 0b11 : 1 << s + 1);
        due.is("a ring of seven with one way out", ring.make().safe(), 255);
        due.is("a ring of seven without one", ring.set(7, 0, 0b10).make().safe(), 1);
    }

    private static void thereIsNumber() {
        CyclicPlanner x = Plan.chain().make();
        due.is("k is 0 at the least", x.steps(7), 0);
        due.is("k is 7 at the most", x.steps(0), 7);
        due.is("with k = 7 it is sure", x.sure(), 255);
        CyclicPlanner loop = Plan.goals(128).set(0, 0, 0b10000001).make();
        due.is("a loop has no such number", loop.sure(), 128);
        due.is("though it is safe", loop.safe(), 0b10000001);
        Plan ring = Plan.goals(128).set(0, 0, 0b10).set(1, 0, 0b10000001);
        due.is("a longer loop has none either", ring.make().sure(), 128);
        due.is("for some policy there is one", ring.set(1, 2, 128).make().sure(), 0b10000011);
    }

    private static void noneStuckBefore() {
        Plan p = Plan.chain().set(0, 0, 0b1100).set(1, 0, 0);
        due.is("no outcome is stuck", p.make().sure(), 253);
        due.is("one outcome is stuck", p.set(0, 0, 0b1110).make().sure(), 252);
    }
}
