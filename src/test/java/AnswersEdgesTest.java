/** The sentences of promises 4 to 10 and 12 that name a boundary case, one test for each. */
public final class AnswersEdgesTest {
    private static final int BAD = CyclicPlanner.BAD;
    private static final int NONE = CyclicPlanner.NONE;
    private static final Due due = new Due();

    public static void main(String[] args) {
        due.sentence("Promise 4", "weak: a goal itself counts", AnswersEdgesTest::weakGoal);
        due.sentence("Promise 4", "weak: no goals at all", AnswersEdgesTest::weakWithoutGoals);
        due.sentence("Promise 4", "weak: every state a goal", AnswersEdgesTest::weakAllGoals);
        due.sentence("Promise 4", "weak: all by one goal", AnswersEdgesTest::weakAll);
        due.sentence("Promise 5", "safe: a goal itself counts", AnswersEdgesTest::safeGoal);
        due.sentence("Promise 5", "safe: no goals at all", AnswersEdgesTest::safeWithoutGoals);
        due.sentence("Promise 5", "safe: every state a goal", AnswersEdgesTest::safeAllGoals);
        due.sentence("Promise 5", "safe: all by one goal", AnswersEdgesTest::safeAll);
        due.sentence("Promise 6", "sure: a goal itself counts", AnswersEdgesTest::sureGoal);
        due.sentence("Promise 6", "sure: no goals at all", AnswersEdgesTest::sureWithoutGoals);
        due.sentence("Promise 6", "sure: every state a goal", AnswersEdgesTest::sureAllGoals);
        due.sentence("Promise 6", "sure: all by one goal", AnswersEdgesTest::sureAll);
        due.sentence("Promise 7", "The smallest k: from 0 to 7", AnswersEdgesTest::stepsRange);
        due.sentence("Promise 7", "s outside 0..7: BAD", AnswersEdgesTest::stepsOfNoState);
        due.sentence("Promise 7", "s is not sure: NONE", AnswersEdgesTest::stepsNotSure);
        due.sentence("Promise 7", "Tested in this order", AnswersEdgesTest::stepsOrder);
        due.sentence("Promise 8", "The smallest number of steps: from 0 to 7", AnswersEdgesTest::luckRange);
        due.sentence("Promise 8", "s outside 0..7: BAD", AnswersEdgesTest::luckOfNoState);
        due.sentence("Promise 8", "s is not weak: NONE", AnswersEdgesTest::luckNotWeak);
        due.sentence("Promise 8", "Tested in this order", AnswersEdgesTest::luckOrder);
        due.sentence("Promise 9", "all of whose outcomes are safe: none to all three", AnswersEdgesTest::safeActionsRange);
        due.sentence("Promise 9", "0 if s is a goal", AnswersEdgesTest::safeActionsOfGoal);
        due.sentence("Promise 9", "0 if s is ... not safe", AnswersEdgesTest::safeActionsNotSafe);
        due.sentence("Promise 9", "0 if s is ... outside 0..7", AnswersEdgesTest::safeActionsOfNoState);
        due.sentence("Promise 10", "The smallest action of s ... can keep to steps(s)", AnswersEdgesTest::sureActionSmallest);
        due.sentence("Promise 10", "NONE if s is a goal", AnswersEdgesTest::sureActionOfGoal);
        due.sentence("Promise 10", "NONE if s is ... not sure", AnswersEdgesTest::sureActionNotSure);
        due.sentence("Promise 10", "NONE if s is ... outside 0..7", AnswersEdgesTest::sureActionOfNoState);
        due.sentence("Promise 12", "hopeful: none", AnswersEdgesTest::hopefulNone);
        due.sentence("Promise 12", "hopeful: all that can be so", AnswersEdgesTest::hopefulAll);
        due.end();
    }

    /** These goals without any action, and with 24 of which none leads from another state to a goal. */
    private static Plan[] goalsAlone(int set) {
        Plan busy = Plan.goals(set);
        for (int slot = 0; slot < 24; slot++) {
            boolean ofGoal = (set >> slot / 3 & 1) != 0;
            int others = 255 & ~set;
            busy.set(slot / 3, slot % 3, ofGoal ? 255 : others);
        }
        return new Plan[] {Plan.goals(set), busy};
    }

    private static void weakGoal() {
        for (int set = 0; set < 256; set++) for (Plan p : goalsAlone(set)) due.is("goals " + set, p.make().weak(), set);
    }

    private static void safeGoal() {
        for (int set = 0; set < 256; set++) for (Plan p : goalsAlone(set)) due.is("goals " + set, p.make().safe(), set);
    }

    private static void sureGoal() {
        for (int set = 0; set < 256; set++) for (Plan p : goalsAlone(set)) due.is("goals " + set, p.make().sure(), set);
    }

    /** New, full, and with goals that were taken away. */
    private static CyclicPlanner[] withoutGoals() {
        CyclicPlanner noMore = Plan.chain().make();
        noMore.goals(0);
        return new CyclicPlanner[] {new CyclicPlanner(), Plan.full(0).make(), noMore};
    }

    private static void weakWithoutGoals() {
        for (CyclicPlanner x : withoutGoals()) due.is("weak", x.weak(), 0);
    }

    private static void safeWithoutGoals() {
        for (CyclicPlanner x : withoutGoals()) due.is("safe", x.safe(), 0);
    }

    private static void sureWithoutGoals() {
        for (CyclicPlanner x : withoutGoals()) due.is("sure", x.sure(), 0);
    }

    private static void weakAllGoals() {
        due.is("without actions", Plan.goals(255).make().weak(), 255);
        due.is("with all actions", Plan.full(255).make().weak(), 255);
    }

    private static void safeAllGoals() {
        due.is("without actions", Plan.goals(255).make().safe(), 255);
        due.is("with all actions", Plan.full(255).make().safe(), 255);
    }

    private static void sureAllGoals() {
        due.is("without actions", Plan.goals(255).make().sure(), 255);
        due.is("with all actions", Plan.full(255).make().sure(), 255);
    }

    /** From s + 1 to s, with the goal 0: the chain the other way round. */
    private static Plan chainDown() {
        Plan p = Plan.goals(1);
        for (int s = 1; s < 8; s++) p.set(s, 2, 1 << s - 1);
        return p;
    }

    private static void weakAll() {
        due.is("chain", Plan.chain().make().weak(), 255);
        due.is("chain down", chainDown().make().weak(), 255);
        due.is("chain without its last link", Plan.chain().set(6, 0, 0).make().weak(), 128);
        due.is("chain without its first link", Plan.chain().set(0, 0, 0).make().weak(), 254);
    }

    private static void safeAll() {
        due.is("chain", Plan.chain().make().safe(), 255);
        due.is("chain down", chainDown().make().safe(), 255);
        due.is("chain without its last link", Plan.chain().set(6, 0, 0).make().safe(), 128);
        due.is("chain without its first link", Plan.chain().set(0, 0, 0).make().safe(), 254);
        Plan back = Plan.chain();
        for (int s = 0; s < 7; s++) back.set(s, 0, 1 << s + 1 | 1);
        due.is("chain in which each step may come back to the start", back.make().safe(), 255);
    }

    private static void sureAll() {
        due.is("chain", Plan.chain().make().sure(), 255);
        due.is("chain down", chainDown().make().sure(), 255);
        due.is("chain without its last link", Plan.chain().set(6, 0, 0).make().sure(), 128);
        due.is("chain without its first link", Plan.chain().set(0, 0, 0).make().sure(), 254);
    }

    private static void stepsRange() {
        for (int s = 0; s < 8; s++) {
            due.is("chain, from " + s, Plan.chain().make().steps(s), 7 - s);
            due.is("chain down, from " + s, chainDown().make().steps(s), s);
            due.is("goals alone", Plan.full(255).make().steps(s), 0);
        }
        Plan wide = Plan.goals(128);
        for (int s = 0; s < 7; s++) wide.set(s, 1, 255 & ~((2 << s) - 1));
        for (int s = 0; s < 8; s++) due.is("the slowest outcome, from " + s, wide.make().steps(s), 7 - s);
        due.is("the smallest k of two actions", wide.set(0, 2, 128).make().steps(0), 1);
    }

    private static void stepsOfNoState() {
        CyclicPlanner x = Plan.chain().make();
        for (int s : Outside.STATES) due.is("steps(" + s + ")", x.steps(s), BAD);
        due.is("steps(0)", x.steps(0), 7);
        due.is("steps(7)", x.steps(7), 0);
    }

    private static void stepsNotSure() {
        CyclicPlanner x = Plan.rich().make();
        due.is("only safe", x.steps(0), NONE);
        due.is("only weak", x.steps(2), NONE);
        due.is("no action", x.steps(1), NONE);
        due.is("only turns round", x.steps(6), NONE);
        for (CyclicPlanner y : withoutGoals()) for (int s = 0; s < 8; s++) due.is("no goals", y.steps(s), NONE);
    }

    private static void stepsOrder() {
        for (CyclicPlanner x : withoutGoals()) for (int s : Outside.STATES) due.is("nothing is sure", x.steps(s), BAD);
        CyclicPlanner all = Plan.goals(255).make();
        for (int s : Outside.STATES) due.is("everything is sure", all.steps(s), BAD);
    }

    private static void luckRange() {
        for (int s = 0; s < 8; s++) {
            due.is("chain, from " + s, Plan.chain().make().luck(s), 7 - s);
            due.is("chain down, from " + s, chainDown().make().luck(s), s);
            due.is("goals alone", Plan.full(255).make().luck(s), 0);
        }
        Plan slow = Plan.goals(128);
        for (int s = 0; s < 7; s++) slow.set(s, 1, (4 << s) - 1);
        for (int s = 0; s < 8; s++) due.is("each step may stay or fall back, from " + s, slow.make().luck(s), 7 - s);
        due.is("the luckiest outcome", slow.set(0, 2, 0b1100011).make().luck(0), 2);
    }

    private static void luckOfNoState() {
        CyclicPlanner x = Plan.chain().make();
        for (int s : Outside.STATES) due.is("luck(" + s + ")", x.luck(s), BAD);
        due.is("luck(0)", x.luck(0), 7);
        due.is("luck(7)", x.luck(7), 0);
    }

    private static void luckNotWeak() {
        CyclicPlanner x = Plan.rich().make();
        due.is("no action", x.luck(1), NONE);
        due.is("only turns round", x.luck(6), NONE);
        due.is("only weak", x.luck(2), 1);
        due.is("only safe", x.luck(0), 1);
        for (CyclicPlanner y : withoutGoals()) for (int s = 0; s < 8; s++) due.is("no goals", y.luck(s), NONE);
    }

    private static void luckOrder() {
        for (CyclicPlanner x : withoutGoals()) for (int s : Outside.STATES) due.is("nothing is weak", x.luck(s), BAD);
        CyclicPlanner all = Plan.goals(255).make();
        for (int s : Outside.STATES) due.is("everything is weak", all.luck(s), BAD);
    }

    private static void safeActionsRange() {
        for (int s = 0; s < 7; s++) {
            int self = 1 << s;
            int lost = 1 << (s + 1) % 7;
            for (int which = 1; which < 8; which++) {
                Plan p = Plan.goals(128);
                for (int a = 0; a < 3; a++) p.set(s, a, (which >> a & 1) != 0 ? 128 | self : 128 | lost);
                due.is("state " + s, p.make().safeActions(s), which);
            }
        }
        CyclicPlanner turning = Plan.goals(128).set(0, 0, 1).set(0, 1, 128).make();
        due.is("one that only turns round at a safe state", turning.safeActions(0), 0b11);
        CyclicPlanner wide = Plan.chain().set(0, 1, 255).set(0, 2, 254).make();
        due.is("all states as outcomes", wide.safeActions(0), 0b111);
        due.is("one of them not safe", Plan.chain().set(0, 1, 255).set(1, 0, 0).set(0, 2, 128).make().safeActions(0), 0b100);
    }

    private static void safeActionsOfGoal() {
        CyclicPlanner x = Plan.full(255).make();
        for (int s = 0; s < 8; s++) due.is("goal " + s + " with three actions", x.safeActions(s), 0);
        x.goals(128);
        x.action(7, 0, 128);
        due.is("goal that stays", x.safeActions(7), 0);
        due.is("goal without actions", Plan.goals(1).make().safeActions(0), 0);
        CyclicPlanner noMore = Plan.goals(0b10000001).set(0, 1, 128).make();
        due.is("as a goal", noMore.safeActions(0), 0);
        noMore.goals(128);
        due.is("as no goal any more", noMore.safeActions(0), 0b10);
    }

    private static void safeActionsNotSafe() {
        CyclicPlanner x = Plan.rich().make();
        due.is("no action", x.safeActions(1), 0);
        due.is("only weak", x.safeActions(2), 0);
        due.is("only turns round", x.safeActions(6), 0);
        for (CyclicPlanner y : withoutGoals()) for (int s = 0; s < 8; s++) due.is("no goals", y.safeActions(s), 0);
    }

    private static void safeActionsOfNoState() {
        Plan p = Plan.chain();
        for (int slot = 0; slot < 24; slot++) p.set(slot / 3, slot % 3, 128);
        for (CyclicPlanner x : new CyclicPlanner[] {p.make(), new CyclicPlanner(), Plan.goals(255).make()}) {
            for (int s : Outside.STATES) due.is("safeActions(" + s + ")", x.safeActions(s), 0);
        }
        due.is("safeActions(0)", p.make().safeActions(0), 0b111);
        due.is("safeActions(6)", p.make().safeActions(6), 0b111);
    }

    private static void sureActionSmallest() {
        for (int s = 0; s < 7; s++) {
            for (int which = 1; which < 8; which++) {
                Plan same = Plan.goals(128);
                Plan slower = Plan.goals(128).set((s + 1) % 7, 0, 128);
                for (int a = 0; a < 3; a++) {
                    boolean fits = (which >> a & 1) != 0;
                    same.set(s, a, fits ? 128 : 0);
                    slower.set(s, a, fits ? 128 : 128 | 1 << (s + 1) % 7);
                }
                int smallest = Integer.numberOfTrailingZeros(which);
                due.is("the only ones, state " + s, same.make().sureAction(s), smallest);
                due.is("beside slower ones, state " + s, slower.make().sureAction(s), smallest);
            }
        }
        due.is("steps(s) is 7", Plan.chain().set(0, 0, 0).set(0, 1, 1).set(0, 2, 2).make().sureAction(0), 2);
    }

    private static void sureActionOfGoal() {
        CyclicPlanner x = Plan.full(255).make();
        for (int s = 0; s < 8; s++) due.is("goal " + s + " with three actions", x.sureAction(s), NONE);
        due.is("goal without actions", Plan.goals(1).make().sureAction(0), NONE);
        CyclicPlanner noMore = Plan.goals(0b10000001).set(0, 1, 128).make();
        due.is("as a goal", noMore.sureAction(0), NONE);
        noMore.goals(128);
        due.is("as no goal any more", noMore.sureAction(0), 1);
    }

    private static void sureActionNotSure() {
        CyclicPlanner x = Plan.rich().make();
        due.is("only safe", x.sureAction(0), NONE);
        due.is("only weak", x.sureAction(2), NONE);
        due.is("no action", x.sureAction(1), NONE);
        due.is("only turns round", x.sureAction(6), NONE);
        for (CyclicPlanner y : withoutGoals()) for (int s = 0; s < 8; s++) due.is("no goals", y.sureAction(s), NONE);
    }

    private static void sureActionOfNoState() {
        for (CyclicPlanner x : new CyclicPlanner[] {Plan.chain().make(), new CyclicPlanner(), Plan.goals(255).make()}) {
            for (int s : Outside.STATES) due.is("sureAction(" + s + ")", x.sureAction(s), NONE);
        }
        due.is("sureAction(0)", Plan.chain().make().sureAction(0), 0);
        due.is("sureAction(6)", Plan.chain().make().sureAction(6), 0);
    }

    private static void hopefulNone() {
        for (CyclicPlanner x : withoutGoals()) due.is("no goals", x.hopeful(), 0);
        due.is("every state a goal", Plan.full(255).make().hopeful(), 0);
        due.is("all are sure", Plan.chain().make().hopeful(), 0);
        due.is("goals alone", Plan.goals(0b1010).make().hopeful(), 0);
        due.is("only weak", Plan.goals(128).set(0, 0, 255).make().hopeful(), 0);
    }

    private static void hopefulAll() {
        for (int goal = 0; goal < 8; goal++) {
            Plan p = Plan.goals(1 << goal);
            int count = 0;
            for (int s = 0; s < 8; s++) {
                if (s == goal) continue;
                p.set(s, 1, 1 << s | 1 << goal);
                count++;
                due.is("goal " + goal + ", " + count + " that may try again", p.make().hopeful(), count);
            }
            due.is("all but the goal", p.make().safe(), 255);
        }
        CyclicPlanner all = new CyclicPlanner();
        for (int slot = 0; slot < 24; slot++) all.action(slot / 3, slot % 3, 255);
        all.goals(1);
        due.is("everything may come of everything", all.hopeful(), 7);
    }
}
