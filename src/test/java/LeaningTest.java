/**
 * The sentences in which one promise leans on another or on the terms, one test for each: the
 * answers of one planner are held against each other and against the actions that it was given.
 */
public final class LeaningTest {
    private static final int BAD = CyclicPlanner.BAD;
    private static final int NONE = CyclicPlanner.NONE;
    private static final Due due = new Due();
    private static final Plan[] PLANS = plans();

    public static void main(String[] args) {
        due.sentence("Terms", "what is SURE is SAFE, what is SAFE is WEAK, a goal is all three", LeaningTest::nested);
        due.sentence("Promise 5", "for some policy ... from every state that a course comes to", LeaningTest::safePolicy);
        due.sentence("Promise 6", "for some policy there is a number k: steps(s)", LeaningTest::surePolicy);
        due.sentence("Promise 7", "steps: a number just where s is sure, 0 just at goals", LeaningTest::stepsWhereSure);
        due.sentence("Promise 7", "steps: the best action counts, by its worst outcome", LeaningTest::stepsOfOutcomes);
        due.sentence("Promise 8", "luck: a number just where s is weak, 0 just at goals", LeaningTest::luckWhereWeak);
        due.sentence("Promise 8", "luck: the best outcome counts, of the best action", LeaningTest::luckOfOutcomes);
        due.sentence("Promise 8", "luck is never more than steps", LeaningTest::luckWithinSteps);
        due.sentence("Promise 9", "all of whose outcomes are safe, as safe() has it", LeaningTest::safeActionsBySafe);
        due.sentence("Promise 10", "the smallest action ... can keep to steps(s), as steps has it", LeaningTest::sureActionBySteps);
        due.sentence("Promise 11", "every action some outcome of which is not safe, as safe() has it", LeaningTest::pruneBySafe);
        due.sentence("Promise 11", "after it: safe, sure and what leans on them stay", LeaningTest::pruneKeeps);
        due.sentence("Promise 11", "after it: what is weak is safe, and luck keeps to that", LeaningTest::pruneLeavesSafe);
        due.sentence("Promise 11", "after it: gone for good, whatever the goals", LeaningTest::prunedForGood);
        due.sentence("Promise 11", "after it: an action can be given again, and taken away again", LeaningTest::prunedAndGiven);
        due.sentence("Promise 12", "safe and not sure, as safe() and sure() have it", LeaningTest::hopefulBySets);
        due.sentence("Promise 13", "refused calls between all others change no answer", LeaningTest::refusedBetween);
        due.end();
    }

    private static Plan[] plans() {
        Row row = new Row(20261116L);
        Plan[] all = new Plan[400];
        all[0] = Plan.goals(0);
        all[1] = Plan.goals(255);
        all[2] = Plan.chain();
        all[3] = Plan.rich();
        all[4] = Plan.full(0b10010);
        for (int n = 5; n < all.length; n++) all[n] = Plan.mixed(row, 6 + n % 20, 1 + n % 3);
        return all;
    }

    private static boolean has(int set, int member) {
        return (set >> member & 1) != 0;
    }

    private static boolean within(int set, int others) {
        return (set & ~others) == 0;
    }

    private static void nested() {
        for (Plan p : PLANS) {
            CyclicPlanner x = p.make();
            due.is("sure states that are not safe", x.sure() & ~x.safe(), 0);
            due.is("safe states that are not weak", x.safe() & ~x.weak(), 0);
            due.is("goals that are not sure", p.goals() & ~x.sure(), 0);
        }
    }

    /** An action of s that keeps to the safe states and may come nearer to a goal, as near tells; -1 if there is none. */
    private static int wayOut(Plan p, int s, int safe, int[] near) {
        for (int a = 0; a < 3; a++) {
            int outcomes = p.outcomes(s, a);
            if (outcomes == 0 || !within(outcomes, safe)) continue;
            for (int t = 0; t < 8; t++) if (has(outcomes, t) && near[t] == near[s] - 1) return a;
        }
        return -1;
    }

    private static void safePolicy() {
        for (Plan p : PLANS) {
            CyclicPlanner x = p.make();
            int safe = x.safe();
            x.prune();
            int[] near = new int[8];
            for (int s = 0; s < 8; s++) near[s] = x.luck(s);
            // One action for each safe state, none of which leaves them and each with a nearer
            // outcome, is a policy that makes them safe.
            for (int s = 0; s < 8; s++) {
                if (has(safe, s) && !has(p.goals(), s)) due.is("a way out of " + s, wayOut(p, s, safe, near) >= 0, true);
            }
        }
    }

    private static void surePolicy() {
        for (Plan p : PLANS) {
            CyclicPlanner x = p.make();
            int sure = x.sure();
            for (int s = 0; s < 8; s++) {
                if (!has(sure, s)) continue;
                int here = 1 << s;
                int k = 0;
                while (!within(here, p.goals()) && k < 8) {
                    here = oneStep(p, x, here);
                    k++;
                }
                due.is("the slowest course from " + s + " under the sureActions", k, x.steps(s));
            }
        }
    }

    /** Where courses that take the sureActions can be a step later; one that is stuck stays. */
    private static int oneStep(Plan p, CyclicPlanner x, int here) {
        int there = 0;
        for (int s = 0; s < 8; s++) {
            if (!has(here, s) || has(p.goals(), s)) continue;
            int a = x.sureAction(s);
            there |= a < 0 ? 1 << s : p.outcomes(s, a);
        }
        return there;
    }

    private static void stepsWhereSure() {
        for (Plan p : PLANS) {
            CyclicPlanner x = p.make();
            for (int s = 0; s < 8; s++) {
                int k = x.steps(s);
                due.is("steps(" + s + ") is a number", k >= 0 && k < 8, has(x.sure(), s));
                due.is("steps(" + s + ") is NONE", k == NONE, !has(x.sure(), s));
                due.is("steps(" + s + ") is 0", k == 0, has(p.goals(), s));
            }
        }
    }

    private static void stepsOfOutcomes() {
        for (Plan p : PLANS) {
            CyclicPlanner x = p.make();
            for (int s = 0; s < 8; s++) {
                int best = NONE;
                for (int a = 0; a < 3; a++) {
                    int slowest = slowest(x, p.outcomes(s, a));
                    if (slowest >= 0 && (best < 0 || slowest + 1 < best)) best = slowest + 1;
                }
                due.is("steps(" + s + ")", x.steps(s), has(p.goals(), s) ? 0 : best);
            }
        }
    }

    /** The greatest steps of these outcomes; NONE if one is not sure, or if there is none. */
    private static int slowest(CyclicPlanner x, int outcomes) {
        int slowest = NONE;
        for (int t = 0; t < 8; t++) {
            if (!has(outcomes, t)) continue;
            int k = x.steps(t);
            if (k < 0) return NONE;
            if (k > slowest) slowest = k;
        }
        return slowest;
    }

    private static void luckWhereWeak() {
        for (Plan p : PLANS) {
            CyclicPlanner x = p.make();
            for (int s = 0; s < 8; s++) {
                int k = x.luck(s);
                due.is("luck(" + s + ") is a number", k >= 0 && k < 8, has(x.weak(), s));
                due.is("luck(" + s + ") is NONE", k == NONE, !has(x.weak(), s));
                due.is("luck(" + s + ") is 0", k == 0, has(p.goals(), s));
            }
        }
    }

    private static void luckOfOutcomes() {
        for (Plan p : PLANS) {
            CyclicPlanner x = p.make();
            for (int s = 0; s < 8; s++) {
                int all = p.outcomes(s, 0) | p.outcomes(s, 1) | p.outcomes(s, 2);
                int best = NONE;
                for (int t = 0; t < 8; t++) {
                    if (!has(all, t)) continue;
                    int k = x.luck(t);
                    if (k >= 0 && (best < 0 || k + 1 < best)) best = k + 1;
                }
                due.is("luck(" + s + ")", x.luck(s), has(p.goals(), s) ? 0 : best);
            }
        }
    }

    private static void luckWithinSteps() {
        for (Plan p : PLANS) {
            CyclicPlanner x = p.make();
            for (int s = 0; s < 8; s++) {
                if (has(x.sure(), s)) due.is("luck(" + s + ") <= steps(" + s + ")", x.luck(s) <= x.steps(s), true);
            }
        }
    }

    private static void safeActionsBySafe() {
        for (Plan p : PLANS) {
            CyclicPlanner x = p.make();
            int safe = x.safe();
            for (int s = 0; s < 8; s++) {
                int wanted = 0;
                for (int a = 0; a < 3; a++) {
                    if (p.outcomes(s, a) != 0 && within(p.outcomes(s, a), safe)) wanted |= 1 << a;
                }
                boolean asked = has(safe, s) && !has(p.goals(), s);
                due.is("safeActions(" + s + ")", x.safeActions(s), asked ? wanted : 0);
                due.is("safeActions(" + s + ") names one", x.safeActions(s) != 0, asked);
            }
        }
    }

    private static void sureActionBySteps() {
        for (Plan p : PLANS) {
            CyclicPlanner x = p.make();
            for (int s = 0; s < 8; s++) {
                int k = x.steps(s);
                int wanted = NONE;
                for (int a = 2; a >= 0; a--) {
                    int slowest = slowest(x, p.outcomes(s, a));
                    if (slowest >= 0 && slowest < k) wanted = a;
                }
                due.is("sureAction(" + s + ")", x.sureAction(s), k > 0 ? wanted : NONE);
                if (k > 0) due.is("it is a safe action", has(x.safeActions(s), x.sureAction(s)), true);
            }
        }
    }

    /** What prune should leave of a plan, with these states safe. */
    private static Plan pruned(Plan p, int safe) {
        Plan left = Plan.goals(p.goals());
        for (int s = 0; s < 8; s++) {
            for (int a = 0; a < 3; a++) if (within(p.outcomes(s, a), safe)) left.set(s, a, p.outcomes(s, a));
        }
        return left;
    }

    private static int actions(Plan p) {
        int count = 0;
        for (int s = 0; s < 8; s++) for (int a = 0; a < 3; a++) if (p.outcomes(s, a) != 0) count++;
        return count;
    }

    private static void pruneBySafe() {
        for (Plan p : PLANS) {
            Plan left = pruned(p, p.make().safe());
            int taken = actions(p) - actions(left);
            due.is("what is left", p.contentAfter(x -> due.is("prune()", x.prune(), taken)), left.content());
            due.is("what is left by the second", p.contentAfter(x -> {
                x.prune();
                due.is("second prune()", x.prune(), 0);
            }), left.content());
        }
    }

    private static void pruneKeeps() {
        for (Plan p : PLANS) {
            CyclicPlanner before = p.make();
            CyclicPlanner x = p.make();
            x.prune();
            due.is("safe", x.safe(), before.safe());
            due.is("sure", x.sure(), before.sure());
            due.is("hopeful", x.hopeful(), before.hopeful());
            for (int s = 0; s < 8; s++) {
                due.is("steps(" + s + ")", x.steps(s), before.steps(s));
                due.is("sureAction(" + s + ")", x.sureAction(s), before.sureAction(s));
                due.is("safeActions(" + s + ")", x.safeActions(s), before.safeActions(s));
            }
        }
    }

    private static void pruneLeavesSafe() {
        for (Plan p : PLANS) {
            CyclicPlanner before = p.make();
            CyclicPlanner x = p.make();
            x.prune();
            due.is("weak", x.weak(), before.safe());
            for (int s = 0; s < 8; s++) {
                boolean safe = has(before.safe(), s);
                due.is("luck(" + s + ") is a number", x.luck(s) >= 0, safe);
                if (safe) due.is("luck(" + s + ") is not less", x.luck(s) >= before.luck(s), true);
            }
        }
        Plan risky = Plan.chain().set(0, 0, 2).set(1, 0, 128).set(0, 1, 0b10001000).set(3, 0, 0);
        CyclicPlanner x = risky.make();
        due.is("luck by way of a risk", x.luck(0), 1);
        due.is("prune()", x.prune(), 2);
        due.is("luck without it", x.luck(0), 2);
    }

    private static void prunedForGood() {
        for (Plan p : PLANS) {
            Plan left = pruned(p, p.make().safe()).setGoals(255);
            due.is("with all as goals", p.contentAfter(x -> {
                x.prune();
                x.goals(255);
                due.is("prune()", x.prune(), 0);
            }), left.content());
            due.is("with the goals there were", p.contentAfter(x -> {
                x.goals(0);
                due.is("prune()", x.prune(), actions(p));
                x.goals(p.goals());
                due.is("weak", x.weak(), p.goals());
            }), Plan.goals(p.goals()).content());
        }
    }

    private static void prunedAndGiven() {
        CyclicPlanner x = Plan.rich().make();
        due.is("prune()", x.prune(), 4);
        due.is("given again", x.action(2, 0, 0b10000010), true);
        due.is("it counts again", x.luck(2), 1);
        due.is("taken away again", x.prune(), 1);
        due.is("gone again", x.luck(2), NONE);
        x.action(1, 0, 128);
        x.action(2, 0, 0b10000010);
        due.is("safe now", x.safe() & 0b110, 0b110);
        due.is("and kept", x.prune(), 0);
        x.action(1, 0, 0);
        due.is("taken away as 1 is stuck", x.prune(), 1);
    }

    private static void hopefulBySets() {
        for (Plan p : PLANS) {
            CyclicPlanner x = p.make();
            due.is("hopeful", x.hopeful(), Integer.bitCount(x.safe() & ~x.sure()));
        }
    }

    private static void refuse(CyclicPlanner x) {
        due.is("action of no state", x.action(8, 0, 0), false);
        due.is("no action", x.action(0, 3, 0), false);
        due.is("no outcomes", x.action(0, 0, 256), false);
        due.is("no goals", x.goals(-1), false);
        due.is("steps", x.steps(-1), BAD);
        due.is("luck", x.luck(8), BAD);
        due.is("sureAction", x.sureAction(8), NONE);
        due.is("safeActions", x.safeActions(-1), 0);
    }

    private static void refusedBetween() {
        for (Plan p : PLANS) {
            CyclicPlanner alone = p.make();
            CyclicPlanner x = p.make();
            for (int s = 0; s < 8; s++) {
                refuse(x);
                due.is("steps(" + s + ")", x.steps(s), alone.steps(s));
                refuse(x);
                due.is("luck(" + s + ")", x.luck(s), alone.luck(s));
                due.is("safeActions(" + s + ")", x.safeActions(s), alone.safeActions(s));
                due.is("sureAction(" + s + ")", x.sureAction(s), alone.sureAction(s));
            }
            refuse(x);
            due.is("weak", x.weak(), alone.weak());
            due.is("safe", x.safe(), alone.safe());
            due.is("sure", x.sure(), alone.sure());
            due.is("hopeful", x.hopeful(), alone.hopeful());
            refuse(x);
            due.is("prune", x.prune(), alone.prune());
            refuse(x);
            due.is("weak, pruned", x.weak(), alone.weak());
            due.is("safe, pruned", x.safe(), alone.safe());
        }
        Plan p = Plan.full(4);
        due.is("refused before and after prune", p.contentAfter(x -> {
            refuse(x);
            x.prune();
            refuse(x);
        }), p.contentAfter(CyclicPlanner::prune));
    }
}
