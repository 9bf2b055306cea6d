import java.util.Arrays;

/** For each promise: ordinary inputs, the edges that the document names, and wrong inputs. */
public final class PromisesTest {
    private static final int BAD = CyclicPlanner.BAD;
    private static final int NONE = CyclicPlanner.NONE;
    private static final int[] NO_STATES = {-1, 8, 9, 32, 256, Integer.MIN_VALUE, Integer.MAX_VALUE};
    private static final int[] NO_ACTIONS = {-1, 3, 4, 32, Integer.MIN_VALUE, Integer.MAX_VALUE};
    private static final int[] NO_SETS = {-1, -256, 256, 257, 511, Integer.MIN_VALUE, Integer.MAX_VALUE};
    private static final Due due = new Due();

    public static void main(String[] args) {
        newObject();
        action();
        goals();
        weak();
        safe();
        sure();
        steps();
        luck();
        safeActions();
        sureAction();
        prune();
        hopeful();
        refusedCallsChangeNothing();
        askingChangesNothing();
        objectsAreApart();
        due.end();
    }

    /** Goal 7; the rows are {state, action, outcomes}. */
    private static CyclicPlanner withGoal7(int[]... actions) {
        CyclicPlanner x = new CyclicPlanner();
        due.is("goals(128)", x.goals(128), true);
        for (int[] r : actions) due.is("action" + Arrays.toString(r), x.action(r[0], r[1], r[2]), true);
        return x;
    }

    private static int[] row(int s, int a, int outcomes) {
        return new int[] {s, a, outcomes};
    }

    private static void newObject() {
        CyclicPlanner x = new CyclicPlanner();
        due.is("1: weak", x.weak(), 0);
        due.is("1: safe", x.safe(), 0);
        due.is("1: sure", x.sure(), 0);
        due.is("1: hopeful", x.hopeful(), 0);
        due.is("1: prune", x.prune(), 0);
        for (int s = 0; s < 8; s++) {
            due.is("1: steps", x.steps(s), NONE);
            due.is("1: luck", x.luck(s), NONE);
            due.is("1: safeActions", x.safeActions(s), 0);
            due.is("1: sureAction", x.sureAction(s), NONE);
        }
        for (int g = 0; g < 8; g++) {
            x.goals(1 << g);
            due.is("1: no action leads to goal " + g, x.weak(), 1 << g);
        }
    }

    private static void action() {
        for (int s = 0; s < 7; s++) {
            for (int a = 0; a < 3; a++) {
                CyclicPlanner x = withGoal7(row(s, a, 128));
                due.is("2: given to one state", x.sure(), 128 | 1 << s);
                due.is("2: given as one action", x.safeActions(s), 1 << a);
                due.is("2: given anew", x.action(s, a, 128 | 1 << s), true);
                due.is("2: the new outcomes count", x.sure(), 128);
                due.is("2: taken away", x.action(s, a, 0), true);
                due.is("2: it is gone", x.weak(), 128);
                due.is("2: taken away twice", x.action(s, a, 0), true);
            }
        }
        CyclicPlanner x = new CyclicPlanner();
        due.is("2: corner", x.action(7, 2, 255), true);
        due.is("2: corner", x.action(0, 0, 1), true);
        for (int s : NO_STATES) due.is("2: s " + s, x.action(s, 0, 1), false);
        for (int a : NO_ACTIONS) due.is("2: a " + a, x.action(0, a, 1), false);
        for (int set : NO_SETS) due.is("2: outcomes " + set, x.action(0, 0, set), false);
        due.is("2: nothing to take away from no state", x.action(8, 0, 0), false);
        due.is("2: nothing to take away of no action", x.action(0, 3, 0), false);
    }

    private static void goals() {
        CyclicPlanner x = new CyclicPlanner();
        // Each set after its opposite; all of them would be more calls than an object is for.
        for (int set = 0; set < 256; set += 3) {
            due.is("3: goals", x.goals(255 - set), true);
            due.is("3: goals", x.goals(set), true);
            due.is("3: just these are goals", x.sure(), set);
        }
        for (int set : NO_SETS) due.is("3: set " + set, x.goals(set), false);
        due.is("3: the last that was taken", x.sure(), 255);

        CyclicPlanner y = withGoal7(row(7, 0, 1), row(1, 0, 128));
        due.is("3: 1 leads to 7", y.sure(), 130);
        y.goals(1);
        due.is("3: the action of the old goal was kept", y.sure(), 131);
        y.goals(2);
        due.is("3: a goal's action isn't used", y.weak(), 2);
    }

    private static void weak() {
        CyclicPlanner x = withGoal7(row(0, 2, 0b10000010), row(2, 1, 0b1001), row(4, 0, 0b100000), row(5, 0, 0b10000));
        due.is("4: by luck, past states that are stuck", x.weak(), 0b10000101);
        due.is("4: none of them is safe", x.safe(), 128);
        x.goals(0);
        due.is("4: without a goal", x.weak(), 0);

        CyclicPlanner y = withGoal7(row(0, 0, 128), row(7, 0, 64), row(6, 0, 1));
        due.is("4: a course stops at a goal, but begins before it", y.weak(), 0b11000001);
        CyclicPlanner chain = chain();
        due.is("4: a chain of all states", chain.weak(), 255);
    }

    /** From 0 to the goal 7, one state at a time. */
    private static CyclicPlanner chain() {
        CyclicPlanner x = withGoal7();
        for (int s = 0; s < 7; s++) x.action(s, 0, 1 << s + 1);
        return x;
    }

    private static void safe() {
        CyclicPlanner loop = withGoal7(row(0, 0, 0b10000001), row(1, 0, 0b10));
        due.is("5: may try again for ever, but not turn round for ever", loop.safe(), 0b10000001);

        CyclicPlanner trap = withGoal7(row(0, 0, 0b10000010), row(0, 1, 0b10000001), row(2, 0, 0b10000010));
        due.is("5: the action with the trap is left aside", trap.safe(), 0b10000001);
        due.is("5: though the other is weak", trap.weak(), 0b10000101);

        CyclicPlanner ring = withGoal7(row(0, 0, 0b10), row(1, 0, 0b1), row(1, 1, 0b10001000));
        due.is("5: a ring whose way out may get stuck", ring.safe(), 128);
        ring.action(3, 0, 1);
        due.is("5: now the way out leads back", ring.safe(), 0b10001011);

        // Each state leans on the next one, and the last may come to 0, which is stuck.
        CyclicPlanner fall = withGoal7();
        for (int s = 1; s < 7; s++) fall.action(s, 0, 128 | 1 << s - 1);
        due.is("5: one stuck state spoils all, one after the other", fall.safe(), 128);
        due.is("5: they are weak", fall.weak(), 254);
        fall.action(0, 0, 64);
        due.is("5: mended", fall.safe(), 255);
        fall.goals(0);
        due.is("5: without a goal", fall.safe(), 0);
    }

    private static void sure() {
        CyclicPlanner x = withGoal7(row(0, 0, 0b10000010), row(1, 0, 128), row(2, 0, 0b10000100), row(3, 0, 0b10010000));
        due.is("6: branches that all end count, loops and stuck ones don't", x.sure(), 0b10000011);
        x.action(2, 1, 0b11);
        x.action(3, 2, 0b100);
        due.is("6: another action counts as well", x.sure(), 0b10001111);
        CyclicPlanner chain = chain();
        due.is("6: a chain of all states", chain.sure(), 255);
        CyclicPlanner goal = withGoal7(row(7, 0, 1));
        due.is("6: a goal is sure, whatever its actions", goal.sure(), 128);
    }

    private static void steps() {
        CyclicPlanner chain = chain();
        for (int s = 0; s < 8; s++) due.is("7: chain", chain.steps(s), 7 - s);
        chain.action(0, 1, 0b10100000);
        due.is("7: the worst outcome counts, of the best action", chain.steps(0), 3);
        chain.action(1, 2, 0b10000010);
        due.is("7: a loop is no help", chain.steps(1), 6);
        chain.action(6, 0, 64);
        due.is("7: not sure", chain.steps(6), NONE);
        due.is("7: nor what leans on it", chain.steps(1), NONE);
        due.is("7: goal", chain.steps(7), 0);
        for (int s : NO_STATES) due.is("7: s " + s, chain.steps(s), BAD);
        chain.goals(0);
        due.is("7: without a goal", chain.steps(7), NONE);
    }

    private static void luck() {
        CyclicPlanner chain = chain();
        for (int s = 0; s < 8; s++) due.is("8: chain", chain.luck(s), 7 - s);
        chain.action(0, 2, 0b100011);
        due.is("8: the best outcome counts", chain.luck(0), 3);
        chain.action(6, 0, 0);
        due.is("8: not weak", chain.luck(6), NONE);
        due.is("8: nor what leans on it", chain.luck(0), NONE);
        chain.action(3, 1, 0b11000000);
        due.is("8: weak, not safe", chain.luck(3), 1);
        due.is("8: goal", chain.luck(7), 0);
        for (int s : NO_STATES) due.is("8: s " + s, chain.luck(s), BAD);
        chain.goals(0);
        due.is("8: without a goal", chain.luck(7), NONE);
    }

    private static void safeActions() {
        CyclicPlanner x = withGoal7(row(0, 0, 0b10000010), row(0, 1, 1), row(0, 2, 0b10000001), row(2, 0, 0b10000010), row(7, 0, 128));
        due.is("9: all outcomes safe, even where it only turns round", x.safeActions(0), 0b110);
        due.is("9: no action", x.safeActions(1), 0);
        due.is("9: not safe", x.safeActions(2), 0);
        due.is("9: goal", x.safeActions(7), 0);
        x.action(3, 0, 8);
        x.action(3, 1, 2);
        due.is("9: not safe, only turns round", x.safeActions(3), 0);
        x.action(1, 1, 128);
        due.is("9: safe now", x.safeActions(0), 0b111);
        due.is("9: safe now", x.safeActions(1), 0b010);
        for (int s : NO_STATES) due.is("9: s " + s, x.safeActions(s), 0);
    }

    private static void sureAction() {
        CyclicPlanner x = withGoal7(row(6, 1, 128), row(6, 2, 128), row(5, 0, 0b10000001), row(5, 2, 0b11000000), row(4, 0, 0b100000), row(4, 1, 0b1000000));
        due.is("10: the smallest of two that are as good", x.sureAction(6), 1);
        due.is("10: a loop is no help", x.sureAction(5), 2);
        due.is("10: not the smallest that is sure, if it is slower", x.sureAction(4), 1);
        due.is("10: steps", x.steps(4), 2);
        x.action(7, 0, 128);
        due.is("10: goal", x.sureAction(7), NONE);
        due.is("10: no action", x.sureAction(0), NONE);
        x.action(0, 0, 0b10000001);
        due.is("10: safe, not sure", x.sureAction(0), NONE);
        for (int s : NO_STATES) due.is("10: s " + s, x.sureAction(s), NONE);
    }

    private static void prune() {
        CyclicPlanner x = withGoal7(row(0, 0, 0b10000010), row(0, 1, 1), row(0, 2, 0b10000001), row(2, 0, 0b10000010), row(7, 0, 128), row(7, 1, 4));
        due.is("11: of a safe state, of another one and of a goal", x.prune(), 3);
        due.is("11: none is left", x.prune(), 0);
        due.is("11: safe as before", x.safe(), 0b10000001);
        due.is("11: gone", x.weak(), 0b10000001);
        due.is("11: kept", x.safeActions(0), 0b110);
        x.goals(0b10000010);
        due.is("11: gone, even if it would be safe now", x.safeActions(0), 0b110);
        x.goals(0b100);
        due.is("11: the goal's action is gone", x.weak(), 0b100);
        x.goals(0);
        due.is("11: without a goal all go", x.prune(), 3);

        CyclicPlanner full = new CyclicPlanner();
        for (int s = 0; s < 8; s++) for (int a = 0; a < 3; a++) full.action(s, a, 255);
        full.goals(1);
        due.is("11: all are safe", full.prune(), 0);
        full.goals(0);
        due.is("11: none is safe", full.prune(), 24);
        full.goals(1);
        due.is("11: all gone", full.weak(), 1);
    }

    private static void hopeful() {
        CyclicPlanner x = withGoal7(row(0, 0, 0b10000001), row(1, 0, 1), row(2, 0, 128), row(3, 0, 0b10010000));
        due.is("12: neither the sure ones nor those that are only weak", x.hopeful(), 2);
        for (int s = 0; s < 7; s++) x.action(s, 0, 128 | 1 << s);
        due.is("12: all but the goal", x.hopeful(), 7);
        x.goals(255);
        due.is("12: all are goals", x.hopeful(), 0);
        x.goals(0);
        due.is("12: without a goal", x.hopeful(), 0);
    }

    private static CyclicPlanner rich() {
        return withGoal7(row(0, 0, 0b10000010), row(0, 1, 1), row(0, 2, 0b10000001), row(2, 0, 0b10000010),
            row(3, 0, 128), row(4, 0, 8), row(4, 1, 0b11000), row(5, 2, 0b10001000), row(7, 0, 128), row(7, 1, 4));
    }

    /** Every answer, under the goals as they are and then under each single goal; prune comes last. */
    private static int[] answers(CyclicPlanner x) {
        int[] all = new int[9 * 36 + 1];
        int n = 0;
        for (int g = -1; g < 8; g++) {
            if (g >= 0) x.goals(1 << g);
            all[n++] = x.weak();
            all[n++] = x.safe();
            all[n++] = x.sure();
            all[n++] = x.hopeful();
            for (int s = 0; s < 8; s++) {
                all[n++] = x.steps(s);
                all[n++] = x.luck(s);
                all[n++] = x.safeActions(s);
                all[n++] = x.sureAction(s);
            }
        }
        all[n] = x.prune();
        return all;
    }

    private static void refusedCallsChangeNothing() {
        CyclicPlanner x = rich();
        for (int s : NO_STATES) {
            for (int a = 0; a < 3; a++) due.is("13: s " + s, x.action(s, a, 3), false);
            due.is("13: steps", x.steps(s), BAD);
            due.is("13: luck", x.luck(s), BAD);
            due.is("13: sureAction", x.sureAction(s), NONE);
        }
        for (int a : NO_ACTIONS) for (int s = 0; s < 8; s++) due.is("13: a " + a, x.action(s, a, 3), false);
        for (int set : NO_SETS) {
            due.is("13: outcomes " + set, x.action(0, 0, set), false);
            due.is("13: set " + set, x.goals(set), false);
        }
        due.is("13: not sure", x.steps(0), NONE);
        due.is("13: not weak", x.luck(1), NONE);
        due.is("13: as if they had not been", Arrays.equals(answers(x), answers(rich())), true);
    }

    private static void askingChangesNothing() {
        CyclicPlanner x = rich();
        int before = x.safe();
        for (int s = 0; s < 8; s++) {
            x.weak();
            x.sure();
            x.hopeful();
            x.steps(s);
            x.luck(s);
            x.safeActions(s);
            x.sureAction(s);
        }
        due.is("safe again", x.safe(), before);
        due.is("as if not asked", Arrays.equals(answers(x), answers(rich())), true);
    }

    private static void objectsAreApart() {
        CyclicPlanner x = rich();
        CyclicPlanner y = new CyclicPlanner();
        y.goals(255);
        y.action(0, 0, 255);
        due.is("objects share nothing", Arrays.equals(answers(x), answers(rich())), true);
    }
}
