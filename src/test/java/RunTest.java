/** Promises 6 and 7: run and weave. */
public final class RunTest {
    public static void main(String[] args) {
        runOfWrongOrIdleThreads();
        runOfNoTurns();
        runTakesJustSoManyTurns();
        runStopsAtTheEnd();
        runOfManyTurns();
        weaveOfNoTurns();
        weaveTakesItsPattern();
        weaveOfNegativePatterns();
        weaveSkips();
        weaveCountsFinishedOnly();
        weaveIsClampedAtTheTop();
        Check.end();
    }

    private static void runOfWrongOrIdleThreads() {
        MultiwordSwap x = new MultiwordSwap(3, 4, 2);
        Check.launch(x, 1, 0, 0, 1);
        x.put(0, 1, 1, 1);
        int[] before = Check.everything(x);
        int[] counts = {Check.MIN, -1, 0, 1, 64, 65, Check.MAX};
        int[] badThreads = {Check.MIN, -1, 3, 4, Check.MAX};
        for (int n : counts) {
            for (int t : badThreads) {
                Check.due("run(" + t + ", " + n + ")", x.run(t, n), Check.BAD);
            }
            Check.due("run of an idle thread for " + n, x.run(0, n), Check.IDLE);
        }
        Check.unchanged("BAD and IDLE", x, before);
    }

    private static void runOfNoTurns() {
        MultiwordSwap x = new MultiwordSwap(2, 4, 2);
        Check.launch(x, 0, 0, 0, 1);
        x.read(1, 2);
        int[] before = Check.everything(x);
        int[] counts = {Check.MIN, -64, -1, 0};
        for (int n : counts) {
            Check.due("swap for " + n, x.run(0, n), Check.RUNNING);
            Check.due("read for " + n, x.run(1, n), Check.RUNNING);
        }
        Check.unchanged("no turn", x, before);
    }

    private static void runTakesJustSoManyTurns() {
        // A swap of k words alone needs k + 2 turns.
        for (int k = 1; k <= 8; k++) {
            for (int n = 1; n <= k + 3; n++) {
                MultiwordSwap x = new MultiwordSwap(2, 8, 8);
                for (int a = 0; a < k; a++) {
                    x.put(1, a, 0, 1);
                }
                x.launch(1);
                Check.due(n + " turns of " + k + " words", x.run(1, n), n < k + 2 ? Check.RUNNING : Check.DONE);
                int held = 0;
                for (int a = 0; a < 8; a++) {
                    held += x.holder(a) == 1 ? 1 : 0;
                }
                Check.due("words held after " + n + " of " + k, held, n < k + 2 ? n - 1 : 0);
                Check.due("state after " + n, x.state(1), n < k + 2 ? Check.UNDECIDED : Check.IDLE);
            }
        }
    }

    private static void runStopsAtTheEnd() {
        MultiwordSwap x = new MultiwordSwap(2, 4, 2);
        Check.launch(x, 0, 0, 0, 1);
        x.put(0, 0, 1, 2);
        Check.due("run", x.run(0, Check.MAX), Check.DONE);
        Check.due("the draft was not launched", x.term(0, 0, Check.DRAFT_HAS), 1);
        Check.due("value", x.value(0), 1);
        Check.due("run again", x.run(0, 1), Check.IDLE);
        x.drop(0);
        Check.launch(x, 0, 1, 0, 1);
        x.run(0, 2);
        Check.launch(x, 1, 1, 0, 3);
        Check.due("1 decides 0 and fails", x.run(1, 64), Check.DONE);
        Check.due("0 took no turn", x.state(0), Check.SUCCEEDED);
        Check.due("its outcome is the old one", x.outcome(0), Check.SUCCEEDED);
        Check.due("no turns finish nothing", x.run(0, 0), Check.RUNNING);
        Check.due("one does", x.run(0, 1), Check.DONE);
    }

    /**
     * A run through three other swaps of eight words each. With nobody else moving no operation
     * needs 64 turns, so the clamp at the top shows only in that greater numbers end as 64 does.
     */
    private static void runOfManyTurns() {
        int[] counts = {64, 65, Check.MAX};
        for (int n : counts) {
            MultiwordSwap x = new MultiwordSwap(4, 16, 8);
            for (int t = 0; t < 4; t++) {
                for (int i = 0; i < 8; i++) {
                    x.put(t, t * 2 + i, 0, 0);
                }
                x.launch(t);
            }
            for (int t = 3; t >= 0; t--) {
                x.run(t, 2);
            }
            Check.due("run for " + n, x.run(0, n), Check.DONE);
            Check.due("outcome", x.outcome(0), Check.SUCCEEDED);
            for (int t = 1; t < 4; t++) {
                Check.due("state of " + t, x.state(t), Check.SUCCEEDED);
            }
        }
    }

    private static void weaveOfNoTurns() {
        MultiwordSwap x = new MultiwordSwap(2, 4, 2);
        x.read(0, 0);
        Check.launch(x, 1, 0, 0, 1);
        int[] before = Check.everything(x);
        int[] counts = {Check.MIN, -16, -1, 0};
        for (int n : counts) {
            Check.due("weave for " + n, x.weave(4, n), 0);
        }
        Check.unchanged("no turn", x, before);
    }

    private static void weaveTakesItsPattern() {
        MultiwordSwap x = new MultiwordSwap(4, 8, 2);
        for (int t = 0; t < 4; t++) {
            Check.launch(x, t, 2 * t, 0, 1, 2 * t + 1, 0, 1);
        }
        // The lowest digit is taken first: 3, 3, 1, 0, and the 2 lies beyond n.
        Check.due("weave", x.weave(0b10_00_01_11_11, 4), 0);
        Check.aim("0 took one", x, 0, Check.CLAIM, 0, 0, false);
        Check.aim("1 took one", x, 1, Check.CLAIM, 1, 2, false);
        Check.aim("2 took none", x, 2, Check.NONE, -1, -1, false);
        Check.aim("3 took two", x, 3, Check.CLAIM, 3, 7, false);
        Check.due("3 holds one", x.holder(6), 3);
        Check.due("one alone", x.weave(0b10, 1), 0);
        Check.aim("2 took one", x, 2, Check.CLAIM, 2, 4, false);

        MultiwordSwap y = new MultiwordSwap(2, 4, 1);
        Check.launch(y, 0, 0, 0, 1);
        Check.launch(y, 1, 0, 0, 2);
        Check.due("1 before 0", y.weave(0b00_01_00_01, 4), 0);
        Check.due("1 came first", y.holder(0), 1);
    }

    private static void weaveOfNegativePatterns() {
        MultiwordSwap x = new MultiwordSwap(4, 16, 8);
        for (int a = 0; a < 8; a++) {
            x.put(3, a, 0, 1);
            x.put(2, a + 8, 0, 1);
        }
        x.launch(3);
        x.launch(2);
        // -1 is 3 in every digit, also in the topmost.
        Check.due("weave", x.weave(-1, 9), 0);
        Check.aim("3 holds all", x, 3, Check.PASS, 3, -1, false);
        Check.due("weave", x.weave(-1, 16), 1);
        Check.due("3 is idle", x.state(3), Check.IDLE);
        Check.aim("2 took none", x, 2, Check.NONE, -1, -1, false);
        // MIN is 2 in the topmost digit and 0 below; 0 is idle.
        Check.due("weave", x.weave(Check.MIN, 15), 0);
        Check.aim("2 took none", x, 2, Check.NONE, -1, -1, false);
        Check.due("weave", x.weave(Check.MIN, 16), 0);
        Check.aim("2 took one", x, 2, Check.CLAIM, 2, 8, false);
    }

    private static void weaveSkips() {
        MultiwordSwap x = new MultiwordSwap(2, 4, 1);
        Check.launch(x, 1, 0, 0, 1);
        int[] before = Check.everything(x);
        Check.due("threads that are not there", x.weave(0b11_10_11_10, 4), 0);
        Check.due("idle threads", x.weave(0, 16), 0);
        Check.unchanged("skipping", x, before);
        Check.due("a skipped digit counts as one", x.weave(0b01_11_00, 3), 0);
        Check.aim("1 took one", x, 1, Check.CLAIM, 1, 0, false);
        Check.due("a skipped digit counts as one", x.weave(0b01_01_01_10_00, 3), 0);
        Check.due("1 took one", x.holder(0), 1);
        Check.aim("1 took one", x, 1, Check.PASS, 1, -1, false);
        x.put(1, 0, 1, 2);
        Check.due("no turn after the last", x.weave(0x55555555, 16), 1);
        Check.due("the draft was not launched", x.term(1, 0, Check.DRAFT_HAS), 1);
        Check.due("value", x.value(0), 1);
    }

    private static void weaveCountsFinishedOnly() {
        MultiwordSwap x = new MultiwordSwap(3, 4, 2);
        Check.launch(x, 0, 0, 0, 1);
        x.run(0, 2);
        x.read(1, 0);
        Check.due("1 decides 0, and only the read is finished", x.weave(0b01_01, 2), 1);
        Check.due("0 is decided", x.state(0), Check.SUCCEEDED);
        Check.due("1 got", x.got(1), 1);
        x.read(1, 3);
        x.read(2, 0);
        Check.due("a swap and two reads", x.weave(0b10_00_01, 3), 3);
        for (int t = 0; t < 3; t++) {
            Check.due("idle", x.state(t), Check.IDLE);
        }
        Check.launch(x, 2, 0, 7, 8);
        Check.due("a failed swap counts too", x.weave(0b10_10, 2), 1);
        Check.due("outcome", x.outcome(2), Check.FAILED);
    }

    private static void weaveIsClampedAtTheTop() {
        int[] counts = {16, 17, 32, 64, Check.MAX};
        for (int n : counts) {
            MultiwordSwap x = new MultiwordSwap(2, 16, 8);
            for (int a = 0; a < 8; a++) {
                x.put(0, a, 0, 1);
                x.put(1, a + 8, 0, 1);
            }
            x.launch(0);
            x.launch(1);
            // Eight turns each; a ninth would let one of them hold all its words.
            Check.due("weave for " + n, x.weave(0x44444444, n), 0);
            Check.aim("eight turns of 0", x, 0, Check.CLAIM, 0, 7, false);
            Check.aim("eight turns of 1", x, 1, Check.CLAIM, 1, 15, false);
        }
    }
}
