/** Promises 6 and 7, run and weave: one test for each sentence that names an edge. */
public final class EdgeRunTest {
    public static void main(String[] args) {
        runOfABadThread();
        runOfAnIdleThread();
        runOfNoTurns();
        runOfNoTurnsOnceDecided();
        runAboveTheGreatest();
        runStopsAtTheFinishingTurn();
        runAnswersDoneOnTheLastTurn();
        runMovesNoOtherThread();
        runFinishesNoOtherOperation();
        weaveOfNoTurns();
        weaveAboveTheGreatest();
        weaveOfEachLength();
        weaveOfEachDigit();
        weaveOfNegativePatterns();
        weaveOfThreadsThatAreNotThere();
        weaveOfIdleThreads();
        weaveOfAThreadThatBecomesIdle();
        weaveCountsSwapsAndReads();
        weaveCountsWhoeverFinished();
        weaveCountsNoDecisions();
        weaveIsTheSameAsRuns();
        Check.end();
    }

    /** "1. t is bad: BAD." and "BAD and IDLE change nothing." */
    private static void runOfABadThread() {
        Scene.changesNothing("run of a bad thread", (x, scene) -> {
            int tried = 0;
            for (int t : scene.badThreads()) {
                for (int n : Scene.COUNTS) {
                    Check.due("run(" + t + ", " + n + ")", x.run(t, n), Check.BAD);
                    tried++;
                }
            }
            return tried;
        });
    }

    /** "2. t is idle: IDLE, whatever n is." and "BAD and IDLE change nothing." */
    private static void runOfAnIdleThread() {
        Scene.changesNothing("run of an idle thread", (x, scene) -> {
            int tried = 0;
            for (int t = 0; t < scene.threads; t++) {
                for (int n : Scene.COUNTS) {
                    if (x.state(t) == Check.IDLE) {
                        Check.due("run(" + t + ", " + n + ")", x.run(t, n), Check.IDLE);
                        tried++;
                    }
                }
            }
            return tried;
        });
    }

    /** "With t not bad and not idle, n at most 0 answers RUNNING and changes nothing." */
    private static void runOfNoTurns() {
        Scene.changesNothing("run of no turns", (x, scene) -> {
            int tried = 0;
            for (int t = 0; t < scene.threads; t++) {
                for (int n : Scene.NOT_ABOVE_0) {
                    if (x.state(t) != Check.IDLE) {
                        Check.due("run(" + t + ", " + n + ")", x.run(t, n), Check.RUNNING);
                        tried++;
                    }
                }
            }
            return tried;
        });
    }

    /** The same where one turn would finish the operation: it is not DONE before that turn. */
    private static void runOfNoTurnsOnceDecided() {
        MultiwordSwap x = new MultiwordSwap(2, 4, 1);
        Check.launch(x, 0, 0, 0, 1);
        x.run(0, 2);
        x.read(1, 0);
        x.run(1, 64);
        Check.due("decided", x.state(0), Check.SUCCEEDED);
        for (int n : Scene.NOT_ABOVE_0) {
            Check.due("run(0, " + n + ")", x.run(0, n), Check.RUNNING);
        }
        Check.due("decided still", x.state(0), Check.SUCCEEDED);
        Check.due("no outcome", x.outcome(0), Check.NOTHING);
        Check.due("run(0, 1)", x.run(0, 1), Check.DONE);
    }

    /**
     * "above 64 becomes 64": the longest of all operations, through three foreign swaps of eight
     * words, ends within it. That no 65th turn is taken cannot be seen, since none needs so many.
     */
    private static void runAboveTheGreatest() {
        int[] counts = {38, 63, 64, 65, 66, 128, 256, 65536, 1 << 24, Check.MAX - 1, Check.MAX};
        for (int n : counts) {
            MultiwordSwap x = new MultiwordSwap(4, 16, 8);
            for (int t = 0; t < 4; t++) {
                for (int i = 0; i < 8; i++) {
                    x.put(t, t + i, 0, 0);
                }
                x.launch(t);
            }
            for (int t = 3; t >= 0; t--) {
                x.run(t, 2);
            }
            Check.due("run(0, " + n + ")", x.run(0, n), Check.DONE);
            for (int t = 1; t < 4; t++) {
                Check.due("state(" + t + ")", x.state(t), Check.SUCCEEDED);
            }
            Check.due("outcome", x.outcome(0), Check.SUCCEEDED);
        }
    }

    /** "but none after the turn that finishes its operation." */
    private static void runStopsAtTheFinishingTurn() {
        int[] counts = {3, 4, 64, 65, Check.MAX};
        for (int n : counts) {
            MultiwordSwap x = new MultiwordSwap(2, 4, 1);
            MultiwordSwap twin = new MultiwordSwap(2, 4, 1);
            Check.launch(x, 0, 0, 0, 1);
            Check.launch(twin, 0, 0, 0, 1);
            x.put(0, 0, 1, 2);
            twin.put(0, 0, 1, 2);
            Check.due("run(0, " + n + ")", x.run(0, n), Check.DONE);
            Check.due("just three turns", twin.run(0, 3), Check.DONE);
            Check.alike("run(0, " + n + ")", x, twin);
            Scene.goOnAlike("run(0, " + n + ")", x, twin);
        }
    }

    /** "The answer is DONE if the operation was finished in this call, else RUNNING." */
    private static void runAnswersDoneOnTheLastTurn() {
        for (int k = 1; k <= 8; k++) {
            // A swap of k words that is alone takes one turn to look, k to claim and one to pass.
            for (int n = 1; n <= k + 3; n++) {
                MultiwordSwap x = new MultiwordSwap(2, 16, 8);
                for (int a = 0; a < k; a++) {
                    x.put(0, 2 * a, 0, 1);
                }
                x.launch(0);
                Check.due(k + " words, run(0, " + n + ")", x.run(0, n), n >= k + 2 ? Check.DONE : Check.RUNNING);
                Check.due("run(0, 64) after it", x.run(0, 64), n >= k + 2 ? Check.IDLE : Check.DONE);
            }
        }
        MultiwordSwap x = new MultiwordSwap(2, 4, 1);
        x.read(1, 3);
        Check.due("a read, run(1, 1)", x.run(1, 1), Check.DONE);
        Check.launch(x, 1, 0, 5, 5);
        Check.due("a failing swap, run(1, 1)", x.run(1, 1), Check.RUNNING);
        Check.due("a failing swap, run(1, 1)", x.run(1, 1), Check.DONE);
    }

    /** "No other thread takes a turn". */
    private static void runMovesNoOtherThread() {
        MultiwordSwap x = new MultiwordSwap(4, 8, 2);
        for (int t = 0; t < 3; t++) {
            Check.launch(x, t, 2 * t, 0, 1, 2 * t + 1, 0, 1);
        }
        x.read(3, 7);
        x.run(1, 2);
        Check.due("run", x.run(0, 64), Check.DONE);
        Check.aim("1 is where it was", x, 1, Check.CLAIM, 1, 3, false);
        Check.due("and holds what it held", x.holder(2), 1);
        Check.due("and no more", x.holder(3), -1);
        Check.aim("2 has not begun", x, 2, Check.NONE, -1, -1, false);
        Check.due("3 has not read", x.state(3), Check.READING);
    }

    /** "words, holdings and swaps of other threads change only by the ACT of t's turns." */
    private static void runFinishesNoOtherOperation() {
        MultiwordSwap x = new MultiwordSwap(3, 4, 2);
        Check.launch(x, 0, 0, 0, 1);
        x.run(0, 2);
        Check.launch(x, 2, 2, 0, 3);
        x.run(2, 2);
        Check.launch(x, 1, 0, 1, 2);
        Check.due("the LOOK changes nothing", x.run(1, 1), Check.RUNNING);
        Check.due("0 is undecided", x.state(0), Check.UNDECIDED);
        Check.due("0 holds", x.holder(0), 0);
        Check.due("run", x.run(1, 64), Check.DONE);
        Check.due("value", x.value(0), 2);
        Check.due("0 is decided, not finished", x.state(0), Check.SUCCEEDED);
        Check.due("0 has no outcome", x.outcome(0), Check.NOTHING);
        Check.due("2 is undecided", x.state(2), Check.UNDECIDED);
        Check.due("2 holds", x.holder(2), 2);
        Check.due("value", x.value(2), 0);
    }

    /** "With n at most 0 the answer is 0 and nothing changes." */
    private static void weaveOfNoTurns() {
        int[] patterns = {0, -1, Check.MIN, Check.MAX, 0xE4E4E4E4, 0x1B1B1B1B};
        Scene.changesNothing("weave of no turns", (x, scene) -> {
            int tried = 0;
            for (int pattern : patterns) {
                for (int n : Scene.NOT_ABOVE_0) {
                    Check.due("weave(" + pattern + ", " + n + ")", x.weave(pattern, n), 0);
                    tried++;
                }
            }
            return tried;
        });
    }

    private static MultiwordSwap longSwaps() {
        MultiwordSwap x = new MultiwordSwap(2, 16, 8);
        for (int a = 0; a < 8; a++) {
            x.put(0, a, 0, 1);
            x.put(1, a + 8, 0, 1);
        }
        x.launch(0);
        x.launch(1);
        return x;
    }

    /** "above 16 becomes 16": a seventeenth digit would be the first one again. */
    private static void weaveAboveTheGreatest() {
        int[] counts = {16, 17, 18, 31, 32, 33, 48, 64, 65, 256, 257, 65536, 1 << 24, Check.MAX - 1, Check.MAX};
        for (int n : counts) {
            MultiwordSwap x = longSwaps();
            Check.due("weave(.., " + n + ")", x.weave(0x44444444, n), 0);
            Check.aim("eight turns of 0 for " + n, x, 0, Check.CLAIM, 0, 7, false);
            Check.aim("eight turns of 1 for " + n, x, 1, Check.CLAIM, 1, 15, false);
            MultiwordSwap y = longSwaps();
            Check.due("weave(1, " + n + ")", y.weave(1, n), 1);
            Check.aim("one turn of 1 for " + n, y, 1, Check.CLAIM, 1, 8, false);
        }
    }

    /** "For i = 0, 1, .. n-1": just n digits are taken. */
    private static void weaveOfEachLength() {
        for (int n = 1; n <= 16; n++) {
            MultiwordSwap x = longSwaps();
            Check.due("weave(.., " + n + ")", x.weave(0x44444444, n), 0);
            int ofZero = (n + 1) / 2;
            int ofOne = n / 2;
            Check.aim("turns of 0 for " + n, x, 0, Check.CLAIM, 0, ofZero - 1, false);
            Check.aim("turns of 1 for " + n, x, 1, ofOne == 0 ? Check.NONE : Check.CLAIM,
                ofOne == 0 ? -1 : 1, ofOne == 0 ? -1 : ofOne + 7, false);
        }
    }

    /** "let d be (pattern >>> (2 * i)) & 3": each d at each i, the other digits being idle threads. */
    private static void weaveOfEachDigit() {
        for (int d = 0; d < 4; d++) {
            int others = (d + 1 & 3) * 0x55555555;
            for (int i = 0; i < 16; i++) {
                int pattern = others & ~(3 << 2 * i) | d << 2 * i;
                MultiwordSwap x = new MultiwordSwap(4, 4, 1);
                Check.launch(x, d, 2, 0, 1);
                Check.due("weave(" + pattern + ", " + i + ")", x.weave(pattern, i), 0);
                Check.aim("not before digit " + i, x, d, Check.NONE, -1, -1, false);
                Check.due("weave(" + pattern + ", " + (i + 1) + ")", x.weave(pattern, i + 1), 0);
                Check.aim("at digit " + i, x, d, Check.CLAIM, d, 2, false);
                Check.due("weave(" + pattern + ", 16)", x.weave(pattern, 16), 0);
                Check.aim("at digit " + i, x, d, Check.PASS, d, -1, false);
            }
        }
    }

    /** "in Java int arithmetic, for every pattern, negative ones included." */
    private static void weaveOfNegativePatterns() {
        int[] patterns = {-1, -2, -3, -4, Check.MIN, Check.MIN + 1, Check.MIN + 3, 0x80000000 | 0x24924924,
            0xC0000000, 0xBFFFFFFF, 0xE4E4E4E4, 0x9B9B9B9B, -65536, -65537, -256};
        for (int pattern : patterns) {
            for (int n = 0; n <= 17; n++) {
                MultiwordSwap x = fourLongSwaps();
                MultiwordSwap twin = fourLongSwaps();
                int due = 0;
                for (int i = 0; i < Math.min(n, 16); i++) {
                    // Division by 4 of the pattern as a number of 32 bits without a sign.
                    int d = (int) ((pattern & 0xFFFFFFFFL) / (1L << 2 * i) % 4);
                    due += twin.run(d, 1) == Check.DONE ? 1 : 0;
                }
                Check.due("weave(" + pattern + ", " + n + ")", x.weave(pattern, n), due);
                Check.alike("weave(" + pattern + ", " + n + ")", x, twin);
            }
        }
    }

    private static MultiwordSwap fourLongSwaps() {
        MultiwordSwap x = new MultiwordSwap(4, 16, 4);
        for (int a = 0; a < 16; a++) {
            x.put(a / 4, a, 0, 1);
        }
        for (int t = 0; t < 4; t++) {
            x.launch(t);
        }
        return x;
    }

    /** "If d is at least T ..., nothing happens for this i." */
    private static void weaveOfThreadsThatAreNotThere() {
        Scene.changesNothing("weave of threads that are not there", (x, scene) -> {
            int tried = 0;
            for (int d = scene.threads; d < 4; d++) {
                for (int n = 1; n <= 17; n++) {
                    Check.due("weave of " + d + " for " + n, x.weave(d * 0x55555555, n), 0);
                    tried++;
                }
            }
            return tried;
        });
        for (int threads = 2; threads <= 3; threads++) {
            MultiwordSwap x = new MultiwordSwap(threads, 4, 1);
            Check.launch(x, 1, 0, 0, 1);
            Check.due("a digit too large takes up its place", x.weave(0b01_01_01_11, 3), 0);
            Check.aim("two turns of 1", x, 1, Check.PASS, 1, -1, false);
        }
    }

    /** "or thread d is idle at that moment, nothing happens for this i." */
    private static void weaveOfIdleThreads() {
        Scene.changesNothing("weave of idle threads", (x, scene) -> {
            int tried = 0;
            for (int d = 0; d < scene.threads; d++) {
                if (x.state(d) == Check.IDLE) {
                    for (int n = 1; n <= 17; n++) {
                        Check.due("weave of " + d + " for " + n, x.weave(d * 0x55555555, n), 0);
                    }
                    tried++;
                }
            }
            return tried;
        });
        MultiwordSwap x = new MultiwordSwap(4, 4, 1);
        Check.launch(x, 3, 0, 0, 1);
        Check.due("an idle thread's digit takes up its place", x.weave(0b11_11_10_01_00, 4), 0);
        Check.aim("one turn of 3", x, 3, Check.CLAIM, 3, 0, false);
    }

    /** "A thread that becomes idle during the call takes no further turn in it." */
    private static void weaveOfAThreadThatBecomesIdle() {
        for (int n = 3; n <= 17; n++) {
            MultiwordSwap x = new MultiwordSwap(2, 4, 1);
            Check.launch(x, 1, 0, 0, 1);
            x.put(1, 0, 1, 2);
            x.read(0, 3);
            Check.due("weave for " + n, x.weave(0x55555555, n), 1);
            Check.due("idle", x.state(1), Check.IDLE);
            Check.due("value", x.value(0), 1);
            Check.draft(x, 1, 0, 1, 1, 2);
            Check.due("0 took no turn", x.state(0), Check.READING);
        }
    }

    /** "The answer is the number of operations, swaps and reads, finished in this call". */
    private static void weaveCountsSwapsAndReads() {
        MultiwordSwap x = new MultiwordSwap(4, 8, 2);
        x.read(0, 0);
        Check.launch(x, 1, 1, 0, 1);
        Check.launch(x, 2, 2, 9, 1);
        x.read(3, 3);
        Check.due("both reads", x.weave(0b11_10_01_00, 4), 2);
        Check.due("the failing swap", x.weave(0b11_10_01_00, 4), 1);
        Check.due("the other swap", x.weave(0b11_10_01_00, 4), 1);
        Check.due("none is left", x.weave(0b11_10_01_00, 4), 0);
        for (int t = 0; t < 4; t++) {
            x.read(t, t);
        }
        Check.due("all four at once", x.weave(0xE4E4E4E4, 16), 4);
    }

    /** "by whichever threads." */
    private static void weaveCountsWhoeverFinished() {
        for (int t = 0; t < 4; t++) {
            MultiwordSwap x = new MultiwordSwap(4, 4, 1);
            x.read(t, 1);
            Check.due("a read of " + t, x.weave(t, 1), 1);
            Check.launch(x, t, 1, 0, 1);
            Check.due("a swap of " + t, x.weave(t * 0x55, 4), 1);
        }
    }

    /** "A swap that was decided but not finished in this call does not count." */
    private static void weaveCountsNoDecisions() {
        MultiwordSwap x = new MultiwordSwap(2, 4, 1);
        Check.launch(x, 0, 0, 0, 1);
        x.run(0, 2);
        Check.launch(x, 1, 0, 0, 2);
        Check.due("1 passes 0", x.weave(0b01_01, 2), 0);
        Check.due("0 is decided", x.state(0), Check.SUCCEEDED);
        Check.due("1 fails", x.weave(0b01, 1), 1);
        Check.due("0 is finished in a later call", x.weave(0b00, 1), 1);
        Check.launch(x, 0, 0, 1, 5);
        x.run(0, 2);
        Check.launch(x, 1, 0, 5, 6);
        Check.due("decided by 1 and finished by 0 in one call", x.weave(0b00_01_01, 3), 1);
    }

    /** "Otherwise thread d takes one turn": the very turn that run gives, in every scene. */
    private static void weaveIsTheSameAsRuns() {
        for (Scene scene : Scene.all()) {
            int pattern = 0x2D4B8E1B;
            for (int n = 0; n <= 16; n++) {
                MultiwordSwap x = scene.make();
                MultiwordSwap twin = scene.make();
                int due = 0;
                for (int i = 0; i < n; i++) {
                    due += twin.run(pattern >>> 2 * i & 3, 1) == Check.DONE ? 1 : 0;
                }
                Check.due(scene.name + ": weave(.., " + n + ")", x.weave(pattern, n), due);
                Check.alike(scene.name + ": weave(.., " + n + ")", x, twin);
                Scene.goOnAlike(scene.name + ": weave(.., " + n + ")", x, twin);
            }
        }
    }
}
