/** Promises 4 and 5, launch and read: one test for each sentence that names an edge. */
public final class EdgeLaunchTest {
    public static void main(String[] args) {
        launchOfABadThread();
        launchWhileNotIdle();
        launchOfAnEmptyDraft();
        busyGoesBeforeEmpty();
        emptyAgainAfterLaunchAndDrop();
        launchOfOneEntry();
        launchOfAsManyEntriesAsMayBe();
        launchEmptiesTheDraft();
        launchTakesNoTurn();
        launchKeepsOutcomeAndGot();
        launchChangesNothingElse();
        launchKeepsAimsAtTheEarlierSwap();
        readOfABadThread();
        readAtABadAddress();
        readWhileNotIdle();
        badGoesBeforeBusy();
        readOfEveryAddress();
        readTakesNoTurn();
        readChangesNothingElse();
        Check.end();
    }

    /** "1. t is bad: BAD." and "BAD, BUSY and EMPTY change nothing." */
    private static void launchOfABadThread() {
        Scene.changesNothing("launch of a bad thread", (x, scene) -> {
            for (int t : scene.badThreads()) {
                Check.due("launch(" + t + ")", x.launch(t), Check.BAD);
            }
            return scene.badThreads().length;
        });
    }

    /** "2. t is not idle: BUSY.", be it swapping, decided already, or reading; nothing changes. */
    private static void launchWhileNotIdle() {
        int[] states = {Check.UNDECIDED, Check.SUCCEEDED, Check.FAILED, Check.READING};
        for (int state : states) {
            Scene.changesNothing("launch in state " + state, (x, scene) -> {
                int tried = 0;
                for (int t = 0; t < scene.threads; t++) {
                    if (x.state(t) == state) {
                        Check.due("launch(" + t + ")", x.launch(t), Check.BUSY);
                        tried++;
                    }
                }
                return tried;
            });
        }
    }

    /** "3. The draft of t is empty: EMPTY." and "BAD, BUSY and EMPTY change nothing." */
    private static void launchOfAnEmptyDraft() {
        Scene.changesNothing("launch of an empty draft", (x, scene) -> {
            int tried = 0;
            for (int t = 0; t < scene.threads; t++) {
                if (x.state(t) == Check.IDLE && scene.drafted(x, t) == 0) {
                    Check.due("launch(" + t + ")", x.launch(t), Check.EMPTY);
                    tried++;
                }
            }
            return tried;
        });
    }

    /** "the first case that applies, in this order, decides": a busy thread with an empty draft. */
    private static void busyGoesBeforeEmpty() {
        Scene.changesNothing("launch of an empty draft while not idle", (x, scene) -> {
            int tried = 0;
            for (int t = 0; t < scene.threads; t++) {
                if (x.state(t) != Check.IDLE && scene.drafted(x, t) == 0) {
                    Check.due("launch(" + t + ")", x.launch(t), Check.BUSY);
                    tried++;
                }
            }
            return tried;
        });
    }

    /** An empty draft that once had entries is as empty as one that never had. */
    private static void emptyAgainAfterLaunchAndDrop() {
        MultiwordSwap x = new MultiwordSwap(2, 4, 1);
        Check.launch(x, 0, 3, 0, 1);
        Check.due("run", x.run(0, 64), Check.DONE);
        Check.due("after the launch", x.launch(0), Check.EMPTY);
        x.put(0, 3, 1, 2);
        x.drop(0);
        Check.due("after the drop", x.launch(0), Check.EMPTY);
        Check.due("nothing happened", x.state(0), Check.IDLE);
        Check.launch(x, 0, 3, 1, 2);
        Check.due("run", x.run(0, 64), Check.DONE);
        Check.due("value", x.value(3), 2);
    }

    /** "A swap has 1 to S entries": one, at each address. */
    private static void launchOfOneEntry() {
        for (int a = 0; a < 16; a++) {
            MultiwordSwap x = new MultiwordSwap(2, 16, 8);
            Check.launch(x, 1, a, 0, 7);
            Check.due("two turns", x.run(1, 2), Check.RUNNING);
            Check.due("holder", x.holder(a), 1);
            Check.due("the third", x.run(1, 1), Check.DONE);
            for (int b = 0; b < 16; b++) {
                Check.due("value(" + b + ")", x.value(b), a == b ? 7 : 0);
            }
        }
    }

    /** "A swap has 1 to S entries ... always taken in ascending order of address, whatever the order put". */
    private static void launchOfAsManyEntriesAsMayBe() {
        for (int span = 1; span <= 8; span++) {
            MultiwordSwap x = new MultiwordSwap(2, 16, span);
            boolean[] chosen = new boolean[16];
            for (int i = 0; i < span; i++) {
                int a = 15 + 7 * i & 15;
                chosen[a] = true;
                Check.due("put at " + a, x.put(0, a, 0, a + 1), Check.OK);
            }
            Check.due("launch", x.launch(0), Check.OK);
            for (int a = 0; a < 16; a++) {
                if (chosen[a]) {
                    Check.due("run", x.run(0, 1), Check.RUNNING);
                    Check.aim("in ascending order", x, 0, Check.CLAIM, 0, a, false);
                }
                Check.live(x, 0, a, chosen[a] ? 1 : 0, 0, chosen[a] ? a + 1 : 0);
            }
            Check.due("the last two turns", x.run(0, 2), Check.DONE);
            for (int a = 0; a < 16; a++) {
                Check.due("value(" + a + ")", x.value(a), chosen[a] ? a + 1 : 0);
            }
        }
    }

    /** "the draft becomes empty": there is room for S entries again, also for those of the swap. */
    private static void launchEmptiesTheDraft() {
        for (int span = 1; span <= 8; span++) {
            MultiwordSwap x = new MultiwordSwap(2, 16, span);
            for (int a = 0; a < span; a++) {
                x.put(0, a, 0, 1);
            }
            Check.due("launch", x.launch(0), Check.OK);
            for (int a = 0; a < 16; a++) {
                Check.draft(x, 0, a, 0, 0, 0);
            }
            for (int a = 0; a < span; a++) {
                Check.due("room again", x.put(0, a, 5, 6), Check.OK);
            }
            Check.due("as much as before", x.put(0, span, 5, 6), Check.FULL);
            for (int a = 0; a < span; a++) {
                Check.live(x, 0, a, 1, 0, 1);
            }
        }
    }

    /** "t has a new undecided swap ..., holding nothing; t has no aim" and "No turn is taken." */
    private static void launchTakesNoTurn() {
        for (Scene scene : Scene.all()) {
            for (int t = 0; t < scene.threads; t++) {
                MultiwordSwap x = scene.make();
                x.put(t, 1, 0, 1);
                if (x.state(t) == Check.IDLE) {
                    Check.due(scene.name + ": launch", x.launch(t), Check.OK);
                    Check.due(scene.name + ": state", x.state(t), Check.UNDECIDED);
                    Check.aim(scene.name + ": no aim", x, t, Check.NONE, -1, -1, false);
                    for (int a = 0; a < scene.words; a++) {
                        Check.due(scene.name + ": holder(" + a + ") is not t", x.holder(a) != t, true);
                    }
                }
            }
        }
    }

    /** "Outcome and got value of t stay.": after each way an operation can come out. */
    private static void launchKeepsOutcomeAndGot() {
        MultiwordSwap x = new MultiwordSwap(2, 4, 1);
        launchKeeps(x, Check.NOTHING, 0);
        Check.due("run", x.run(0, 64), Check.DONE);
        launchKeeps(x, Check.SUCCEEDED, 0);
        Check.due("run", x.run(0, 64), Check.DONE);
        launchKeeps(x, Check.FAILED, 0);
        Check.due("run", x.run(0, 64), Check.DONE);
        x.read(0, 0);
        Check.due("run", x.run(0, 64), Check.DONE);
        launchKeeps(x, Check.VALUE, 9);
        Check.due("run", x.run(0, 64), Check.DONE);
        launchKeeps(x, Check.FAILED, 9);
    }

    private static void launchKeeps(MultiwordSwap x, int outcome, int got) {
        Check.launch(x, 0, 0, 0, 9);
        Check.due("outcome stays", x.outcome(0), outcome);
        Check.due("got stays", x.got(0), got);
    }

    /** "No word, no holding and nothing of other threads changes". */
    private static void launchChangesNothingElse() {
        int tried = 0;
        for (Scene scene : Scene.all()) {
            for (int t = 0; t < scene.threads; t++) {
                MultiwordSwap x = scene.make();
                x.drop(t);
                x.put(t, 1, 5, 6);
                int[] before = Check.everything(x);
                if (x.launch(t) == Check.OK) {
                    // The state, and three parts each of the draft and of the swap.
                    Check.due(scene.name + ": answers changed by launch", Check.changed(x, before), 7);
                    Check.live(x, t, 1, 1, 5, 6);
                    tried++;
                }
            }
        }
        Check.due("launches tried", tried > 5, true);
    }

    /** "aims of other threads that are bound to an earlier swap of t stay bound to that earlier swap." */
    private static void launchKeepsAimsAtTheEarlierSwap() {
        MultiwordSwap x = new MultiwordSwap(4, 4, 2);
        Check.launch(x, 0, 0, 0, 0, 1, 0, 0);
        x.run(0, 2);
        x.read(1, 0);
        x.run(1, 1);
        x.run(0, 1);
        x.read(2, 0);
        x.run(2, 1);
        Check.due("run", x.run(0, 1), Check.DONE);
        for (int again = 0; again < 3; again++) {
            Check.launch(x, 0, 0, 0, 0, 1, 0, 0);
            Check.aim("1 aims at the first", x, 1, Check.CLAIM, 0, 1, true);
            Check.aim("2 aims at the first", x, 2, Check.PASS, 0, -1, true);
            Check.due("run", x.run(0, 3), Check.RUNNING);
            Check.due("1's aim is late still", x.late(1), true);
            Check.due("2's aim is late still", x.late(2), true);
            Check.due("0's is not", x.late(0), false);
            Check.due("run", x.run(0, 1), Check.DONE);
        }
        Check.launch(x, 0, 0, 0, 1, 1, 0, 1);
        x.run(0, 3);
        Check.due("2's aim does not act on the last", x.run(2, 1), Check.RUNNING);
        Check.due("undecided", x.state(0), Check.UNDECIDED);
        Check.due("value", x.value(0), 0);
    }

    /** "1. t is bad: BAD." and "BAD and BUSY change nothing." */
    private static void readOfABadThread() {
        Scene.changesNothing("read of a bad thread", (x, scene) -> {
            int tried = 0;
            for (int t : scene.badThreads()) {
                for (int a : scene.anyAddress()) {
                    Check.due("read(" + t + ", " + a + ")", x.read(t, a), Check.BAD);
                    tried++;
                }
            }
            return tried;
        });
    }

    /** "2. a is bad: BAD." and "BAD and BUSY change nothing." */
    private static void readAtABadAddress() {
        Scene.changesNothing("read at a bad address", (x, scene) -> {
            int tried = 0;
            for (int t = 0; t < scene.threads; t++) {
                for (int a : scene.badAddresses()) {
                    if (x.state(t) == Check.IDLE) {
                        Check.due("read(" + t + ", " + a + ")", x.read(t, a), Check.BAD);
                        tried++;
                    }
                }
            }
            return tried;
        });
    }

    /** "3. t is not idle: BUSY.", be it swapping, decided already, or reading; nothing changes. */
    private static void readWhileNotIdle() {
        int[] states = {Check.UNDECIDED, Check.SUCCEEDED, Check.FAILED, Check.READING};
        for (int state : states) {
            Scene.changesNothing("read in state " + state, (x, scene) -> {
                int tried = 0;
                for (int t = 0; t < scene.threads; t++) {
                    for (int a = 0; a < scene.words && x.state(t) == state; a++) {
                        Check.due("read(" + t + ", " + a + ")", x.read(t, a), Check.BUSY);
                        tried++;
                    }
                }
                return tried;
            });
        }
    }

    /** "the first case that applies, in this order, decides": a bad address of a busy thread. */
    private static void badGoesBeforeBusy() {
        Scene.changesNothing("read at a bad address while not idle", (x, scene) -> {
            int tried = 0;
            for (int t = 0; t < scene.threads; t++) {
                for (int a : scene.badAddresses()) {
                    if (x.state(t) != Check.IDLE) {
                        Check.due("read(" + t + ", " + a + ")", x.read(t, a), Check.BAD);
                        tried++;
                    }
                }
            }
            return tried;
        });
    }

    /** "4. Otherwise t has a new running read of a and no aim; OK.": from the first address to the last. */
    private static void readOfEveryAddress() {
        for (int words = 4; words <= 16; words++) {
            MultiwordSwap x = new MultiwordSwap(2, words, 8);
            for (int a = 0; a < words; a++) {
                Check.launch(x, 1, a, 0, a + 100);
                Check.due("run", x.run(1, 64), Check.DONE);
                Check.due("read(0, " + a + ")", x.read(0, a), Check.OK);
                Check.due("state", x.state(0), Check.READING);
                Check.aim("no aim", x, 0, Check.NONE, -1, -1, false);
                for (int b = 0; b < words; b++) {
                    Check.live(x, 0, b, a == b ? 1 : 0, 0, 0);
                }
                Check.due("run", x.run(0, 1), Check.DONE);
                Check.due("got", x.got(0), a + 100);
            }
        }
    }

    /** "No turn is taken, whether a is held or not." */
    private static void readTakesNoTurn() {
        MultiwordSwap x = new MultiwordSwap(3, 4, 2);
        Check.launch(x, 0, 1, 0, 5, 2, 0, 5);
        x.run(0, 2);
        Check.due("read of a held word", x.read(1, 1), Check.OK);
        Check.due("read of a word not held", x.read(2, 2), Check.OK);
        for (int t = 1; t < 3; t++) {
            Check.due("reading", x.state(t), Check.READING);
            Check.aim("no aim", x, t, Check.NONE, -1, -1, false);
            Check.due("no outcome", x.outcome(t), Check.NOTHING);
        }
        Check.due("holder", x.holder(1), 0);
        Check.due("the held one is not read yet", x.run(1, 1), Check.RUNNING);
        Check.aim("it helps", x, 1, Check.CLAIM, 0, 2, false);
        Check.due("the other is", x.run(2, 1), Check.DONE);
    }

    /** "Draft, outcome and got value of t stay, and no word, no holding and nothing of other threads changes." */
    private static void readChangesNothingElse() {
        int tried = 0;
        for (Scene scene : Scene.all()) {
            for (int t = 0; t < scene.threads; t++) {
                for (int a = 0; a < scene.words; a++) {
                    MultiwordSwap x = scene.make();
                    int[] before = Check.everything(x);
                    if (x.read(t, a) == Check.OK) {
                        // The state, and whether the operation has the address.
                        Check.due(scene.name + ": answers changed by read", Check.changed(x, before), 2);
                        Check.live(x, t, a, 1, 0, 0);
                        tried++;
                    }
                }
            }
        }
        Check.due("reads tried", tried > 50, true);
    }
}
