/** Promises 2 and 3, put and drop: one test for each sentence that names an edge. */
public final class EdgeDraftTest {
    public static void main(String[] args) {
        putOfABadThread();
        putAtABadAddress();
        putReplaces();
        putReplacesInAFullDraft();
        putIntoAFullDraft();
        putAddsTheLastEntry();
        badGoesBeforeFull();
        replacingGoesBeforeFull();
        putOfAnyInt();
        putOfEqualValues();
        putWhateverTheThreadDoes();
        putChangesOnlyTheDraft();
        putLeavesTheRunningSwap();
        dropOfABadThread();
        dropOfAnEmptyDraft();
        dropOfAFullDraft();
        dropForgetsTheEntries();
        dropWhateverTheThreadDoes();
        dropChangesOnlyTheDraft();
        dropLeavesTheRunningSwap();
        Check.end();
    }

    /** "1. t is bad: BAD." and "BAD and FULL change nothing." */
    private static void putOfABadThread() {
        Scene.changesNothing("put of a bad thread", (x, scene) -> {
            int tried = 0;
            for (int t : scene.badThreads()) {
                for (int a : scene.anyAddress()) {
                    Check.due("put(" + t + ", " + a + ", 0, 1)", x.put(t, a, 0, 1), Check.BAD);
                    tried++;
                }
            }
            return tried;
        });
    }

    /** "2. a is bad: BAD." and "BAD and FULL change nothing." */
    private static void putAtABadAddress() {
        Scene.changesNothing("put at a bad address", (x, scene) -> {
            int tried = 0;
            for (int t = 0; t < scene.threads; t++) {
                for (int a : scene.badAddresses()) {
                    Check.due("put(" + t + ", " + a + ", 0, 1)", x.put(t, a, 0, 1), Check.BAD);
                    tried++;
                }
            }
            return tried;
        });
    }

    /** "its expected and desired values are replaced by the given ones; OK." */
    private static void putReplaces() {
        MultiwordSwap x = new MultiwordSwap(2, 16, 8);
        for (int a = 0; a < 16; a += 3) {
            x.put(0, a, 1, 2);
        }
        for (int a = 0; a < 16; a += 3) {
            Check.due("put again at " + a, x.put(0, a, a + 10, a + 20), Check.OK);
            Check.draft(x, 0, a, 1, a + 10, a + 20);
        }
        for (int a = 0; a < 16; a++) {
            Check.draft(x, 0, a, a % 3 == 0 ? 1 : 0, a % 3 == 0 ? a + 10 : 0, a % 3 == 0 ? a + 20 : 0);
            Check.draft(x, 1, a, 0, 0, 0);
        }
        Check.due("replacing six entries took no room", x.put(0, 1, 0, 0), Check.OK);
        Check.due("replacing six entries took no room", x.put(0, 2, 0, 0), Check.OK);
        Check.due("and made none", x.put(0, 4, 0, 0), Check.FULL);
    }

    /** "This also holds when the draft already has S entries." */
    private static void putReplacesInAFullDraft() {
        for (int span = 1; span <= 8; span++) {
            MultiwordSwap x = full(span);
            for (int i = 0; i < span; i++) {
                Check.due("replacing in a full draft", x.put(0, 2 * i, -i, i), Check.OK);
                Check.draft(x, 0, 2 * i, 1, -i, i);
                Check.due("still full", x.put(0, 2 * i + 1, 0, 0), Check.FULL);
            }
        }
    }

    /** "4. The draft has S entries: FULL." and "BAD and FULL change nothing." */
    private static void putIntoAFullDraft() {
        Scene.changesNothing("put into a full draft", (x, scene) -> {
            int tried = 0;
            for (int t = 0; t < scene.threads; t++) {
                for (int a = 0; a < scene.words; a++) {
                    if (scene.drafted(x, t) == scene.span && x.term(t, a, Check.DRAFT_HAS) == 0) {
                        Check.due("put(" + t + ", " + a + ", 0, 1)", x.put(t, a, 0, 1), Check.FULL);
                        tried++;
                    }
                }
            }
            return tried;
        });
        for (int span = 1; span <= 8; span++) {
            MultiwordSwap x = full(span);
            int[] before = Check.everything(x);
            for (int a = 0; a < 16; a++) {
                if (x.term(0, a, Check.DRAFT_HAS) == 0) {
                    Check.due("span " + span + ": put at " + a, x.put(0, a, 0, 1), Check.FULL);
                }
            }
            Check.unchanged("FULL", x, before);
        }
    }

    /** "5. Otherwise the entry is added; OK.": up to the S-th, whatever the order of the addresses. */
    private static void putAddsTheLastEntry() {
        for (int span = 1; span <= 8; span++) {
            MultiwordSwap x = new MultiwordSwap(2, 16, span);
            for (int i = 0; i < span; i++) {
                int a = 5 * i + 15 & 15;
                Check.due("entry " + (i + 1) + " of " + span, x.put(1, a, i, -i), Check.OK);
                Check.draft(x, 1, a, 1, i, -i);
            }
            Check.due("one more than " + span, x.put(1, 5 * span + 15 & 15, 0, 0), Check.FULL);
            Check.due("the other draft has room", x.put(0, 0, 0, 0), Check.OK);
        }
    }

    /** "the first case that applies, in this order, decides": a bad address of a full draft. */
    private static void badGoesBeforeFull() {
        MultiwordSwap x = full(3);
        int[] before = Check.everything(x);
        Check.due("below 0", x.put(0, -1, 0, 1), Check.BAD);
        Check.due("at least W", x.put(0, 16, 0, 1), Check.BAD);
        Check.due("neither", x.put(0, 15, 0, 1), Check.FULL);
        Check.unchanged("BAD and FULL", x, before);
    }

    /** "in this order": an address that a full draft has already. */
    private static void replacingGoesBeforeFull() {
        MultiwordSwap x = full(1);
        Check.due("put at the one address", x.put(0, 0, 8, 9), Check.OK);
        Check.draft(x, 0, 0, 1, 8, 9);
        Check.due("put at another", x.put(0, 1, 8, 9), Check.FULL);
    }

    /** "expected and desired may be any int". */
    private static void putOfAnyInt() {
        for (int expected : Scene.VALUES) {
            for (int desired : Scene.VALUES) {
                MultiwordSwap x = new MultiwordSwap(2, 4, 2);
                Check.launch(x, 0, 3, 0, expected);
                Check.due("run", x.run(0, 64), Check.DONE);
                Check.due("put", x.put(0, 3, expected, desired), Check.OK);
                Check.draft(x, 0, 3, 1, expected, desired);
                Check.due("launch", x.launch(0), Check.OK);
                Check.due("run", x.run(0, 64), Check.DONE);
                Check.due("from " + expected + " to " + desired, x.outcome(0), Check.SUCCEEDED);
                Check.due("from " + expected + " to " + desired, x.value(3), desired);
            }
        }
    }

    /** "equal or not". */
    private static void putOfEqualValues() {
        for (int v : Scene.VALUES) {
            MultiwordSwap x = new MultiwordSwap(2, 4, 2);
            Check.due("put of " + v + " twice", x.put(0, 0, v, v), Check.OK);
            Check.draft(x, 0, 0, 1, v, v);
            Check.due("put again", x.put(0, 0, v, v), Check.OK);
            Check.due("launch", x.launch(0), Check.OK);
            Check.due("run", x.run(0, 64), Check.DONE);
            Check.due("outcome for " + v, x.outcome(0), v == 0 ? Check.SUCCEEDED : Check.FAILED);
            Check.due("value", x.value(0), 0);
        }
    }

    /** "It does not matter whether t is idle.": the same put is answered alike in every state. */
    private static void putWhateverTheThreadDoes() {
        for (Scene scene : Scene.all()) {
            MultiwordSwap x = scene.make();
            for (int t = 0; t < scene.threads; t++) {
                int state = x.state(t);
                x.drop(t);
                for (int a = 0; a < scene.words; a++) {
                    int due = a < scene.span ? Check.OK : Check.FULL;
                    Check.due(scene.name + ": put in state " + state, x.put(t, a, a, -a), due);
                    Check.draft(x, t, a, due == Check.OK ? 1 : 0, due == Check.OK ? a : 0, due == Check.OK ? -a : 0);
                }
            }
        }
    }

    /** "Nothing but the draft of t changes". */
    private static void putChangesOnlyTheDraft() {
        for (Scene scene : Scene.all()) {
            for (int t = 0; t < scene.threads; t++) {
                MultiwordSwap x = scene.make();
                MultiwordSwap twin = scene.make();
                x.drop(t);
                twin.drop(t);
                int[] before = Check.everything(x);
                x.put(t, 1, Check.MIN, Check.MAX);
                x.put(t, 1, 3, 4);
                Check.due(scene.name + ": answers changed by put", Check.changed(x, before), 3);
                Check.draft(x, t, 1, 1, 3, 4);
                x.drop(t);
                Check.unchanged(scene.name + ": put and drop", x, before);
                Scene.goOnAlike(scene.name + ": put and drop", x, twin);
            }
        }
    }

    /** "in particular a running swap of t keeps its entries.": also where the put is at their addresses. */
    private static void putLeavesTheRunningSwap() {
        for (int turns = 0; turns <= 3; turns++) {
            MultiwordSwap x = new MultiwordSwap(2, 4, 2);
            Check.launch(x, 0, 1, 0, 10, 2, 0, 20);
            x.run(0, turns);
            Check.due("put at the first", x.put(0, 1, 7, 8), Check.OK);
            Check.due("put at the second", x.put(0, 2, 7, 8), Check.OK);
            Check.live(x, 0, 1, 1, 0, 10);
            Check.live(x, 0, 2, 1, 0, 20);
            Check.due("run", x.run(0, 64), Check.DONE);
            Check.due("the launched one counts", x.value(1), 10);
            Check.due("the launched one counts", x.value(2), 20);
            Check.draft(x, 0, 1, 1, 7, 8);
            Check.draft(x, 0, 2, 1, 7, 8);
        }
    }

    /** "drop(t): if t is bad, BAD, and nothing changes." */
    private static void dropOfABadThread() {
        Scene.changesNothing("drop of a bad thread", (x, scene) -> {
            for (int t : scene.badThreads()) {
                Check.due("drop(" + t + ")", x.drop(t), Check.BAD);
            }
            return scene.badThreads().length;
        });
    }

    /** "the answer is OK, also if it was empty already." */
    private static void dropOfAnEmptyDraft() {
        Scene.changesNothing("drop of an empty draft", (x, scene) -> {
            int tried = 0;
            for (int t = 0; t < scene.threads; t++) {
                if (scene.drafted(x, t) == 0) {
                    Check.due("drop(" + t + ")", x.drop(t), Check.OK);
                    Check.due("drop(" + t + ") again", x.drop(t), Check.OK);
                    tried++;
                }
            }
            return tried;
        });
    }

    /** "Otherwise the draft of t becomes empty": one that has S entries has room for S again. */
    private static void dropOfAFullDraft() {
        for (int span = 1; span <= 8; span++) {
            MultiwordSwap x = full(span);
            Check.due("drop", x.drop(0), Check.OK);
            for (int a = 0; a < 16; a++) {
                Check.draft(x, 0, a, 0, 0, 0);
            }
            Check.due("nothing to launch", x.launch(0), Check.EMPTY);
            for (int i = 0; i < span; i++) {
                Check.due("room again", x.put(0, 15 - i, 0, 0), Check.OK);
            }
            Check.due("as much as before", x.put(0, 0, 0, 0), Check.FULL);
        }
    }

    /** What was dropped is not launched along with what is put later. */
    private static void dropForgetsTheEntries() {
        MultiwordSwap x = new MultiwordSwap(2, 4, 2);
        x.put(0, 1, 0, 5);
        x.put(0, 2, 0, 5);
        x.drop(0);
        Check.launch(x, 0, 3, 0, 6);
        Check.live(x, 0, 1, 0, 0, 0);
        Check.live(x, 0, 2, 0, 0, 0);
        Check.live(x, 0, 3, 1, 0, 6);
        Check.due("run", x.run(0, 64), Check.DONE);
        Check.due("value(1)", x.value(1), 0);
        Check.due("value(2)", x.value(2), 0);
        Check.due("value(3)", x.value(3), 6);
    }

    /** "It does not matter whether t is idle." */
    private static void dropWhateverTheThreadDoes() {
        for (Scene scene : Scene.all()) {
            MultiwordSwap x = scene.make();
            for (int t = 0; t < scene.threads; t++) {
                int state = x.state(t);
                x.put(t, 0, 1, 1);
                Check.due(scene.name + ": drop in state " + state, x.drop(t), Check.OK);
                Check.due(scene.name + ": draft", scene.drafted(x, t), 0);
                Check.due(scene.name + ": state", x.state(t), state);
            }
        }
    }

    /** "Nothing else changes". */
    private static void dropChangesOnlyTheDraft() {
        for (Scene scene : Scene.all()) {
            for (int t = 0; t < scene.threads; t++) {
                MultiwordSwap x = scene.make();
                int due = 0;
                for (int a = 0; a < scene.words; a++) {
                    for (int part = 0; part < 3; part++) {
                        due += x.term(t, a, part) != 0 ? 1 : 0;
                    }
                }
                int[] before = Check.everything(x);
                x.drop(t);
                Check.due(scene.name + ": answers changed by drop", Check.changed(x, before), due);
            }
        }
    }

    /** "a running swap of t keeps its entries." */
    private static void dropLeavesTheRunningSwap() {
        for (int turns = 0; turns <= 3; turns++) {
            MultiwordSwap x = new MultiwordSwap(2, 4, 2);
            Check.launch(x, 0, 1, 0, 10, 2, 0, 20);
            x.run(0, turns);
            x.put(0, 1, 7, 8);
            Check.due("drop", x.drop(0), Check.OK);
            Check.live(x, 0, 1, 1, 0, 10);
            Check.live(x, 0, 2, 1, 0, 20);
            Check.due("run", x.run(0, 64), Check.DONE);
            Check.due("the launched one counts", x.value(1), 10);
            Check.due("the launched one counts", x.value(2), 20);
        }
    }

    /** Thread 0's draft has an entry at each of the lowest even addresses, as many as it may. */
    private static MultiwordSwap full(int span) {
        MultiwordSwap x = new MultiwordSwap(2, 16, span);
        for (int i = 0; i < span; i++) {
            Check.due("entry " + (i + 1) + " of " + span, x.put(0, 2 * i, i, i), Check.OK);
        }
        return x;
    }
}
