/** Promises 8 to 17, the asking calls: one test for each sentence that names an edge. */
public final class EdgeAskTest {
    public static void main(String[] args) {
        valueOfABadAddress();
        valueWhetherHeldOrNot();
        holderOfABadAddress();
        holderIfNoSwapHoldsIt();
        holderIsTheOwnerNotTheHelper();
        stateOfABadThread();
        stateOfEachKind();
        aimOfABadThread();
        aimOfNone();
        aimLateOrNot();
        targetOfABadThread();
        targetOfNoAim();
        targetMayBeTheThreadItself();
        targetWhoeverTheOwnerIsByNow();
        placeOfABadThread();
        placeOfNoAim();
        placeOfAPass();
        placeOfClaimAndReject();
        lateOfABadThread();
        lateOfNoAim();
        lateWhateverTheOwnerDoesNext();
        outcomeOfABadThread();
        outcomeOfNothingFinished();
        outcomeWhileRunning();
        gotOfABadThread();
        gotOfNoRead();
        gotOfSwaps();
        termOfABadThread();
        termOfABadAddress();
        termOfNoPart();
        draftTermsOfNoEntry();
        draftTermsOfZeros();
        liveTermsOfAnIdleThread();
        liveTermsOfARead();
        liveTermsOfNoEntry();
        liveTermsOfADecidedSwap();
        Check.end();
    }

    private interface OfAThread {
        int ask(MultiwordSwap x, int t);
    }

    private static void ofBadThreads(String call, OfAThread asking, int due) {
        Scene.changesNothing(call + " of a bad thread", (x, scene) -> {
            for (int t : scene.badThreads()) {
                Check.due(call + "(" + t + ")", asking.ask(x, t), due);
            }
            return scene.badThreads().length;
        });
        goodThreadsChangeNothing(call, asking);
    }

    /** "Changes nothing." of the same call, asked twice over of every good thread. */
    private static void goodThreadsChangeNothing(String call, OfAThread asking) {
        Scene.changesNothing(call, (x, scene) -> {
            for (int t = 0; t < scene.threads; t++) {
                Check.due(call + "(" + t + ") twice", asking.ask(x, t), asking.ask(x, t));
            }
            return scene.threads;
        });
    }

    /** "0 if a is bad." and "Changes nothing." */
    private static void valueOfABadAddress() {
        Scene.changesNothing("value", (x, scene) -> {
            for (int a : scene.badAddresses()) {
                Check.due("value(" + a + ")", x.value(a), 0);
            }
            for (int a = 0; a < scene.words; a++) {
                Check.due("value(" + a + ") twice", x.value(a), x.value(a));
            }
            return scene.words;
        });
        // Words that are not 0, from the first to the last: a wrong edge would show one of them.
        for (int words = 4; words <= 16; words++) {
            MultiwordSwap x = noZeros(words);
            for (int a = -20; a < 70; a++) {
                Check.due("W = " + words + ": value(" + a + ")", x.value(a), a < 0 || a >= words ? 0 : a + 1);
            }
        }
    }

    private static MultiwordSwap noZeros(int words) {
        MultiwordSwap x = new MultiwordSwap(2, words, 4);
        for (int a = 0; a < words; a++) {
            Check.launch(x, 0, a, 0, a + 1);
            x.run(0, 64);
        }
        return x;
    }

    /** "whether it is held or not" and "claiming does not alter it." */
    private static void valueWhetherHeldOrNot() {
        for (int v : Scene.VALUES) {
            MultiwordSwap x = new MultiwordSwap(2, 4, 2);
            Check.launch(x, 0, 3, 0, v);
            x.run(0, 64);
            Check.due("not held", x.value(3), v);
            Check.launch(x, 0, 3, v, 6);
            x.run(0, 1);
            Check.due("aimed at", x.value(3), v);
            x.run(0, 1);
            Check.due("holder", x.holder(3), 0);
            Check.due("held", x.value(3), v);
            x.run(0, 1);
            Check.due("passed", x.value(3), 6);
        }
    }

    /** "-1 if ... a is bad. Changes nothing." */
    private static void holderOfABadAddress() {
        Scene.changesNothing("holder", (x, scene) -> {
            for (int a : scene.badAddresses()) {
                Check.due("holder(" + a + ")", x.holder(a), -1);
            }
            for (int a = 0; a < scene.words; a++) {
                Check.due("holder(" + a + ") twice", x.holder(a), x.holder(a));
            }
            return scene.words;
        });
        MultiwordSwap x = new MultiwordSwap(2, 4, 4);
        Check.launch(x, 1, 0, 0, 1, 1, 0, 1, 2, 0, 1, 3, 0, 1);
        x.run(1, 5);
        for (int a = -20; a < 70; a++) {
            Check.due("all held: holder(" + a + ")", x.holder(a), a < 0 || a >= 4 ? -1 : 1);
        }
    }

    /** "-1 if no swap holds it": before the claim, after the decision, and beside other held words. */
    private static void holderIfNoSwapHoldsIt() {
        MultiwordSwap x = new MultiwordSwap(4, 4, 2);
        Check.launch(x, 0, 0, 0, 1, 3, 0, 1);
        int[][] due = {{-1, -1, -1, -1}, {-1, -1, -1, -1}, {0, -1, -1, -1}, {0, -1, -1, 0}, {-1, -1, -1, -1}};
        for (int turns = 0; turns < due.length; turns++) {
            for (int a = 0; a < 4; a++) {
                Check.due("after " + turns + " turns: holder(" + a + ")", x.holder(a), due[turns][a]);
            }
            x.run(0, 1);
        }
    }

    /** "the owner of the swap that holds word a": whoever made the claim. */
    private static void holderIsTheOwnerNotTheHelper() {
        for (int owner = 0; owner < 4; owner++) {
            int helper = owner + 1 & 3;
            MultiwordSwap x = new MultiwordSwap(4, 4, 2);
            Check.launch(x, owner, 0, 0, 1, 3, 0, 1);
            x.run(owner, 2);
            x.read(helper, 0);
            x.run(helper, 2);
            Check.due("claimed by the owner", x.holder(0), owner);
            Check.due("claimed by the helper", x.holder(3), owner);
        }
    }

    /** "BAD if t is bad" and "Changes nothing." */
    private static void stateOfABadThread() {
        ofBadThreads("state", MultiwordSwap::state, Check.BAD);
    }

    /** "IDLE if t is idle; READING if t runs a read; and, if t runs a swap, UNDECIDED, SUCCEEDED or FAILED". */
    private static void stateOfEachKind() {
        MultiwordSwap x = new MultiwordSwap(4, 6, 2);
        Check.launch(x, 0, 0, 0, 1);
        x.run(0, 2);
        Check.launch(x, 1, 2, 0, 1, 3, 9, 9);
        x.run(1, 2);
        Check.launch(x, 3, 0, 1, 2, 2, 0, 2);
        x.run(3, 3);
        int[] due = {Check.SUCCEEDED, Check.UNDECIDED, Check.IDLE, Check.UNDECIDED};
        for (int t = 0; t < 4; t++) {
            Check.due("state(" + t + ")", x.state(t), due[t]);
        }
        x.read(2, 2);
        Check.due("reading", x.state(2), Check.READING);
        x.run(2, 1);
        Check.due("reading, with an aim", x.state(2), Check.READING);
        x.run(2, 1);
        Check.due("read", x.state(2), Check.IDLE);
        Check.due("rejected by the reader", x.state(1), Check.FAILED);
    }

    /** "BAD if t is bad" and "Changes nothing." */
    private static void aimOfABadThread() {
        ofBadThreads("aim", MultiwordSwap::aim, Check.BAD);
    }

    /** "NONE if t has no aim (idle, or no turn taken since its operation was launched)". */
    private static void aimOfNone() {
        MultiwordSwap x = new MultiwordSwap(3, 4, 1);
        Check.due("idle", x.aim(0), Check.NONE);
        Check.launch(x, 0, 0, 0, 1);
        x.read(1, 0);
        x.run(0, 0);
        x.run(1, -1);
        x.weave(0b1010, 2);
        Check.due("no turn of the swap", x.aim(0), Check.NONE);
        Check.due("no turn of the read", x.aim(1), Check.NONE);
        x.run(0, 1);
        Check.due("one turn of the swap", x.aim(0), Check.CLAIM);
        Check.due("but none of the read", x.aim(1), Check.NONE);
        x.run(0, 2);
        Check.due("finished", x.aim(0), Check.NONE);
        x.run(1, 1);
        Check.due("read", x.aim(1), Check.NONE);
        Check.launch(x, 0, 0, 1, 2);
        Check.due("launched again", x.aim(0), Check.NONE);
    }

    /** "the kind of t's aim, CLAIM, PASS or REJECT, whether it is late or not." */
    private static void aimLateOrNot() {
        int[] kinds = {Check.CLAIM, Check.PASS, Check.REJECT};
        for (int kind : kinds) {
            MultiwordSwap x = helped(kind);
            Check.due("not late", x.aim(1), kind);
            x.run(0, 64);
            Check.due("it is late now", x.late(1), true);
            Check.due("late", x.aim(1), kind);
        }
    }

    /** Thread 1 reads, and its aim is of the given kind and bound to 0's swap. */
    private static MultiwordSwap helped(int kind) {
        MultiwordSwap x = new MultiwordSwap(3, 4, 2);
        Check.launch(x, 0, 1, 0, 4, 3, kind == Check.REJECT ? 5 : 0, 4);
        x.run(0, kind == Check.PASS ? 3 : 2);
        x.read(1, 1);
        x.run(1, 1);
        return x;
    }

    /** "-1 if t is bad" and "Changes nothing." */
    private static void targetOfABadThread() {
        ofBadThreads("target", MultiwordSwap::target, -1);
    }

    /** "-1 if t ... has no aim": in every scene, for every thread without one. */
    private static void targetOfNoAim() {
        withoutAim("target", MultiwordSwap::target, -1);
    }

    private static void withoutAim(String call, OfAThread asking, int due) {
        int tried = 0;
        for (Scene scene : Scene.all()) {
            MultiwordSwap x = scene.make();
            for (int t = 0; t < scene.threads; t++) {
                if (x.aim(t) == Check.NONE) {
                    Check.due(scene.name + ": " + call + "(" + t + ")", asking.ask(x, t), due);
                    tried++;
                }
            }
        }
        Check.due(call + " without an aim was tried", tried > 10, true);
    }

    /** "The owner may be t itself." */
    private static void targetMayBeTheThreadItself() {
        for (int t = 0; t < 4; t++) {
            MultiwordSwap x = new MultiwordSwap(4, 4, 1);
            Check.launch(x, t, 0, 0, 1);
            x.run(t, 1);
            Check.due("CLAIM", x.target(t), t);
            x.run(t, 1);
            Check.due("PASS", x.target(t), t);
            x.run(t, 1);
            Check.launch(x, t, 0, 0, 1);
            x.run(t, 1);
            Check.due("REJECT", x.target(t), t);
        }
    }

    /** "It is still answered if that owner has meanwhile finished the swap, is idle, or runs another operation." */
    private static void targetWhoeverTheOwnerIsByNow() {
        int[] kinds = {Check.CLAIM, Check.PASS, Check.REJECT};
        for (int kind : kinds) {
            MultiwordSwap x = helped(kind);
            Check.due("undecided", x.target(1), 0);
            x.read(2, 1);
            x.run(2, 64);
            Check.due("decided, not finished", x.target(1), 0);
            x.run(0, 1);
            Check.due("the owner is idle", x.state(0), Check.IDLE);
            Check.due("finished", x.target(1), 0);
            x.read(0, 0);
            Check.due("the owner reads", x.target(1), 0);
            x.run(0, 64);
            Check.launch(x, 0, 2, 0, 1);
            Check.due("the owner swaps", x.target(1), 0);
            x.run(0, 64);
            Check.due("the owner has swapped", x.target(1), 0);
            Check.due("all the while late", x.late(1), true);
        }
    }

    /** "-1 if t is bad" and "Changes nothing." */
    private static void placeOfABadThread() {
        ofBadThreads("place", MultiwordSwap::place, -1);
    }

    /** "-1 if t ... has no aim". */
    private static void placeOfNoAim() {
        withoutAim("place", MultiwordSwap::place, -1);
    }

    /** "-1 if ... the kind is PASS.": late or not. */
    private static void placeOfAPass() {
        MultiwordSwap x = helped(Check.PASS);
        Check.due("the owner's", x.place(0), -1);
        Check.due("the helper's", x.place(1), -1);
        x.run(0, 64);
        Check.due("late", x.late(1), true);
        Check.due("the helper's, late", x.place(1), -1);
    }

    /** "the place of t's aim if its kind is CLAIM or REJECT, whether it is late or not": each address. */
    private static void placeOfClaimAndReject() {
        for (int a = 0; a < 16; a++) {
            for (int expected = 0; expected < 2; expected++) {
                int kind = expected == 0 ? Check.CLAIM : Check.REJECT;
                MultiwordSwap x = new MultiwordSwap(2, 16, 2);
                Check.launch(x, 0, a, expected, 1);
                x.run(0, 1);
                Check.aim("at " + a, x, 0, kind, 0, a, false);
            }
        }
        int[] kinds = {Check.CLAIM, Check.REJECT};
        for (int kind : kinds) {
            MultiwordSwap x = helped(kind);
            Check.due("not late", x.place(1), 3);
            x.run(0, 64);
            Check.due("it is late now", x.late(1), true);
            Check.due("late", x.place(1), 3);
        }
    }

    /** "true if t is not bad, ...; otherwise false." and "Changes nothing." */
    private static void lateOfABadThread() {
        ofBadThreads("late", (x, t) -> x.late(t) ? 1 : 0, 0);
    }

    /** "true if t ... has an aim ...; otherwise false.": a thread whose late aim is gone has none. */
    private static void lateOfNoAim() {
        withoutAim("late", (x, t) -> x.late(t) ? 1 : 0, 0);
        MultiwordSwap x = helped(Check.CLAIM);
        x.run(0, 64);
        Check.due("late", x.late(1), true);
        x.run(1, 64);
        Check.due("idle", x.late(1), false);
        x.read(1, 0);
        Check.due("reading again", x.late(1), false);
    }

    /** "A later swap of the same owner has no bearing on it.": neither launched, nor claiming, nor decided. */
    private static void lateWhateverTheOwnerDoesNext() {
        int[] kinds = {Check.CLAIM, Check.PASS, Check.REJECT};
        for (int kind : kinds) {
            MultiwordSwap x = helped(kind);
            x.run(0, 64);
            for (int again = 0; again < 3; again++) {
                Check.launch(x, 0, 1, x.value(1), 4, 3, x.value(3), 4);
                for (int turn = 0; turn < 4; turn++) {
                    Check.due("late before turn " + turn, x.late(1), true);
                    x.run(0, 1);
                }
                Check.due("late after the last", x.late(1), true);
                Check.due("idle", x.state(0), Check.IDLE);
            }
        }
    }

    /** "BAD if t is bad." and "Changes nothing." */
    private static void outcomeOfABadThread() {
        ofBadThreads("outcome", MultiwordSwap::outcome, Check.BAD);
    }

    /** "NOTHING if t has finished none." */
    private static void outcomeOfNothingFinished() {
        MultiwordSwap x = new MultiwordSwap(3, 4, 1);
        x.put(0, 0, 0, 1);
        Check.due("drafted", x.outcome(0), Check.NOTHING);
        x.launch(0);
        Check.due("launched", x.outcome(0), Check.NOTHING);
        x.run(0, 2);
        Check.due("about to pass", x.outcome(0), Check.NOTHING);
        x.read(1, 0);
        Check.due("reading", x.outcome(1), Check.NOTHING);
        x.run(1, 1);
        Check.due("reading, with an aim", x.outcome(1), Check.NOTHING);
        x.run(0, 1);
        Check.due("finished", x.outcome(0), Check.SUCCEEDED);
        Check.due("which says nothing of another", x.outcome(1), Check.NOTHING);
        Check.due("which says nothing of another", x.outcome(2), Check.NOTHING);
    }

    /** "A running operation, even a decided swap, has no bearing on it until it is finished." */
    private static void outcomeWhileRunning() {
        MultiwordSwap x = new MultiwordSwap(2, 4, 2);
        Check.launch(x, 0, 0, 3, 3);
        x.run(0, 64);
        Check.due("the last one", x.outcome(0), Check.FAILED);
        Check.launch(x, 0, 0, 0, 1);
        x.run(0, 2);
        x.read(1, 0);
        x.run(1, 64);
        Check.due("decided", x.state(0), Check.SUCCEEDED);
        Check.due("still the last one", x.outcome(0), Check.FAILED);
        x.run(0, 0);
        Check.due("still the last one", x.outcome(0), Check.FAILED);
        x.run(0, 1);
        Check.due("finished", x.outcome(0), Check.SUCCEEDED);
        x.read(0, 0);
        Check.due("reading", x.outcome(0), Check.SUCCEEDED);
        x.run(0, 1);
        Check.due("read", x.outcome(0), Check.VALUE);
        Check.launch(x, 0, 0, 1, 1, 1, 9, 9);
        x.run(0, 2);
        x.read(1, 0);
        x.run(1, 64);
        Check.due("decided", x.state(0), Check.FAILED);
        Check.due("still the last one", x.outcome(0), Check.VALUE);
        x.run(0, 1);
        Check.due("finished", x.outcome(0), Check.FAILED);
    }

    /** "It is 0 if t is bad" and "Changes nothing." */
    private static void gotOfABadThread() {
        ofBadThreads("got", MultiwordSwap::got, 0);
        for (int threads = 2; threads <= 4; threads++) {
            MultiwordSwap x = new MultiwordSwap(threads, 4, 1);
            Check.launch(x, 0, 0, 0, 8);
            x.run(0, 64);
            for (int t = 0; t < threads; t++) {
                x.read(t, 0);
                x.run(t, 64);
            }
            for (int t = -20; t < 40; t++) {
                Check.due("T = " + threads + ": got(" + t + ")", x.got(t), t < 0 || t >= threads ? 0 : 8);
            }
        }
    }

    /** "It is 0 if t ... has finished no read.": one that is running has taken no value yet. */
    private static void gotOfNoRead() {
        MultiwordSwap x = new MultiwordSwap(2, 4, 2);
        Check.launch(x, 0, 0, 0, 5, 1, 0, 5);
        x.run(0, 64);
        Check.launch(x, 0, 0, 5, 6, 1, 5, 6);
        x.run(0, 2);
        x.read(1, 0);
        Check.due("launched", x.got(1), 0);
        x.run(1, 2);
        Check.due("helping", x.got(1), 0);
        x.run(1, 1);
        Check.due("read", x.got(1), 6);
        Check.due("another's read", x.got(0), 0);
    }

    /** "finished swaps leave it as it is." */
    private static void gotOfSwaps() {
        for (int v : Scene.VALUES) {
            MultiwordSwap x = new MultiwordSwap(2, 4, 1);
            Check.launch(x, 0, 0, 0, v);
            x.run(0, 64);
            x.read(0, 0);
            x.run(0, 64);
            Check.due("read", x.got(0), v);
            Check.launch(x, 0, 0, v, 3);
            x.run(0, 64);
            Check.due("after a success", x.got(0), v);
            Check.launch(x, 0, 0, 4, 5);
            x.run(0, 64);
            Check.due("after a failure", x.got(0), v);
            x.read(0, 0);
            Check.due("while reading", x.got(0), v);
        }
    }

    /** "answers 0 if t is bad": every part, every address. */
    private static void termOfABadThread() {
        Scene.changesNothing("term of a bad thread", (x, scene) -> {
            int tried = 0;
            for (int t : scene.badThreads()) {
                for (int a : scene.anyAddress()) {
                    for (int part = -1; part <= 6; part++) {
                        Check.due("term(" + t + ", " + a + ", " + part + ")", x.term(t, a, part), 0);
                        tried++;
                    }
                }
            }
            return tried;
        });
    }

    /** "0 if ... a is bad": every part; thread and word beside it have entries to be mistaken for it. */
    private static void termOfABadAddress() {
        Scene.changesNothing("term of a bad address", (x, scene) -> {
            int tried = 0;
            for (int t = 0; t < scene.threads; t++) {
                for (int a : scene.badAddresses()) {
                    for (int part = -1; part <= 6; part++) {
                        Check.due("term(" + t + ", " + a + ", " + part + ")", x.term(t, a, part), 0);
                        tried++;
                    }
                }
            }
            return tried;
        });
        for (int words = 4; words <= 8; words++) {
            MultiwordSwap x = new MultiwordSwap(4, words, 8);
            for (int t = 0; t < 4; t++) {
                putEverywhere(x, t, words);
                x.launch(t);
                putEverywhere(x, t, words);
            }
            for (int a = -40; a < 70; a++) {
                boolean bad = a < 0 || a >= words;
                Check.draft(x, 1, a, bad ? 0 : 1, bad ? 0 : 6, bad ? 0 : 7);
                Check.live(x, 1, a, bad ? 0 : 1, bad ? 0 : 6, bad ? 0 : 7);
            }
        }
    }

    private static void putEverywhere(MultiwordSwap x, int t, int words) {
        for (int a = 0; a < words; a++) {
            x.put(t, a, 6, 7);
        }
    }

    /** "0 if ... part is none of the six parts." */
    private static void termOfNoPart() {
        Scene.changesNothing("term of no part", (x, scene) -> {
            int tried = 0;
            for (int t = 0; t < scene.threads; t++) {
                for (int a = 0; a < scene.words; a++) {
                    for (int part : Scene.badParts()) {
                        Check.due("term(" + t + ", " + a + ", " + part + ")", x.term(t, a, part), 0);
                        tried++;
                    }
                }
            }
            return tried;
        });
        MultiwordSwap x = new MultiwordSwap(2, 4, 8);
        putEverywhere(x, 0, 4);
        x.launch(0);
        putEverywhere(x, 0, 4);
        for (int part = -300; part <= 300; part++) {
            int due = part < 0 || part > 5 ? 0 : part % 3 == 0 ? 1 : part % 3 == 1 ? 6 : 7;
            Check.due("term(0, 0, " + part + ")", x.term(0, 0, part), due);
        }
    }

    /** "1 if the draft of t has an entry for a, else 0." and "0 if there is none.": never, dropped, launched. */
    private static void draftTermsOfNoEntry() {
        MultiwordSwap x = new MultiwordSwap(2, 4, 2);
        Check.draft(x, 0, 1, 0, 0, 0);
        x.put(0, 1, 8, 9);
        Check.draft(x, 0, 1, 1, 8, 9);
        Check.draft(x, 0, 0, 0, 0, 0);
        Check.draft(x, 0, 2, 0, 0, 0);
        Check.draft(x, 1, 1, 0, 0, 0);
        x.drop(0);
        Check.draft(x, 0, 1, 0, 0, 0);
        Check.launch(x, 0, 1, 8, 9);
        Check.draft(x, 0, 1, 0, 0, 0);
        x.put(0, 2, 3, 4);
        x.put(0, 3, 3, 4);
        Check.due("put at 1", x.put(0, 1, 5, 5), Check.FULL);
        Check.draft(x, 0, 1, 0, 0, 0);
    }

    /** An entry of zeros is told from no entry by DRAFT_HAS and LIVE_HAS alone. */
    private static void draftTermsOfZeros() {
        MultiwordSwap x = new MultiwordSwap(2, 4, 2);
        x.put(0, 1, 0, 0);
        Check.draft(x, 0, 1, 1, 0, 0);
        x.launch(0);
        Check.live(x, 0, 1, 1, 0, 0);
        Check.live(x, 0, 2, 0, 0, 0);
    }

    /** "0 if t is idle": at the start, with a draft, and after a swap and a read. */
    private static void liveTermsOfAnIdleThread() {
        MultiwordSwap x = new MultiwordSwap(2, 4, 4);
        x.put(0, 2, 5, 6);
        Check.live(x, 0, 2, 0, 0, 0);
        x.launch(0);
        Check.live(x, 0, 2, 1, 5, 6);
        x.run(0, 64);
        Check.live(x, 0, 2, 0, 0, 0);
        x.read(0, 2);
        x.run(0, 64);
        Check.live(x, 0, 2, 0, 0, 0);
    }

    /** LIVE_HAS: "or a read of a"; LIVE_EXPECTED, LIVE_DESIRED: "0 if t ... runs a read". */
    private static void liveTermsOfARead() {
        for (int a = 0; a < 16; a++) {
            MultiwordSwap x = new MultiwordSwap(2, 16, 8);
            for (int b = 0; b < 8; b++) {
                x.put(0, (a + b) % 16, 5, 6);
            }
            x.launch(0);
            x.run(0, 64);
            x.put(0, a, 7, 8);
            x.read(0, a);
            for (int b = 0; b < 16; b++) {
                Check.live(x, 0, b, a == b ? 1 : 0, 0, 0);
            }
            Check.draft(x, 0, a, 1, 7, 8);
        }
    }

    /** "0 if ... the swap has no entry for a.": also where the thread's last swap or its draft has one. */
    private static void liveTermsOfNoEntry() {
        MultiwordSwap x = new MultiwordSwap(2, 4, 2);
        Check.launch(x, 0, 0, 5, 6, 1, 5, 6);
        x.run(0, 64);
        Check.launch(x, 0, 1, 7, 8, 2, 7, 8);
        x.put(0, 3, 9, 9);
        int[][] due = {{0, 0, 0}, {1, 7, 8}, {1, 7, 8}, {0, 0, 0}};
        for (int a = 0; a < 4; a++) {
            Check.live(x, 0, a, due[a][0], due[a][1], due[a][2]);
        }
    }

    /** "1 if t runs a swap (decided or not) with an entry for a": until its owner finishes it. */
    private static void liveTermsOfADecidedSwap() {
        int[] kinds = {Check.PASS, Check.REJECT};
        for (int kind : kinds) {
            MultiwordSwap x = helped(kind);
            int expected = kind == Check.REJECT ? 5 : 0;
            Check.live(x, 0, 3, 1, expected, 4);
            x.run(1, 64);
            Check.due("decided", x.state(0), kind == Check.PASS ? Check.SUCCEEDED : Check.FAILED);
            Check.live(x, 0, 1, 1, 0, 4);
            Check.live(x, 0, 2, 0, 0, 0);
            Check.live(x, 0, 3, 1, expected, 4);
            x.run(0, 1);
            Check.live(x, 0, 1, 0, 0, 0);
            Check.live(x, 0, 3, 0, 0, 0);
        }
    }
}
