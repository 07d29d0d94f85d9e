/** Promises 8 to 17: the asking calls. */
public final class AskTest {
    public static void main(String[] args) {
        wrongArguments();
        words();
        states();
        aimsThroughTheLifeOfASwap();
        targetOutlivesTheSwap();
        lateForTheVerySwap();
        outcomes();
        gotValues();
        draftTerms();
        liveTerms();
        askingChangesNothing();
        Check.end();
    }

    /** Every word and thread is in use, so that a bad one let through would show. */
    private static MultiwordSwap busy() {
        MultiwordSwap x = new MultiwordSwap(3, 5, 5);
        for (int a = 0; a < 5; a++) {
            x.put(0, a, 0, a + 100);
        }
        x.launch(0);
        x.run(0, 64);
        for (int t = 0; t < 3; t++) {
            x.read(t, 1);
            x.run(t, 1);
            x.put(t, t, 100 + t, 6);
            x.put(t, 4, 9, 9);
            x.launch(t);
            x.run(t, 2);
            x.put(t, 3, 7, 8);
        }
        return x;
    }

    private static void wrongArguments() {
        MultiwordSwap x = busy();
        int[] badAddresses = {Check.MIN, -1, 5, 15, 16, Check.MAX};
        int[] badThreads = {Check.MIN, -1, 3, 4, Check.MAX};
        for (int a : badAddresses) {
            Check.due("value(" + a + ")", x.value(a), 0);
            Check.due("holder(" + a + ")", x.holder(a), -1);
            for (int part = -1; part < 7; part++) {
                Check.due("term(0, " + a + ", " + part + ")", x.term(0, a, part), 0);
            }
        }
        for (int t : badThreads) {
            Check.due("state(" + t + ")", x.state(t), Check.BAD);
            Check.aim("bad thread", x, t, Check.BAD, -1, -1, false);
            Check.due("outcome(" + t + ")", x.outcome(t), Check.BAD);
            Check.due("got(" + t + ")", x.got(t), 0);
            for (int part = -1; part < 7; part++) {
                Check.due("term(" + t + ", 3, " + part + ")", x.term(t, 3, part), 0);
            }
        }
        int[] badParts = {Check.MIN, -1, 6, 7, Check.MAX};
        for (int part : badParts) {
            Check.due("part " + part + " of an entry in the draft", x.term(0, 3, part), 0);
            Check.due("part " + part + " of an entry in the swap", x.term(0, 0, part), 0);
        }
    }

    private static void words() {
        MultiwordSwap x = new MultiwordSwap(3, 4, 4);
        Check.launch(x, 2, 0, 0, Check.MIN, 1, 0, Check.MAX, 3, 0, -1);
        x.run(2, 3);
        int[] holders = {2, 2, -1, -1};
        for (int a = 0; a < 4; a++) {
            Check.due("value(" + a + ") while claiming", x.value(a), 0);
            Check.due("holder(" + a + ") while claiming", x.holder(a), holders[a]);
        }
        x.run(2, 64);
        int[] values = {Check.MIN, Check.MAX, 0, -1};
        for (int a = 0; a < 4; a++) {
            Check.due("value(" + a + ")", x.value(a), values[a]);
            Check.due("holder(" + a + ")", x.holder(a), -1);
        }
        Check.launch(x, 1, 0, Check.MIN, 5, 2, 0, 5);
        x.run(1, 2);
        Check.due("value of a held word", x.value(0), Check.MIN);
        Check.due("holder of a held word", x.holder(0), 1);
        Check.launch(x, 0, 2, 0, 6);
        x.run(0, 2);
        Check.due("two holders", x.holder(0), 1);
        Check.due("two holders", x.holder(2), 0);
    }

    private static void states() {
        MultiwordSwap x = new MultiwordSwap(3, 4, 2);
        Check.due("idle", x.state(0), Check.IDLE);
        x.put(0, 0, 0, 1);
        Check.due("a draft is no operation", x.state(0), Check.IDLE);
        x.launch(0);
        x.run(0, 2);
        Check.due("undecided", x.state(0), Check.UNDECIDED);
        x.read(1, 0);
        Check.due("reading", x.state(1), Check.READING);
        x.run(1, 1);
        Check.due("reading on", x.state(1), Check.READING);
        x.run(1, 1);
        Check.due("read", x.state(1), Check.IDLE);
        Check.due("succeeded", x.state(0), Check.SUCCEEDED);
        x.run(0, 1);
        Check.due("finished", x.state(0), Check.IDLE);
        Check.launch(x, 2, 0, 1, 1, 1, 9, 9);
        x.run(2, 2);
        x.read(1, 0);
        x.run(1, 64);
        Check.due("failed", x.state(2), Check.FAILED);
        x.run(2, 1);
        Check.due("finished", x.state(2), Check.IDLE);
    }

    private static void aimsThroughTheLifeOfASwap() {
        MultiwordSwap x = new MultiwordSwap(2, 4, 2);
        Check.aim("idle", x, 1, Check.NONE, -1, -1, false);
        Check.launch(x, 1, 2, 0, 1);
        Check.aim("launched", x, 1, Check.NONE, -1, -1, false);
        x.run(1, 1);
        Check.aim("claiming", x, 1, Check.CLAIM, 1, 2, false);
        x.run(1, 1);
        Check.aim("passing", x, 1, Check.PASS, 1, -1, false);
        x.run(1, 1);
        Check.aim("finished", x, 1, Check.NONE, -1, -1, false);
        Check.launch(x, 1, 2, 0, 1);
        x.run(1, 1);
        Check.aim("rejecting", x, 1, Check.REJECT, 1, 2, false);
        x.run(1, 1);
        Check.aim("finished", x, 1, Check.NONE, -1, -1, false);
        x.read(1, 0);
        Check.aim("reading", x, 1, Check.NONE, -1, -1, false);
        x.run(1, 1);
        Check.aim("read", x, 1, Check.NONE, -1, -1, false);
    }

    private static void targetOutlivesTheSwap() {
        MultiwordSwap x = new MultiwordSwap(4, 4, 2);
        Check.launch(x, 3, 0, 0, 1, 1, 0, 1);
        x.run(3, 2);
        x.read(0, 0);
        x.run(0, 1);
        Check.launch(x, 2, 0, 0, 5);
        x.run(2, 1);
        Check.aim("read helps", x, 0, Check.CLAIM, 3, 1, false);
        Check.aim("swap helps", x, 2, Check.CLAIM, 3, 1, false);
        x.run(2, 2);
        Check.aim("decided, not finished", x, 0, Check.CLAIM, 3, 1, true);
        Check.aim("its owner's aim is late too", x, 3, Check.CLAIM, 3, 1, true);
        Check.aim("the decider looks on", x, 2, Check.REJECT, 2, 0, false);
        x.run(3, 1);
        Check.aim("finished, owner idle", x, 0, Check.CLAIM, 3, 1, true);
        Check.aim("the owner has no aim", x, 3, Check.NONE, -1, -1, false);
        x.read(3, 2);
        Check.aim("owner reading", x, 0, Check.CLAIM, 3, 1, true);
        x.run(3, 1);
        Check.launch(x, 3, 1, 1, 2);
        x.run(3, 1);
        Check.aim("owner swapping again", x, 0, Check.CLAIM, 3, 1, true);
        Check.aim("the new swap's aim is not late", x, 3, Check.CLAIM, 3, 1, false);
        x.run(3, 64);
        Check.aim("owner finished again", x, 0, Check.CLAIM, 3, 1, true);
        Check.due("the reader reads at last", x.run(0, 1), Check.DONE);
        Check.aim("and has no aim", x, 0, Check.NONE, -1, -1, false);
        x.read(0, 0);
        Check.aim("nor with the next", x, 0, Check.NONE, -1, -1, false);
    }

    private static void lateForTheVerySwap() {
        MultiwordSwap x = new MultiwordSwap(3, 4, 2);
        Check.launch(x, 0, 0, 0, 1);
        Check.launch(x, 1, 1, 0, 1);
        x.run(0, 2);
        x.run(1, 2);
        x.read(2, 1);
        x.run(2, 1);
        Check.aim("aims at 1", x, 2, Check.PASS, 1, -1, false);
        x.run(0, 1);
        Check.due("0's decision makes no other aim late", x.late(2), false);
        Check.due("nor that of 1", x.late(1), false);
        x.run(1, 1);
        Check.due("1's does", x.late(2), true);
        Check.due("no aim is not late", x.late(1), false);
    }

    private static void outcomes() {
        MultiwordSwap x = new MultiwordSwap(2, 4, 2);
        Check.launch(x, 0, 0, 0, 1);
        Check.due("launched", x.outcome(0), Check.NOTHING);
        x.run(0, 2);
        x.read(1, 0);
        x.run(1, 64);
        Check.due("read", x.outcome(1), Check.VALUE);
        Check.due("decided, not finished", x.outcome(0), Check.NOTHING);
        x.run(0, 1);
        Check.due("finished", x.outcome(0), Check.SUCCEEDED);
        Check.launch(x, 0, 0, 0, 1);
        Check.due("launched again", x.outcome(0), Check.SUCCEEDED);
        x.run(0, 64);
        Check.due("failed", x.outcome(0), Check.FAILED);
        x.read(0, 0);
        Check.due("reading", x.outcome(0), Check.FAILED);
        x.run(0, 1);
        Check.due("read", x.outcome(0), Check.VALUE);
        Check.due("the other's stays", x.outcome(1), Check.VALUE);
    }

    private static void gotValues() {
        MultiwordSwap x = new MultiwordSwap(2, 4, 2);
        Check.launch(x, 0, 0, 0, Check.MIN, 1, 0, -7);
        x.run(0, 64);
        Check.due("no read yet", x.got(0), 0);
        x.read(0, 0);
        Check.due("not finished", x.got(0), 0);
        x.run(0, 1);
        Check.due("got", x.got(0), Check.MIN);
        Check.due("the other has none", x.got(1), 0);
        Check.launch(x, 0, 0, Check.MIN, 3);
        x.run(0, 64);
        Check.due("a success leaves it", x.got(0), Check.MIN);
        Check.launch(x, 0, 0, 0, 3);
        x.run(0, 64);
        Check.due("a failure leaves it", x.got(0), Check.MIN);
        x.read(0, 1);
        x.run(0, 0);
        Check.due("no turn leaves it", x.got(0), Check.MIN);
        x.run(0, 1);
        Check.due("the next read replaces it", x.got(0), -7);
        x.read(0, 2);
        x.run(0, 1);
        Check.due("also with 0", x.got(0), 0);
    }

    private static void draftTerms() {
        MultiwordSwap x = new MultiwordSwap(2, 16, 8);
        x.put(1, 15, 3, -4);
        x.put(1, 0, 0, 0);
        terms("draft at the top", x, 1, 15, 1, 3, -4, 0, 0, 0);
        terms("draft of zeros", x, 1, 0, 1, 0, 0, 0, 0, 0);
        terms("no entry", x, 1, 7, 0, 0, 0, 0, 0, 0);
        terms("the other thread", x, 0, 15, 0, 0, 0, 0, 0, 0);
        x.drop(1);
        terms("dropped", x, 1, 15, 0, 0, 0, 0, 0, 0);
        x.put(1, 15, 3, -4);
        x.launch(1);
        x.put(1, 15, 5, 6);
        terms("both", x, 1, 15, 1, 5, 6, 1, 3, -4);
    }

    private static void liveTerms() {
        MultiwordSwap x = new MultiwordSwap(2, 4, 2);
        Check.launch(x, 0, 1, 0, 8, 2, 0, 9);
        terms("undecided", x, 0, 1, 0, 0, 0, 1, 0, 8);
        terms("no entry", x, 0, 3, 0, 0, 0, 0, 0, 0);
        terms("another thread", x, 1, 1, 0, 0, 0, 0, 0, 0);
        x.run(0, 2);
        x.read(1, 1);
        terms("a read", x, 1, 1, 0, 0, 0, 1, 0, 0);
        terms("a read of another", x, 1, 2, 0, 0, 0, 0, 0, 0);
        x.run(1, 64);
        Check.due("decided", x.state(0), Check.SUCCEEDED);
        terms("decided", x, 0, 2, 0, 0, 0, 1, 0, 9);
        terms("a finished read", x, 1, 1, 0, 0, 0, 0, 0, 0);
        x.run(0, 1);
        terms("finished", x, 0, 1, 0, 0, 0, 0, 0, 0);
        terms("finished", x, 0, 2, 0, 0, 0, 0, 0, 0);
        x.read(0, 2);
        terms("a read after a swap of the same", x, 0, 2, 0, 0, 0, 1, 0, 0);
        terms("a read after a swap of another", x, 0, 1, 0, 0, 0, 0, 0, 0);
        x.run(0, 1);
        Check.launch(x, 0, 1, 7, 7, 3, 6, 6);
        terms("the old entry is gone", x, 0, 2, 0, 0, 0, 0, 0, 0);
        terms("the new one is there", x, 0, 3, 0, 0, 0, 1, 6, 6);
        Check.launch(x, 1, 0, 0, 0, 1, 5, 5);
        x.run(1, 2);
        x.run(0, 64);
        x.read(0, 0);
        x.run(0, 64);
        Check.due("failed", x.state(1), Check.FAILED);
        terms("failed", x, 1, 1, 0, 0, 0, 1, 5, 5);
    }

    private static void terms(String what, MultiwordSwap x, int t, int a,
            int has, int expected, int desired, int liveHas, int liveExpected, int liveDesired) {
        Check.due(what + ": DRAFT_HAS", x.term(t, a, Check.DRAFT_HAS), has);
        Check.due(what + ": DRAFT_EXPECTED", x.term(t, a, Check.DRAFT_EXPECTED), expected);
        Check.due(what + ": DRAFT_DESIRED", x.term(t, a, Check.DRAFT_DESIRED), desired);
        Check.due(what + ": LIVE_HAS", x.term(t, a, Check.LIVE_HAS), liveHas);
        Check.due(what + ": LIVE_EXPECTED", x.term(t, a, Check.LIVE_EXPECTED), liveExpected);
        Check.due(what + ": LIVE_DESIRED", x.term(t, a, Check.LIVE_DESIRED), liveDesired);
    }

    private static void askingChangesNothing() {
        MultiwordSwap x = busy();
        int[] before = Check.everything(x);
        Check.unchanged("asking", x, before);
    }
}
