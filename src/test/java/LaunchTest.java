/** Promises 4 and 5: launch and read. */
public final class LaunchTest {
    public static void main(String[] args) {
        wrongThreads();
        orderOfCases();
        launchTakesTheDraft();
        launchLeavesTheRest();
        launchLeavesLateAims();
        readStarts();
        readLeavesTheRest();
        Check.end();
    }

    private static void wrongThreads() {
        MultiwordSwap x = new MultiwordSwap(2, 4, 4);
        x.put(0, 0, 0, 1);
        int[] before = Check.everything(x);
        int[] badThreads = {Check.MIN, -1, 2, 3, 4, Check.MAX};
        for (int t : badThreads) {
            Check.due("launch of " + t, x.launch(t), Check.BAD);
            Check.due("read of " + t, x.read(t, 0), Check.BAD);
        }
        int[] badAddresses = {Check.MIN, -1, 4, 16, Check.MAX};
        for (int a : badAddresses) {
            Check.due("read at " + a, x.read(0, a), Check.BAD);
        }
        Check.unchanged("BAD", x, before);
    }

    private static void orderOfCases() {
        MultiwordSwap x = new MultiwordSwap(2, 4, 4);
        Check.due("launch of nothing", x.launch(0), Check.EMPTY);
        Check.due("still idle", x.state(0), Check.IDLE);
        Check.launch(x, 0, 1, 0, 1);
        x.run(0, 2);
        int[] before = Check.everything(x);
        Check.due("launch of nothing while running", x.launch(0), Check.BUSY);
        Check.due("read while running", x.read(0, 1), Check.BUSY);
        Check.due("bad read while running", x.read(0, 4), Check.BAD);
        Check.unchanged("BUSY", x, before);
        x.put(0, 2, 0, 2);
        before = Check.everything(x);
        Check.due("launch of a draft while running", x.launch(0), Check.BUSY);
        Check.unchanged("BUSY", x, before);
        x.read(1, 1);
        x.put(1, 3, 3, 3);
        before = Check.everything(x);
        Check.due("launch while reading", x.launch(1), Check.BUSY);
        Check.due("read while reading", x.read(1, 2), Check.BUSY);
        Check.due("bad read while reading", x.read(1, -1), Check.BAD);
        Check.unchanged("BUSY", x, before);
        // A swap decided by another thread runs on until its owner finishes it.
        x.run(1, 64);
        Check.due("decided", x.state(0), Check.SUCCEEDED);
        Check.due("launch while decided", x.launch(0), Check.BUSY);
        Check.due("read while decided", x.read(0, 0), Check.BUSY);
    }

    private static void launchTakesTheDraft() {
        MultiwordSwap x = new MultiwordSwap(2, 16, 3);
        x.put(0, 15, 1, 2);
        x.put(0, 0, -3, 4);
        x.put(0, 7, 5, Check.MIN);
        Check.due("launch", x.launch(0), Check.OK);
        Check.due("state", x.state(0), Check.UNDECIDED);
        Check.aim("launch gives no aim", x, 0, Check.NONE, -1, -1, false);
        for (int a = 0; a < 16; a++) {
            boolean has = a == 0 || a == 7 || a == 15;
            Check.due("swap has " + a, x.term(0, a, Check.LIVE_HAS), has ? 1 : 0);
            Check.due("draft has " + a, x.term(0, a, Check.DRAFT_HAS), 0);
            Check.due("holder of " + a, x.holder(a), -1);
            Check.due("value of " + a, x.value(a), 0);
        }
        Check.due("expected", x.term(0, 0, Check.LIVE_EXPECTED), -3);
        Check.due("desired", x.term(0, 0, Check.LIVE_DESIRED), 4);
        Check.due("desired", x.term(0, 7, Check.LIVE_DESIRED), Check.MIN);
        Check.due("expected", x.term(0, 15, Check.LIVE_EXPECTED), 1);
        for (int a = 1; a < 4; a++) {
            Check.due("the draft has room again", x.put(0, a, 0, 0), Check.OK);
        }
        Check.due("and no more", x.put(0, 4, 0, 0), Check.FULL);
    }

    private static void launchLeavesTheRest() {
        MultiwordSwap x = new MultiwordSwap(3, 8, 2);
        Check.launch(x, 0, 0, 0, 6);
        x.run(0, 64);
        x.read(0, 0);
        x.run(0, 64);
        Check.launch(x, 1, 0, 6, 7, 1, 0, 7);
        x.run(1, 2);
        x.put(0, 0, 6, 9);
        x.put(2, 1, 1, 1);
        int[] before = Check.everything(x);
        Check.due("launch on a held word", x.launch(0), Check.OK);
        Check.due("outcome stays", x.outcome(0), Check.VALUE);
        Check.due("got stays", x.got(0), 6);
        Check.due("holder stays", x.holder(0), 1);
        Check.due("no other word is held", x.holder(1), -1);
        Check.due("value stays", x.value(0), 6);
        Check.aim("others' aims stay", x, 1, Check.CLAIM, 1, 1, false);
        Check.due("others' drafts stay", x.term(2, 1, Check.DRAFT_HAS), 1);
        // State of 0, and three parts each of its draft and its swap.
        Check.due("answers changed by launch", Check.changed(x, before), 7);
    }

    private static void launchLeavesLateAims() {
        MultiwordSwap x = new MultiwordSwap(2, 4, 2);
        Check.launch(x, 0, 0, 0, 1, 1, 0, 1);
        x.run(0, 3);
        x.read(1, 0);
        x.run(1, 1);
        Check.aim("bound to the first", x, 1, Check.PASS, 0, -1, false);
        x.run(0, 1);
        Check.aim("late", x, 1, Check.PASS, 0, -1, true);
        Check.launch(x, 0, 0, 1, 2, 1, 1, 2);
        Check.aim("late after a launch", x, 1, Check.PASS, 0, -1, true);
        x.run(0, 3);
        Check.aim("late though the second is ready", x, 1, Check.PASS, 0, -1, true);
        x.run(1, 1);
        Check.due("the late PASS did nothing", x.state(0), Check.UNDECIDED);
        Check.due("the late PASS did nothing", x.value(0), 1);
        Check.aim("bound to the second", x, 1, Check.PASS, 0, -1, false);
        x.run(1, 1);
        Check.due("the second is carried through", x.state(0), Check.SUCCEEDED);
        Check.due("the reader got", x.got(1), 2);
    }

    private static void readStarts() {
        MultiwordSwap x = new MultiwordSwap(2, 16, 2);
        Check.due("read", x.read(1, 15), Check.OK);
        Check.due("state", x.state(1), Check.READING);
        Check.aim("read gives no aim", x, 1, Check.NONE, -1, -1, false);
        Check.due("it has its address", x.term(1, 15, Check.LIVE_HAS), 1);
        Check.due("outcome", x.outcome(1), Check.NOTHING);
        Check.due("run", x.run(1, 1), Check.DONE);
        Check.due("read again", x.read(1, 0), Check.OK);
        Check.due("it has the new address", x.term(1, 0, Check.LIVE_HAS), 1);
        Check.due("it has not the old one", x.term(1, 15, Check.LIVE_HAS), 0);
    }

    private static void readLeavesTheRest() {
        MultiwordSwap x = new MultiwordSwap(2, 8, 2);
        Check.launch(x, 1, 3, 0, 5);
        x.run(1, 64);
        Check.launch(x, 0, 3, 5, 6, 4, 0, 6);
        x.run(0, 2);
        x.put(1, 2, 2, 2);
        Check.due("read of a held word", x.read(1, 3), Check.OK);
        Check.due("outcome stays", x.outcome(1), Check.SUCCEEDED);
        Check.due("got stays", x.got(1), 0);
        Check.due("draft stays", x.term(1, 2, Check.DRAFT_EXPECTED), 2);
        Check.due("holder stays", x.holder(3), 0);
        Check.due("value stays", x.value(3), 5);
        Check.due("the other swap stays", x.state(0), Check.UNDECIDED);
        Check.aim("the other aim stays", x, 0, Check.CLAIM, 0, 4, false);
        Check.aim("no aim yet", x, 1, Check.NONE, -1, -1, false);
    }
}
