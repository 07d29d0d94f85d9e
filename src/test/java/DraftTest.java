/** Promises 2 and 3: put and drop. */
public final class DraftTest {
    public static void main(String[] args) {
        wrongArguments();
        entriesAreAddedAndReplaced();
        aFullDraft();
        anyIntIsTaken();
        whileRunning();
        dropping();
        Check.end();
    }

    private static void wrongArguments() {
        MultiwordSwap x = new MultiwordSwap(3, 5, 1);
        x.put(0, 0, 7, 8);
        int[] before = Check.everything(x);
        int[] badThreads = {Check.MIN, -1, 3, 4, Check.MAX};
        int[] badAddresses = {Check.MIN, -1, 5, 16, Check.MAX};
        for (int t : badThreads) {
            Check.due("put of bad thread " + t, x.put(t, 0, 1, 2), Check.BAD);
            Check.due("put of bad thread and address " + t, x.put(t, -1, 1, 2), Check.BAD);
            Check.due("drop of bad thread " + t, x.drop(t), Check.BAD);
        }
        for (int a : badAddresses) {
            // Thread 0's draft is full: a bad address goes before FULL.
            Check.due("put at bad address " + a, x.put(0, a, 1, 2), Check.BAD);
        }
        Check.unchanged("BAD", x, before);
    }

    private static void entriesAreAddedAndReplaced() {
        MultiwordSwap x = new MultiwordSwap(2, 8, 3);
        Check.due("put new", x.put(0, 5, 1, 2), Check.OK);
        Check.draft(x, 0, 5, 1, 1, 2);
        Check.due("put again", x.put(0, 5, 3, 4), Check.OK);
        Check.draft(x, 0, 5, 1, 3, 4);
        Check.draft(x, 1, 5, 0, 0, 0);
        Check.due("put lower", x.put(0, 2, 9, 9), Check.OK);
        Check.draft(x, 0, 2, 1, 9, 9);
        Check.draft(x, 0, 5, 1, 3, 4);
        Check.draft(x, 0, 3, 0, 0, 0);
    }

    private static void aFullDraft() {
        MultiwordSwap x = new MultiwordSwap(2, 8, 2);
        x.put(0, 1, 1, 1);
        x.put(0, 1, 1, 2);
        Check.due("replacing takes no room", x.put(0, 2, 2, 2), Check.OK);
        int[] before = Check.everything(x);
        Check.due("put into a full draft", x.put(0, 3, 3, 3), Check.FULL);
        Check.unchanged("FULL", x, before);
        Check.due("replacing in a full draft", x.put(0, 1, 5, 6), Check.OK);
        Check.draft(x, 0, 1, 1, 5, 6);
        Check.draft(x, 0, 2, 1, 2, 2);
        Check.due("the other draft is not full", x.put(1, 3, 3, 3), Check.OK);
        Check.due("still full", x.put(0, 0, 3, 3), Check.FULL);
    }

    private static void anyIntIsTaken() {
        int[] values = {Check.MIN, -1, 0, 1, Check.MAX};
        MultiwordSwap x = new MultiwordSwap(2, 4, 1);
        for (int expected : values) {
            for (int desired : values) {
                Check.due("put any int", x.put(1, 3, expected, desired), Check.OK);
                Check.draft(x, 1, 3, 1, expected, desired);
            }
        }
    }

    private static void whileRunning() {
        MultiwordSwap x = new MultiwordSwap(2, 8, 2);
        Check.launch(x, 0, 1, 0, 10, 2, 0, 20);
        x.run(0, 2);
        Check.due("put while running", x.put(0, 1, 7, 8), Check.OK);
        Check.due("put elsewhere while running", x.put(0, 4, 7, 8), Check.OK);
        Check.due("put too much while running", x.put(0, 5, 7, 8), Check.FULL);
        Check.live(x, 0, 1, 1, 0, 10);
        Check.live(x, 0, 2, 1, 0, 20);
        Check.live(x, 0, 4, 0, 0, 0);
        Check.due("holder stays", x.holder(1), 0);
        Check.aim("put leaves the aim", x, 0, Check.CLAIM, 0, 2, false);
        Check.due("drop while running", x.drop(0), Check.OK);
        Check.draft(x, 0, 1, 0, 0, 0);
        Check.live(x, 0, 1, 1, 0, 10);
        x.put(0, 3, 5, 6);
        Check.due("run", x.run(0, 64), Check.DONE);
        Check.due("the launched entries count", x.value(1), 10);
        Check.due("the launched entries count", x.value(2), 20);
        Check.due("not the drafted one", x.value(3), 0);
        Check.draft(x, 0, 3, 1, 5, 6);
        x.read(0, 0);
        Check.due("put while reading", x.put(0, 0, 1, 2), Check.OK);
        Check.due("drop while reading", x.drop(0), Check.OK);
        Check.due("still reading", x.state(0), Check.READING);
    }

    private static void dropping() {
        MultiwordSwap x = new MultiwordSwap(2, 16, 2);
        int[] fresh = Check.everything(x);
        Check.due("drop of an empty draft", x.drop(0), Check.OK);
        Check.unchanged("dropping an empty draft", x, fresh);
        x.put(0, 0, 1, 2);
        x.put(0, 15, 3, 4);
        Check.due("drop", x.drop(0), Check.OK);
        Check.unchanged("putting and dropping", x, fresh);
        Check.due("launch after drop", x.launch(0), Check.EMPTY);
        Check.due("room after drop", x.put(0, 3, 1, 1), Check.OK);
        Check.due("room after drop", x.put(0, 4, 1, 1), Check.OK);
        Check.due("no more room than before", x.put(0, 5, 1, 1), Check.FULL);
        x.put(1, 3, 6, 6);
        x.drop(0);
        Check.draft(x, 1, 3, 1, 6, 6);
    }
}
