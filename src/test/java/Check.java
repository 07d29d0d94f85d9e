import java.util.Arrays;

/** What the tests share: comparing an answer with the one due, and ending with the right exit code. */
final class Check {
    static final int BAD = MultiwordSwap.BAD;
    static final int OK = MultiwordSwap.OK;
    static final int BUSY = MultiwordSwap.BUSY;
    static final int FULL = MultiwordSwap.FULL;
    static final int EMPTY = MultiwordSwap.EMPTY;
    static final int IDLE = MultiwordSwap.IDLE;
    static final int RUNNING = MultiwordSwap.RUNNING;
    static final int DONE = MultiwordSwap.DONE;
    static final int READING = MultiwordSwap.READING;
    static final int UNDECIDED = MultiwordSwap.UNDECIDED;
    static final int SUCCEEDED = MultiwordSwap.SUCCEEDED;
    static final int FAILED = MultiwordSwap.FAILED;
    static final int NOTHING = MultiwordSwap.NOTHING;
    static final int VALUE = MultiwordSwap.VALUE;
    static final int NONE = MultiwordSwap.NONE;
    static final int CLAIM = MultiwordSwap.CLAIM;
    static final int PASS = MultiwordSwap.PASS;
    static final int REJECT = MultiwordSwap.REJECT;
    static final int DRAFT_HAS = MultiwordSwap.DRAFT_HAS;
    static final int DRAFT_EXPECTED = MultiwordSwap.DRAFT_EXPECTED;
    static final int DRAFT_DESIRED = MultiwordSwap.DRAFT_DESIRED;
    static final int LIVE_HAS = MultiwordSwap.LIVE_HAS;
    static final int LIVE_EXPECTED = MultiwordSwap.LIVE_EXPECTED;
    static final int LIVE_DESIRED = MultiwordSwap.LIVE_DESIRED;

    static final int MIN = Integer.MIN_VALUE;
    static final int MAX = Integer.MAX_VALUE;

    private static int wrong = 0;
    private static int done = 0;

    private Check() {
    }

    static void due(String what, long got, long want) {
        done++;
        if (got != want) {
            wrong++;
            System.out.println(what + " answered " + got + ", due is " + want);
        }
    }

    static void due(String what, boolean got, boolean want) {
        due(what, got ? 1 : 0, want ? 1 : 0);
    }

    /** All that can be asked of an object; 20 addresses and 6 threads take in bad ones on purpose. */
    static int[] everything(MultiwordSwap x) {
        int[] all = new int[2 * 20 + 6 * (7 + 20 * 6)];
        int i = 0;
        for (int a = -2; a < 18; a++) {
            all[i++] = x.value(a);
            all[i++] = x.holder(a);
        }
        for (int t = -1; t < 5; t++) {
            all[i++] = x.state(t);
            all[i++] = x.aim(t);
            all[i++] = x.target(t);
            all[i++] = x.place(t);
            all[i++] = x.late(t) ? 1 : 0;
            all[i++] = x.outcome(t);
            all[i++] = x.got(t);
            for (int a = -2; a < 18; a++) {
                for (int part = 0; part < 6; part++) {
                    all[i++] = x.term(t, a, part);
                }
            }
        }
        return all;
    }

    static void unchanged(String what, MultiwordSwap x, int[] before) {
        due(what + " changes nothing", Arrays.equals(before, everything(x)), true);
    }

    static void alike(String what, MultiwordSwap x, MultiwordSwap twin) {
        due(what + " leaves both alike", Arrays.equals(everything(twin), everything(x)), true);
    }

    /** How many of all the answers are other than before. */
    static int changed(MultiwordSwap x, int[] before) {
        int[] after = everything(x);
        int count = 0;
        for (int i = 0; i < before.length; i++) {
            count += before[i] != after[i] ? 1 : 0;
        }
        return count;
    }

    static void draft(MultiwordSwap x, int t, int a, int has, int expected, int desired) {
        due("draft of " + t + " has " + a, x.term(t, a, DRAFT_HAS), has);
        due("draft of " + t + " expects at " + a, x.term(t, a, DRAFT_EXPECTED), expected);
        due("draft of " + t + " desires at " + a, x.term(t, a, DRAFT_DESIRED), desired);
    }

    static void live(MultiwordSwap x, int t, int a, int has, int expected, int desired) {
        due("operation of " + t + " has " + a, x.term(t, a, LIVE_HAS), has);
        due("operation of " + t + " expects at " + a, x.term(t, a, LIVE_EXPECTED), expected);
        due("operation of " + t + " desires at " + a, x.term(t, a, LIVE_DESIRED), desired);
    }

    /** The aim of t in one go: kind, owner, place, late. */
    static void aim(String what, MultiwordSwap x, int t, int kind, int target, int place, boolean late) {
        due(what + ": aim(" + t + ")", x.aim(t), kind);
        due(what + ": target(" + t + ")", x.target(t), target);
        due(what + ": place(" + t + ")", x.place(t), place);
        due(what + ": late(" + t + ")", x.late(t), late);
    }

    /** Drafts the given triples of address, expected, desired for t and launches them. */
    static void launch(MultiwordSwap x, int t, int... triples) {
        for (int i = 0; i + 2 < triples.length; i += 3) {
            due("put(" + t + ", " + triples[i] + ", ..)", x.put(t, triples[i], triples[i + 1], triples[i + 2]), OK);
        }
        due("launch(" + t + ")", x.launch(t), OK);
    }

    static boolean anyWrong() {
        return wrong != 0;
    }

    static void end() {
        System.out.println(done + " checks, " + wrong + " wrong");
        if (wrong != 0) {
            System.exit(1);
        }
    }
}
