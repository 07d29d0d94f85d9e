import java.util.Arrays;

/**
 * What "Terms" and "One turn" say of all times and of every turn, checked after each call of long
 * fixed runs. It knows nothing of what the answers should be, only of how they must fit together.
 */
public final class AlwaysTest {
    private static final int RUNS = 1500;
    private static final int CALLS = 200;

    private static int run;
    private static int call;
    private static int threads;
    private static int words;
    private static int span;
    private static MultiwordSwap x;

    /** A fixed sequence of numbers, so that every run of this test is the same. */
    private static long seed = 17L;

    private static int pick(int bound) {
        seed = seed * 6364136223846793005L + 1442695040888963407L;
        return (int) ((seed >>> 33) % bound);
    }

    public static void main(String[] args) {
        // One wrong run is enough to read; the runs after it would only bury it.
        for (run = 0; run < RUNS && !Check.anyWrong(); run++) {
            threads = 2 + pick(3);
            words = 4 + pick(pick(3) == 0 ? 13 : 2);
            span = 1 + pick(8);
            x = new MultiwordSwap(threads, words, span);
            for (call = 0; call < CALLS && !Check.anyWrong(); call++) {
                oneCall();
            }
        }
        demandEveryStepWasMet();
        Check.end();
    }

    private static void oneCall() {
        int t = pick(threads);
        int a = pick(words);
        Seen before = new Seen();
        switch (pick(16)) {
            case 0: x.drop(t); onlyTheDraft(before, t); break;
            case 1: case 2: case 3: case 4: case 5: draft(t, a); break;
            case 6: case 7: x.launch(t); aStart(before, t); break;
            case 8: x.read(t, a); aStart(before, t); break;
            default: turn(t); break;
        }
        always(new Seen());
    }

    /** Neighbouring words, so that swaps overlap. */
    private static void draft(int t, int from) {
        for (int a = from; a < from + 3 && a < words; a++) {
            Seen before = new Seen();
            x.put(t, a, pick(5) == 0 ? pick(2) : x.value(a), pick(2));
            onlyTheDraft(before, t);
        }
    }

    private static void turn(int t) {
        Seen before = new Seen();
        x.run(t, 1);
        Seen after = new Seen();
        if (before.state[t] == Check.IDLE) {
            holds("an idle thread takes no turn", before.sameAll(after));
            return;
        }
        theStep(before, after, t);
        theOthers(before, after, t);
        theMover(before, after, t);
    }

    /** All that can be seen of an object at one moment, by name. */
    private static final class Seen {
        final int[] value = new int[words];
        final int[] holder = new int[words];
        final int[] state = new int[threads];
        final int[] aim = new int[threads];
        final int[] target = new int[threads];
        final int[] place = new int[threads];
        final boolean[] late = new boolean[threads];
        final int[] outcome = new int[threads];
        final int[] got = new int[threads];
        final int[][] draft = new int[threads][words * 3];
        final int[][] live = new int[threads][words * 3];

        Seen() {
            for (int a = 0; a < words; a++) {
                value[a] = x.value(a);
                holder[a] = x.holder(a);
            }
            for (int t = 0; t < threads; t++) {
                state[t] = x.state(t);
                aim[t] = x.aim(t);
                target[t] = x.target(t);
                place[t] = x.place(t);
                late[t] = x.late(t);
                outcome[t] = x.outcome(t);
                got[t] = x.got(t);
                for (int i = 0; i < words * 3; i++) {
                    draft[t][i] = x.term(t, i / 3, Check.DRAFT_HAS + i % 3);
                    live[t][i] = x.term(t, i / 3, Check.LIVE_HAS + i % 3);
                }
            }
        }

        boolean has(int t, int a) {
            return live[t][a * 3] == 1;
        }

        int expected(int t, int a) {
            return live[t][a * 3 + 1];
        }

        int desired(int t, int a) {
            return live[t][a * 3 + 2];
        }

        boolean swaps(int t) {
            return state[t] == Check.UNDECIDED || decided(t);
        }

        boolean decided(int t) {
            return state[t] == Check.SUCCEEDED || state[t] == Check.FAILED;
        }

        boolean sameWords(Seen s) {
            return Arrays.equals(value, s.value) && Arrays.equals(holder, s.holder);
        }

        boolean sameAim(Seen s, int t) {
            return aim[t] == s.aim[t] && target[t] == s.target[t] && place[t] == s.place[t];
        }

        boolean sameOperation(Seen s, int t) {
            return state[t] == s.state[t] && Arrays.equals(live[t], s.live[t]);
        }

        boolean sameDraft(Seen s, int t) {
            return Arrays.equals(draft[t], s.draft[t]);
        }

        boolean sameRecord(Seen s, int t) {
            return outcome[t] == s.outcome[t] && got[t] == s.got[t];
        }

        boolean sameAllOf(Seen s, int t) {
            return sameAim(s, t) && late[t] == s.late[t] && sameOperation(s, t) && sameDraft(s, t) && sameRecord(s, t);
        }

        boolean sameAll(Seen s) {
            boolean same = sameWords(s);
            for (int t = 0; t < threads; t++) {
                same &= sameAllOf(s, t);
            }
            return same;
        }
    }

    private static void holds(String sentence, boolean does) {
        // The text is made only when it is needed: making it takes longer than the check.
        Check.due(does ? sentence : "run " + run + ", call " + call + ": " + sentence, does, true);
    }

    private static void always(Seen s) {
        for (int a = 0; a < words; a++) {
            heldWord(s, a);
        }
        for (int t = 0; t < threads; t++) {
            operation(s, t);
            if (s.state[t] == Check.UNDECIDED) {
                holdsItsFirst(s, t);
            }
            aim(s, t);
            holds("a draft has at most S entries", count(s.draft[t]) <= span);
            holds("an outcome is one of four", s.outcome[t] == Check.NOTHING || s.outcome[t] == Check.VALUE
                || s.outcome[t] == Check.SUCCEEDED || s.outcome[t] == Check.FAILED);
        }
    }

    private static int count(int[] entries) {
        int count = 0;
        for (int i = 0; i < entries.length; i += 3) {
            count += entries[i];
        }
        return count;
    }

    private static void heldWord(Seen s, int a) {
        int owner = s.holder[a];
        if (owner != -1) {
            holds("only an undecided swap holds words", s.state[owner] == Check.UNDECIDED);
            holds("it holds words of its entries", s.has(owner, a));
            holds("a held word has the expected value", s.value[a] == s.expected(owner, a));
        }
    }

    /** "An undecided swap holds the words of its first k entries, for some k". */
    private static void holdsItsFirst(Seen s, int t) {
        boolean gap = false;
        for (int a = 0; a < words; a++) {
            if (s.has(t, a)) {
                gap |= s.holder[a] != t;
                holds("it holds the first k", !(gap && s.holder[a] == t));
            }
        }
    }

    private static void operation(Seen s, int t) {
        int entries = count(s.live[t]);
        if (s.state[t] == Check.IDLE) {
            holds("an idle thread runs nothing", entries == 0);
        } else if (s.state[t] == Check.READING) {
            holds("a read has one address", entries == 1);
        } else {
            holds("any other state is that of a swap", s.swaps(t));
            holds("a swap has 1 to S entries", entries >= 1 && entries <= span);
        }
    }

    private static void aim(Seen s, int t) {
        if (s.aim[t] == Check.NONE) {
            holds("no aim is aimed nowhere", s.target[t] == -1 && s.place[t] == -1 && !s.late[t]);
            return;
        }
        holds("idle threads have no aim", s.state[t] != Check.IDLE);
        holds("an aim is bound to a thread's swap", s.target[t] >= 0 && s.target[t] < threads);
        boolean pass = s.aim[t] == Check.PASS;
        holds("an aim is one of three", pass || s.aim[t] == Check.CLAIM || s.aim[t] == Check.REJECT);
        holds("CLAIM and REJECT have a place, PASS has none", pass == (s.place[t] == -1));
        if (!s.late[t]) {
            holds("an aim at an operation not decided", s.state[s.target[t]] == Check.UNDECIDED);
            holds("the place is the address of one of its entries", pass || s.has(s.target[t], s.place[t]));
        }
    }

    private static void onlyTheDraft(Seen before, int t) {
        Seen after = new Seen();
        holds("put and drop change no word", before.sameWords(after));
        for (int u = 0; u < threads; u++) {
            holds("put and drop change no operation", before.sameOperation(after, u));
            holds("put and drop change no aim", before.sameAim(after, u) && before.late[u] == after.late[u]);
            holds("put and drop change no outcome", before.sameRecord(after, u));
            holds("put and drop change the draft of no other", u == t || before.sameDraft(after, u));
        }
    }

    private static void aStart(Seen before, int t) {
        Seen after = new Seen();
        holds("launch and read change no word", before.sameWords(after));
        holds("launch and read give no aim", before.sameAim(after, t));
        holds("launch and read leave outcome and got", before.sameRecord(after, t));
        for (int u = 0; u < threads; u++) {
            holds("launch and read leave the others", u == t || before.sameAllOf(after, u));
        }
        if (after.state[t] == Check.UNDECIDED && before.state[t] == Check.IDLE) {
            holds("the draft becomes the swap", Arrays.equals(before.draft[t], after.live[t]));
            holds("and is empty", count(after.draft[t]) == 0);
        } else {
            holds("else the draft stays", before.sameDraft(after, t));
        }
    }

    private static int claims;
    private static int passes;
    private static int rejects;
    private static int stale;
    private static int lateSteps;

    private static void demandEveryStepWasMet() {
        Check.due("claims were met", claims > 1000, true);
        Check.due("passes were met", passes > 1000, true);
        Check.due("rejects were met", rejects > 1000, true);
        Check.due("stale claims were met", stale > 100, true);
        Check.due("late steps were met", lateSteps > 100, true);
    }

    /** "at most one step, the one it settled on in an earlier turn": what a turn does, its aim has told. */
    private static void theStep(Seen before, Seen after, int t) {
        int s = before.target[t];
        if (before.aim[t] == Check.NONE || before.late[t]) {
            lateSteps += before.late[t] ? 1 : 0;
            holds("no aim, or a late one, does nothing", before.sameWords(after) && decisions(before, after, t) == 0);
        } else if (before.aim[t] == Check.CLAIM) {
            theClaim(before, after, t);
        } else {
            boolean pass = before.aim[t] == Check.PASS;
            passes += pass ? 1 : 0;
            rejects += pass ? 0 : 1;
            int due = pass ? Check.SUCCEEDED : Check.FAILED;
            holds("it is decided as aimed", (s == t ? after.outcome[t] : after.state[s]) == due);
            holds("no other is decided", decisions(before, after, t) == (s == t ? 0 : 1));
            wordsOfTheDecided(before, after, s, pass);
        }
    }

    /** Decisions that can be seen on the threads that have not moved. */
    private static int decisions(Seen before, Seen after, int mover) {
        int count = 0;
        for (int t = 0; t < threads; t++) {
            count += t != mover && before.state[t] != after.state[t] ? 1 : 0;
        }
        return count;
    }

    private static void theClaim(Seen before, Seen after, int t) {
        int s = before.target[t];
        int place = before.place[t];
        boolean claimed = before.holder[place] == -1 && before.value[place] == before.expected(s, place);
        claims += claimed ? 1 : 0;
        stale += claimed ? 0 : 1;
        holds("a claim changes no value", Arrays.equals(before.value, after.value));
        holds("a claim decides nothing", decisions(before, after, t) == 0);
        for (int a = 0; a < words; a++) {
            holds("a claim holds its place alone", after.holder[a] == (a == place && claimed ? s : before.holder[a]));
        }
    }

    private static void wordsOfTheDecided(Seen before, Seen after, int s, boolean pass) {
        for (int a = 0; a < words; a++) {
            int due = pass && before.has(s, a) ? before.desired(s, a) : before.value[a];
            holds("PASS stores the desired values, and nothing else does", after.value[a] == due);
            holds("the decided swap holds nothing, the others what they held",
                after.holder[a] == (before.holder[a] == s ? -1 : before.holder[a]));
        }
    }

    /** "A turn changes no draft, and neither aim, outcome nor got value of any other thread." */
    private static void theOthers(Seen before, Seen after, int mover) {
        for (int t = 0; t < threads; t++) {
            holds("a turn changes no draft", before.sameDraft(after, t));
            if (t == mover) {
                continue;
            }
            holds("nor another's aim", before.sameAim(after, t));
            holds("nor another's outcome and got", before.sameRecord(after, t));
            holds("entries are fixed at launch", Arrays.equals(before.live[t], after.live[t]));
            boolean nowDecided = before.state[t] == Check.UNDECIDED && after.decided(t);
            holds("another's swap is decided at most, never finished",
                before.state[t] == after.state[t] || nowDecided);
            int s = before.target[t];
            boolean makesLate = s != -1 && !before.late[t] && isDecided(before, after, s, mover);
            holds("an aim becomes late with the decision, and stays late", after.late[t] == (before.late[t] || makesLate));
        }
    }

    private static boolean isDecided(Seen before, Seen after, int s, int mover) {
        // The mover's own swap is finished in the turn that decides it.
        return before.state[s] == Check.UNDECIDED
            && (after.decided(s) || s == mover && after.state[s] == Check.IDLE);
    }

    private static void theMover(Seen before, Seen after, int t) {
        boolean idle = after.state[t] == Check.IDLE;
        holds("after a turn the thread is idle or has an aim", idle == (after.aim[t] == Check.NONE));
        holds("a new aim is not late", !after.late[t]);
        if (!idle) {
            holds("its operation goes on as it was", before.sameOperation(after, t));
            holds("outcome and got stay", before.sameRecord(after, t));
            holds("a decided swap is finished by its owner's turn", !before.decided(t));
        } else if (before.state[t] == Check.READING) {
            int a = addressOf(before, t);
            holds("the word read is held by no swap", after.holder[a] == -1);
            holds("a read comes out as VALUE", after.outcome[t] == Check.VALUE);
            holds("it got the value", after.got[t] == after.value[a]);
        } else {
            holds("a decided swap comes out as decided", !before.decided(t) || after.outcome[t] == before.state[t]);
            holds("a swap comes out decided", after.outcome[t] == Check.SUCCEEDED || after.outcome[t] == Check.FAILED);
            holds("a finished swap leaves got", after.got[t] == before.got[t]);
        }
    }

    private static int addressOf(Seen s, int reader) {
        int found = 0;
        for (int a = 0; a < words; a++) {
            found = s.has(reader, a) ? a : found;
        }
        return found;
    }
}
