import java.util.ArrayList;
import java.util.List;
import java.util.Map;
import java.util.TreeMap;

/**
 * Long runs of mixed calls, each answer compared with that of a second, plain reading of the
 * document, in which a swap is an object of its own and an aim points to that object.
 */
public final class ModelTest {
    private static final int RUNS = 12000;
    private static final int CALLS = 150;
    private static final String[] TERMS = {"term -1", "DRAFT_HAS", "DRAFT_EXPECTED", "DRAFT_DESIRED",
        "LIVE_HAS", "LIVE_EXPECTED", "LIVE_DESIRED", "term 6"};

    private static int run;
    private static int call;
    private static long compared;

    /** A fixed sequence of numbers, so that every run of this test is the same. */
    private static long seed = 20261115L;

    private static int pick(int bound) {
        seed = seed * 6364136223846793005L + 1442695040888963407L;
        return (int) ((seed >>> 33) % bound);
    }

    public static void main(String[] args) {
        // One wrong run is enough to read; the runs after it would only bury it.
        for (run = 0; run < RUNS && !Check.anyWrong(); run++) {
            oneRun();
        }
        System.out.println(compared + " answers compared");
        demandEveryCaseWasMet();
        Check.end();
    }

    private static void oneRun() {
        int threads = 1 + pick(7);
        int words = pick(4) == 0 ? pick(20) : 4 + pick(3);
        int span = 1 + pick(5);
        MultiwordSwap x = new MultiwordSwap(threads, words, span);
        Model m = new Model(threads, words, span);
        for (call = 0; call < CALLS; call++) {
            oneCall(x, m);
            compareAll(x, m);
        }
    }

    private static int pickThread(Model m) {
        return pick(40) == 0 ? pick(9) - 3 : pick(m.threads);
    }

    private static int pickAddress(Model m) {
        return pick(40) == 0 ? pick(22) - 3 : pick(pick(3) == 0 ? m.words : Math.min(6, m.words));
    }

    private static void oneCall(MultiwordSwap x, Model m) {
        int t = pickThread(m);
        int a = pickAddress(m);
        int kind = pick(24);
        if (kind < 6) {
            putSome(x, m, t, a);
        } else if (kind < 7) {
            if (pick(4) == 0) {
                same("drop", t, x.drop(t), m.drop(t));
            }
        } else if (kind < 10) {
            same("launch", t, x.launch(t), m.launch(t));
        } else if (kind < 12) {
            same("read", t, x.read(t, a), m.read(t, a));
        } else if (kind < 22) {
            int n = pick(25) == 0 ? pick(140) - 40 : 1;
            same("run", t, x.run(t, n), m.run(t, n));
        } else {
            int pattern = pick(1 << 16) << 16 | pick(1 << 16);
            int n = pick(8) == 0 ? pick(40) - 10 : pick(5);
            same("weave", n, x.weave(pattern, n), m.weave(pattern, n));
        }
    }

    /** Neighbouring words, so that swaps overlap and chains of them come about. */
    private static void putSome(MultiwordSwap x, Model m, int t, int from) {
        int to = from + pick(3);
        for (int a = from; a <= to; a++) {
            int expected = pick(6) == 0 ? pick(2) : m.value(a);
            int desired = pick(2);
            same("put", t, x.put(t, a, expected, desired), m.put(t, a, expected, desired));
        }
    }

    private static void same(String what, int of, int got, int want) {
        compared++;
        // The text is made only when it is needed: making it takes longer than the call.
        if (got != want) {
            Check.due("run " + run + ", call " + call + ": " + what + " of " + of, got, want);
        }
    }

    private static void compareAll(MultiwordSwap x, Model m) {
        for (int a = -1; a <= m.words; a++) {
            same("value", a, x.value(a), m.value(a));
            same("holder", a, x.holder(a), m.holder(a));
        }
        for (int t = -1; t <= m.threads; t++) {
            same("state", t, x.state(t), m.state(t));
            same("aim", t, x.aim(t), m.aim(t));
            same("target", t, x.target(t), m.target(t));
            same("place", t, x.place(t), m.place(t));
            same("late", t, x.late(t) ? 1 : 0, m.late(t) ? 1 : 0);
            same("outcome", t, x.outcome(t), m.outcome(t));
            same("got", t, x.got(t), m.got(t));
            int a = pick(m.words + 2) - 1;
            for (int part = -1; part <= 6; part++) {
                same(TERMS[part + 1], t, x.term(t, a, part), m.term(t, a, part));
            }
        }
    }

    /** Cases of a turn that are worth nothing to the test if no run comes upon them. */
    private static final String[] CASES = {
        "late CLAIM", "late PASS", "late REJECT", "late for another swap of the owner", "claimed", "claim: held already",
        "claim: held by another", "claim: value differs", "passed own", "passed another's", "rejected own",
        "rejected another's", "rejected though the value fits",
        "swaps visited: 2", "swaps visited: 3", "swaps visited: 4"
    };

    private static final Map<String, Integer> met = new TreeMap<>();

    private static void meet(String what) {
        met.merge(what, 1, Integer::sum);
    }

    private static void demandEveryCaseWasMet() {
        for (String what : CASES) {
            Check.due("case met: " + what, met.getOrDefault(what, 0) > 0, true);
        }
        System.out.println(met);
    }

    private static final class Entry {
        final int expected;
        final int desired;

        Entry(int expected, int desired) {
            this.expected = expected;
            this.desired = desired;
        }
    }

    private static final class Swap {
        final int owner;
        final TreeMap<Integer, Entry> entries;
        final List<Integer> held = new ArrayList<>();
        int state = Check.UNDECIDED;

        Swap(int owner, TreeMap<Integer, Entry> entries) {
            this.owner = owner;
            this.entries = entries;
        }
    }

    private static final class Thread {
        TreeMap<Integer, Entry> draft = new TreeMap<>();
        Swap swap = null;
        int reading = -1;
        int kind = Check.NONE;
        Swap aimed = null;
        int place = -1;
        int outcome = Check.NOTHING;
        int got = 0;

        boolean idle() {
            return swap == null && reading < 0;
        }

        void aimAt(int newKind, Swap s, int a) {
            kind = newKind;
            aimed = s;
            place = a;
        }

        void finish(int how) {
            outcome = how;
            swap = null;
            reading = -1;
            aimAt(Check.NONE, null, -1);
        }
    }

    private static final class Model {
        final int threads;
        final int words;
        final int span;
        final int[] values;
        final Thread[] all;

        Model(int threads, int words, int span) {
            this.threads = Math.min(4, Math.max(2, threads));
            this.words = Math.min(16, Math.max(4, words));
            this.span = Math.min(8, Math.max(1, span));
            values = new int[this.words];
            all = new Thread[this.threads];
            for (int t = 0; t < this.threads; t++) {
                all[t] = new Thread();
            }
        }

        boolean noThread(int t) {
            return t < 0 || t >= threads;
        }

        boolean noWord(int a) {
            return a < 0 || a >= words;
        }

        Swap holding(int a) {
            for (Thread th : all) {
                if (th.swap != null && th.swap.held.contains(a)) {
                    return th.swap;
                }
            }
            return null;
        }

        int put(int t, int a, int expected, int desired) {
            if (noThread(t) || noWord(a)) {
                return Check.BAD;
            }
            TreeMap<Integer, Entry> draft = all[t].draft;
            if (!draft.containsKey(a) && draft.size() == span) {
                return Check.FULL;
            }
            draft.put(a, new Entry(expected, desired));
            return Check.OK;
        }

        int drop(int t) {
            if (noThread(t)) {
                return Check.BAD;
            }
            all[t].draft.clear();
            return Check.OK;
        }

        int launch(int t) {
            if (noThread(t)) {
                return Check.BAD;
            }
            if (!all[t].idle()) {
                return Check.BUSY;
            }
            if (all[t].draft.isEmpty()) {
                return Check.EMPTY;
            }
            all[t].swap = new Swap(t, all[t].draft);
            all[t].draft = new TreeMap<>();
            return Check.OK;
        }

        int read(int t, int a) {
            if (noThread(t) || noWord(a)) {
                return Check.BAD;
            }
            if (!all[t].idle()) {
                return Check.BUSY;
            }
            all[t].reading = a;
            return Check.OK;
        }

        int run(int t, int n) {
            if (noThread(t)) {
                return Check.BAD;
            }
            if (all[t].idle()) {
                return Check.IDLE;
            }
            for (int left = Math.min(n, 64); left > 0; left--) {
                turn(all[t]);
                if (all[t].idle()) {
                    return Check.DONE;
                }
            }
            return Check.RUNNING;
        }

        int weave(int pattern, int n) {
            int finished = 0;
            for (int i = 0; i < Math.min(n, 16); i++) {
                int d = (pattern >>> (2 * i)) & 3;
                if (d >= threads || all[d].idle()) {
                    continue;
                }
                turn(all[d]);
                finished += all[d].idle() ? 1 : 0;
            }
            return finished;
        }

        void turn(Thread th) {
            if (th.aimed != null) {
                act(th);
            }
            look(th);
        }

        void act(Thread th) {
            Swap s = th.aimed;
            if (s.state != Check.UNDECIDED) {
                meet("late " + (th.kind == Check.CLAIM ? "CLAIM" : th.kind == Check.PASS ? "PASS" : "REJECT"));
                if (all[s.owner].swap != null && all[s.owner].swap != s) {
                    meet("late for another swap of the owner");
                }
                return;
            }
            String whose = th.swap == s ? " own" : " another's";
            if (th.kind == Check.CLAIM) {
                actClaim(s, th.place);
            } else if (th.kind == Check.PASS) {
                meet("passed" + whose);
                s.state = Check.SUCCEEDED;
                s.held.clear();
                s.entries.forEach((a, e) -> values[a] = e.desired);
            } else {
                meet("rejected" + whose);
                if (values[th.place] == s.entries.get(th.place).expected) {
                    meet("rejected though the value fits");
                }
                if (s.held.size() == s.entries.size()) {
                    meet("rejected though all is held");
                }
                s.state = Check.FAILED;
                s.held.clear();
            }
        }

        void actClaim(Swap s, int a) {
            if (s.held.contains(a)) {
                meet("claim: held already");
            } else if (holding(a) != null) {
                meet("claim: held by another");
            } else if (values[a] != s.entries.get(a).expected) {
                meet("claim: value differs");
            } else {
                meet("claimed");
                s.held.add(a);
            }
        }

        void look(Thread th) {
            Swap w = th.swap;
            if (w != null && w.state != Check.UNDECIDED) {
                th.finish(w.state);
                return;
            }
            if (w == null) {
                w = holding(th.reading);
                if (w == null) {
                    th.got = values[th.reading];
                    th.finish(Check.VALUE);
                    return;
                }
            }
            int visited = 1;
            while (true) {
                Integer a = null;
                for (int at : w.entries.keySet()) {
                    if (a == null && !w.held.contains(at)) {
                        a = at;
                    }
                }
                if (a == null) {
                    th.aimAt(Check.PASS, w, -1);
                    break;
                }
                Swap v = holding(a);
                if (v == null) {
                    th.aimAt(values[a] == w.entries.get(a).expected ? Check.CLAIM : Check.REJECT, w, a);
                    break;
                }
                w = v;
                visited++;
            }
            meet("swaps visited: " + visited);
        }

        int value(int a) {
            return noWord(a) ? 0 : values[a];
        }

        int holder(int a) {
            Swap s = holding(a);
            return s == null ? -1 : s.owner;
        }

        int state(int t) {
            if (noThread(t)) {
                return Check.BAD;
            }
            if (all[t].idle()) {
                return Check.IDLE;
            }
            return all[t].swap == null ? Check.READING : all[t].swap.state;
        }

        int aim(int t) {
            return noThread(t) ? Check.BAD : all[t].kind;
        }

        int target(int t) {
            return noThread(t) || all[t].aimed == null ? -1 : all[t].aimed.owner;
        }

        int place(int t) {
            return noThread(t) ? -1 : all[t].place;
        }

        boolean late(int t) {
            return !noThread(t) && all[t].aimed != null && all[t].aimed.state != Check.UNDECIDED;
        }

        int outcome(int t) {
            return noThread(t) ? Check.BAD : all[t].outcome;
        }

        int got(int t) {
            return noThread(t) ? 0 : all[t].got;
        }

        int term(int t, int a, int part) {
            if (noThread(t) || noWord(a) || part < 0 || part > 5) {
                return 0;
            }
            Thread th = all[t];
            if (part == Check.LIVE_HAS && th.reading == a) {
                return 1;
            }
            boolean live = part >= Check.LIVE_HAS;
            Entry e = live ? (th.swap == null ? null : th.swap.entries.get(a)) : th.draft.get(a);
            if (e == null) {
                return 0;
            }
            return part % 3 == 0 ? 1 : part % 3 == 1 ? e.expected : e.desired;
        }
    }
}
