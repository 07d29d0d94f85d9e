public final class MultiwordSwap {
    public static final int BAD = 0;
    public static final int OK = 1;
    public static final int BUSY = 2;
    public static final int FULL = 3;
    public static final int EMPTY = 4;
    public static final int IDLE = 5;
    public static final int RUNNING = 6;
    public static final int DONE = 7;

    public static final int READING = 8;
    public static final int UNDECIDED = 9;
    public static final int SUCCEEDED = 10;
    public static final int FAILED = 11;
    public static final int NOTHING = 12;
    public static final int VALUE = 13;

    public static final int NONE = 14;
    public static final int CLAIM = 15;
    public static final int PASS = 16;
    public static final int REJECT = 17;

    public static final int DRAFT_HAS = 0;
    public static final int DRAFT_EXPECTED = 1;
    public static final int DRAFT_DESIRED = 2;
    public static final int LIVE_HAS = 3;
    public static final int LIVE_EXPECTED = 4;
    public static final int LIVE_DESIRED = 5;

    private static final int MIN_THREADS = 2;
    private static final int MAX_THREADS = 4;
    private static final int MIN_WORDS = 4;
    private static final int MAX_WORDS = 16;
    private static final int MIN_SPAN = 1;
    private static final int MAX_SPAN = 8;
    private static final int MAX_RUN = 64;
    private static final int MAX_WEAVE = 16;
    private static final int ENTRIES = MAX_THREADS * MAX_WORDS;
    private static final int NOBODY = -1;
    private static final int NOWHERE = -1;

    private final int threadCount;
    private final int wordCount;
    private final int spanLimit;

    private final int[] wordValue = new int[MAX_WORDS];
    private final int[] wordHolder = new int[MAX_WORDS];

    // Entries are kept by address, one row of MAX_WORDS for each thread, so that
    // going through a row is going through the entries in ascending order.
    private final int[] draftSize = new int[MAX_THREADS];
    private final boolean[] draftHas = new boolean[ENTRIES];
    private final int[] draftExpected = new int[ENTRIES];
    private final int[] draftDesired = new int[ENTRIES];

    // The swap's rows are stale unless the thread's phase says that it runs a swap.
    private final int[] phase = new int[MAX_THREADS];
    private final int[] readAddress = new int[MAX_THREADS];
    private final boolean[] swapHas = new boolean[ENTRIES];
    private final int[] swapExpected = new int[ENTRIES];
    private final int[] swapDesired = new int[ENTRIES];

    // An aim that is not late is bound to the swap its owner runs now, because a
    // swap is decided before it is finished; a late aim never acts again. So the
    // owner and the late mark together are enough to tell one swap from the next.
    private final int[] aimKind = new int[MAX_THREADS];
    private final int[] aimOwner = new int[MAX_THREADS];
    private final int[] aimPlace = new int[MAX_THREADS];
    private final boolean[] aimLate = new boolean[MAX_THREADS];

    private final int[] lastOutcome = new int[MAX_THREADS];
    private final int[] lastGot = new int[MAX_THREADS];

    public MultiwordSwap(int threads, int words, int span) {
        threadCount = clamp(threads, MIN_THREADS, MAX_THREADS);
        wordCount = clamp(words, MIN_WORDS, MAX_WORDS);
        spanLimit = clamp(span, MIN_SPAN, MAX_SPAN);
        for (int a = 0; a < MAX_WORDS; a++) {
            wordHolder[a] = NOBODY;
        }
        for (int t = 0; t < MAX_THREADS; t++) {
            phase[t] = IDLE;
            lastOutcome[t] = NOTHING;
            setAim(t, NONE, NOBODY, NOWHERE);
        }
    }

    public int put(int t, int a, int expected, int desired) {
        if (badThread(t) || badAddress(a)) {
            return BAD;
        }
        int e = entry(t, a);
        if (!draftHas[e]) {
            if (draftSize[t] >= spanLimit) {
                return FULL;
            }
            draftHas[e] = true;
            draftSize[t]++;
        }
        draftExpected[e] = expected;
        draftDesired[e] = desired;
        return OK;
    }

    public int drop(int t) {
        if (badThread(t)) {
            return BAD;
        }
        emptyDraft(t);
        return OK;
    }

    public int launch(int t) {
        if (badThread(t)) {
            return BAD;
        }
        if (phase[t] != IDLE) {
            return BUSY;
        }
        if (draftSize[t] == 0) {
            return EMPTY;
        }
        copyDraftToSwap(t);
        emptyDraft(t);
        phase[t] = UNDECIDED;
        return OK;
    }

    public int read(int t, int a) {
        if (badThread(t) || badAddress(a)) {
            return BAD;
        }
        if (phase[t] != IDLE) {
            return BUSY;
        }
        readAddress[t] = a;
        phase[t] = READING;
        return OK;
    }

    public int run(int t, int n) {
        if (badThread(t)) {
            return BAD;
        }
        if (phase[t] == IDLE) {
            return IDLE;
        }
        int turns = clamp(n, 0, MAX_RUN);
        for (int i = 0; i < turns; i++) {
            takeTurn(t);
            if (phase[t] == IDLE) {
                return DONE;
            }
        }
        return RUNNING;
    }

    public int weave(int pattern, int n) {
        int turns = clamp(n, 0, MAX_WEAVE);
        int finished = 0;
        for (int i = 0; i < turns; i++) {
            int d = (pattern >>> (2 * i)) & 3;
            if (d < threadCount && phase[d] != IDLE) {
                takeTurn(d);
                if (phase[d] == IDLE) {
                    finished++;
                }
            }
        }
        return finished;
    }

    public int value(int a) {
        return badAddress(a) ? 0 : wordValue[a];
    }

    public int holder(int a) {
        return badAddress(a) ? NOBODY : wordHolder[a];
    }

    public int state(int t) {
        return badThread(t) ? BAD : phase[t];
    }

    public int aim(int t) {
        return badThread(t) ? BAD : aimKind[t];
    }

    public int target(int t) {
        return badThread(t) ? NOBODY : aimOwner[t];
    }

    public int place(int t) {
        return badThread(t) ? NOWHERE : aimPlace[t];
    }

    public boolean late(int t) {
        return !badThread(t) && aimLate[t];
    }

    public int outcome(int t) {
        return badThread(t) ? BAD : lastOutcome[t];
    }

    public int got(int t) {
        return badThread(t) ? 0 : lastGot[t];
    }

    public int term(int t, int a, int part) {
        if (badThread(t) || badAddress(a)) {
            return 0;
        }
        if (part == LIVE_HAS || part == LIVE_EXPECTED || part == LIVE_DESIRED) {
            return liveTerm(t, a, part);
        }
        int e = entry(t, a);
        if (!draftHas[e]) {
            return 0;
        }
        switch (part) {
            case DRAFT_HAS: return 1;
            case DRAFT_EXPECTED: return draftExpected[e];
            case DRAFT_DESIRED: return draftDesired[e];
            default: return 0;
        }
    }

    private int liveTerm(int t, int a, int part) {
        if (phase[t] == READING) {
            return part == LIVE_HAS && readAddress[t] == a ? 1 : 0;
        }
        int e = entry(t, a);
        if (phase[t] == IDLE || !swapHas[e]) {
            return 0;
        }
        if (part == LIVE_HAS) {
            return 1;
        }
        return part == LIVE_EXPECTED ? swapExpected[e] : swapDesired[e];
    }

    private void copyDraftToSwap(int t) {
        for (int a = 0; a < wordCount; a++) {
            int e = entry(t, a);
            swapHas[e] = draftHas[e];
            swapExpected[e] = draftExpected[e];
            swapDesired[e] = draftDesired[e];
        }
    }

    private void emptyDraft(int t) {
        for (int a = 0; a < wordCount; a++) {
            draftHas[entry(t, a)] = false;
        }
        draftSize[t] = 0;
    }

    private void takeTurn(int t) {
        act(t);
        look(t);
    }

    private void act(int t) {
        if (aimKind[t] == NONE || aimLate[t]) {
            return;
        }
        int s = aimOwner[t];
        if (aimKind[t] == CLAIM) {
            claim(s, aimPlace[t]);
        } else if (aimKind[t] == PASS) {
            storeDesired(s);
            decide(s, SUCCEEDED);
        } else {
            decide(s, FAILED);
        }
    }

    private void claim(int s, int a) {
        if (wordHolder[a] == NOBODY && wordValue[a] == swapExpected[entry(s, a)]) {
            wordHolder[a] = s;
        }
    }

    private void storeDesired(int s) {
        for (int a = 0; a < wordCount; a++) {
            int e = entry(s, a);
            if (swapHas[e]) {
                wordValue[a] = swapDesired[e];
            }
        }
    }

    private void decide(int s, int decision) {
        phase[s] = decision;
        for (int a = 0; a < wordCount; a++) {
            if (wordHolder[a] == s) {
                wordHolder[a] = NOBODY;
            }
        }
        // The mark is set now, for all who aim at this swap, because later the
        // owner's number may stand for another swap.
        for (int t = 0; t < threadCount; t++) {
            if (aimOwner[t] == s) {
                aimLate[t] = true;
            }
        }
    }

    private void look(int t) {
        int first = t;
        if (phase[t] == READING) {
            int a = readAddress[t];
            first = wordHolder[a];
            if (first == NOBODY) {
                lastGot[t] = wordValue[a];
                finish(t, VALUE);
                return;
            }
        } else if (phase[t] != UNDECIDED) {
            finish(t, phase[t]);
            return;
        }
        settle(t, first);
    }

    private void finish(int t, int how) {
        lastOutcome[t] = how;
        phase[t] = IDLE;
        setAim(t, NONE, NOBODY, NOWHERE);
    }

    // Each swap met is blocked at a higher address than the one before, so no swap
    // is met twice and one round for each thread is always enough.
    private void settle(int t, int first) {
        int w = first;
        for (int met = 0; met < threadCount; met++) {
            int a = lowestNotHeld(w);
            if (a == NOWHERE) {
                setAim(t, PASS, w, NOWHERE);
                return;
            }
            if (wordHolder[a] == NOBODY) {
                int kind = wordValue[a] == swapExpected[entry(w, a)] ? CLAIM : REJECT;
                setAim(t, kind, w, a);
                return;
            }
            w = wordHolder[a];
        }
    }

    private int lowestNotHeld(int s) {
        for (int a = 0; a < wordCount; a++) {
            if (swapHas[entry(s, a)] && wordHolder[a] != s) {
                return a;
            }
        }
        return NOWHERE;
    }

    private void setAim(int t, int kind, int owner, int at) {
        aimKind[t] = kind;
        aimOwner[t] = owner;
        aimPlace[t] = at;
        aimLate[t] = false;
    }

    private boolean badThread(int t) {
        return t < 0 || t >= threadCount;
    }

    private boolean badAddress(int a) {
        return a < 0 || a >= wordCount;
    }

    private static int entry(int t, int a) {
        return t * MAX_WORDS + a;
    }

    private static int clamp(int n, int least, int greatest) {
        if (n < least) {
            return least;
        }
        return n > greatest ? greatest : n;
    }
}
