/** Promise 1 and the "Fixed numbers": one test for each sentence that names an edge. */
public final class EdgeSizesTest {
    public static void main(String[] args) {
        threadsBelowTheLeast();
        threadsAboveTheGreatest();
        threadsInBetween();
        wordsBelowTheLeast();
        wordsAboveTheGreatest();
        wordsInBetween();
        spanBelowTheLeast();
        spanAboveTheGreatest();
        spanInBetween();
        eachArgumentIsClampedForItself();
        sizesNeverChange();
        wordsAreZeroAtTheStart();
        noWordIsHeldAtTheStart();
        draftsAreEmptyAtTheStart();
        threadsAreIdleAtTheStart();
        noAimAtTheStart();
        noOutcomeAtTheStart();
        gotIsZeroAtTheStart();
        spanMayExceedWords();
        spanEqualToWords();
        badThreadNumbers();
        badAddresses();
        Check.end();
    }

    private static int threadsOf(MultiwordSwap x) {
        int good = 0;
        for (int t = 0; t < 70; t++) {
            good += x.state(t) == Check.BAD ? 0 : 1;
        }
        return good;
    }

    private static int wordsOf(MultiwordSwap x) {
        int good = 0;
        for (int a = 0; a < 70; a++) {
            x.drop(0);
            good += x.put(0, a, 0, 0) == Check.BAD ? 0 : 1;
        }
        x.drop(0);
        return good;
    }

    /** As far as it can be told: no draft has more entries than there are words. */
    private static int spanOf(MultiwordSwap x) {
        int room = 0;
        x.drop(0);
        for (int a = 0; a < 70; a++) {
            room += x.put(0, a, 0, 0) == Check.OK ? 1 : 0;
        }
        x.drop(0);
        return room;
    }

    private static void threads(int given, int due) {
        Check.due("T of threads = " + given, threadsOf(new MultiwordSwap(given, 8, 4)), due);
    }

    private static void words(int given, int due) {
        Check.due("W of words = " + given, wordsOf(new MultiwordSwap(3, given, 4)), due);
    }

    private static void span(int given, int due) {
        Check.due("S of span = " + given, spanOf(new MultiwordSwap(3, 16, given)), due);
    }

    /** "below the least becomes the least ... this covers every int": threads. */
    private static void threadsBelowTheLeast() {
        int[] small = {-3, -2, -1, 0, 1};
        for (int given : small) {
            threads(given, 2);
        }
        for (int given : Scene.WIDE) {
            threads(given, given < 0 ? 2 : 4);
        }
    }

    /** "above the greatest becomes the greatest": threads. */
    private static void threadsAboveTheGreatest() {
        for (int given = 5; given <= 40; given++) {
            threads(given, 4);
        }
    }

    /** "T to threads clamped into 2..4", both ends included. */
    private static void threadsInBetween() {
        for (int given = 2; given <= 4; given++) {
            threads(given, given);
        }
    }

    /** "below the least becomes the least": words. */
    private static void wordsBelowTheLeast() {
        int[] small = {-5, -4, -2, -1, 0, 1, 2, 3};
        for (int given : small) {
            words(given, 4);
        }
        for (int given : Scene.WIDE) {
            words(given, given < 0 ? 4 : 16);
        }
    }

    /** "above the greatest becomes the greatest": words. */
    private static void wordsAboveTheGreatest() {
        for (int given = 17; given <= 68; given++) {
            words(given, 16);
        }
    }

    /** "W to words clamped into 4..16", both ends included. */
    private static void wordsInBetween() {
        for (int given = 4; given <= 16; given++) {
            words(given, given);
        }
    }

    /** "below the least becomes the least": span. */
    private static void spanBelowTheLeast() {
        int[] small = {-8, -2, -1, 0};
        for (int given : small) {
            span(given, 1);
        }
        for (int given : Scene.WIDE) {
            span(given, given < 0 ? 1 : 8);
        }
    }

    /** "above the greatest becomes the greatest": span. */
    private static void spanAboveTheGreatest() {
        for (int given = 9; given <= 40; given++) {
            span(given, 8);
        }
    }

    /** "S to span clamped into 1..8", both ends included. */
    private static void spanInBetween() {
        for (int given = 1; given <= 8; given++) {
            span(given, given);
        }
    }

    /** The three are clamped apart from each other: every pairing of too small, right and too large. */
    private static void eachArgumentIsClampedForItself() {
        int[][] threads = {{Check.MIN, 2}, {1, 2}, {3, 3}, {5, 4}, {Check.MAX, 4}};
        int[][] words = {{Check.MIN, 4}, {3, 4}, {10, 10}, {17, 16}, {Check.MAX, 16}};
        int[][] spans = {{Check.MIN, 1}, {0, 1}, {3, 3}, {9, 8}, {Check.MAX, 8}};
        for (int[] t : threads) {
            for (int[] w : words) {
                for (int[] s : spans) {
                    MultiwordSwap x = new MultiwordSwap(t[0], w[0], s[0]);
                    sizes("(" + t[0] + ", " + w[0] + ", " + s[0] + ")", x, t[1], w[1], s[1]);
                }
            }
        }
    }

    private static void sizes(String what, MultiwordSwap x, int t, int w, int s) {
        Check.due("T of " + what, threadsOf(x), t);
        Check.due("W of " + what, wordsOf(x), w);
        Check.due("S of " + what, spanOf(x), Math.min(s, w));
    }

    /** "T, W and S never change afterwards." */
    private static void sizesNeverChange() {
        for (Scene scene : Scene.all()) {
            MultiwordSwap x = scene.make();
            sizes(scene.name, x, scene.threads, scene.words, scene.span);
            Scene.goOn(x);
            sizes(scene.name + ", later", x, scene.threads, scene.words, scene.span);
        }
    }

    private interface AtTheStart {
        void look(MultiwordSwap x, int threads, int words);
    }

    private static void inEverySize(AtTheStart what) {
        for (int threads = 2; threads <= 4; threads++) {
            for (int words = 4; words <= 16; words++) {
                for (int span = 1; span <= 8; span++) {
                    what.look(new MultiwordSwap(threads, words, span), threads, words);
                }
            }
        }
    }

    /** "At the start all words are 0". */
    private static void wordsAreZeroAtTheStart() {
        inEverySize((x, threads, words) -> {
            for (int a = 0; a < words; a++) {
                Check.due("first value(" + a + ")", x.value(a), 0);
            }
        });
    }

    /** "no word is held". */
    private static void noWordIsHeldAtTheStart() {
        inEverySize((x, threads, words) -> {
            for (int a = 0; a < words; a++) {
                Check.due("first holder(" + a + ")", x.holder(a), -1);
            }
        });
    }

    /** "all drafts are empty". */
    private static void draftsAreEmptyAtTheStart() {
        inEverySize((x, threads, words) -> {
            for (int t = 0; t < threads; t++) {
                for (int a = 0; a < words; a++) {
                    Check.due("first draft of " + t + " at " + a, x.term(t, a, Check.DRAFT_HAS), 0);
                }
                Check.due("first launch(" + t + ")", x.launch(t), Check.EMPTY);
            }
        });
    }

    /** "all threads are idle". */
    private static void threadsAreIdleAtTheStart() {
        inEverySize((x, threads, words) -> {
            for (int t = 0; t < threads; t++) {
                Check.due("first state(" + t + ")", x.state(t), Check.IDLE);
                Check.due("first run(" + t + ", 1)", x.run(t, 1), Check.IDLE);
            }
        });
    }

    /** "with no aim". */
    private static void noAimAtTheStart() {
        inEverySize((x, threads, words) -> {
            for (int t = 0; t < threads; t++) {
                Check.aim("at first", x, t, Check.NONE, -1, -1, false);
            }
        });
    }

    /** "all outcomes are NOTHING". */
    private static void noOutcomeAtTheStart() {
        inEverySize((x, threads, words) -> {
            for (int t = 0; t < threads; t++) {
                Check.due("first outcome(" + t + ")", x.outcome(t), Check.NOTHING);
            }
        });
    }

    /** "and all got values are 0." */
    private static void gotIsZeroAtTheStart() {
        inEverySize((x, threads, words) -> {
            for (int t = 0; t < threads; t++) {
                Check.due("first got(" + t + ")", x.got(t), 0);
            }
        });
    }

    /** "S may exceed W; then a draft has at most W entries." */
    private static void spanMayExceedWords() {
        for (int words = 4; words <= 7; words++) {
            for (int span = words + 1; span <= 8; span++) {
                everyWordFits(words, span);
            }
        }
    }

    /** The other side of that edge: a draft that has S = W entries has one for every address. */
    private static void spanEqualToWords() {
        for (int words = 4; words <= 8; words++) {
            everyWordFits(words, words);
        }
    }

    private static void everyWordFits(int words, int span) {
        MultiwordSwap x = new MultiwordSwap(2, words, span);
        String what = words + " words, span " + span + ": ";
        for (int a = words - 1; a >= 0; a--) {
            Check.due(what + "put at " + a, x.put(1, a, 5, 5), Check.OK);
        }
        for (int a = 0; a < words; a++) {
            Check.due(what + "replaced at " + a, x.put(1, a, 0, a + 1), Check.OK);
        }
        for (int a = words; a <= 16; a++) {
            Check.due(what + "put at " + a, x.put(1, a, 0, 0), Check.BAD);
        }
        Check.due(what + "launch", x.launch(1), Check.OK);
        Check.due(what + "run", x.run(1, words + 1), Check.RUNNING);
        Check.due(what + "run", x.run(1, 1), Check.DONE);
        for (int a = 0; a < words; a++) {
            Check.due(what + "value(" + a + ")", x.value(a), a + 1);
        }
    }

    /** "A thread number is bad if it is below 0 or at least T." */
    private static void badThreadNumbers() {
        for (int threads = 2; threads <= 4; threads++) {
            MultiwordSwap x = new MultiwordSwap(threads, 8, 2);
            for (int t = -20; t < 40; t++) {
                boolean bad = t < 0 || t >= threads;
                Check.due("T = " + threads + ": state(" + t + ")", x.state(t), bad ? Check.BAD : Check.IDLE);
                Check.due("T = " + threads + ": drop(" + t + ")", x.drop(t), bad ? Check.BAD : Check.OK);
                Check.due("T = " + threads + ": put(" + t + ", ..)", x.put(t, 1, 0, 1), bad ? Check.BAD : Check.OK);
                Check.due("T = " + threads + ": launch(" + t + ")", x.launch(t), bad ? Check.BAD : Check.OK);
                Check.due("T = " + threads + ": read(" + t + ", 2)", x.read(t, 2), bad ? Check.BAD : Check.BUSY);
                Check.due("T = " + threads + ": run(" + t + ", 0)", x.run(t, 0), bad ? Check.BAD : Check.RUNNING);
            }
        }
    }

    /** "An address is bad if it is below 0 or at least W." */
    private static void badAddresses() {
        for (int words = 4; words <= 16; words++) {
            for (int a = -20; a < 70; a++) {
                MultiwordSwap x = new MultiwordSwap(2, words, 2);
                int due = a < 0 || a >= words ? Check.BAD : Check.OK;
                Check.due("W = " + words + ": put(0, " + a + ", ..)", x.put(0, a, 0, 1), due);
                Check.due("W = " + words + ": read(1, " + a + ")", x.read(1, a), due);
            }
        }
    }
}
