/** Promise 1: the clamping of the three numbers, and the start. */
public final class ConstructionTest {
    public static void main(String[] args) {
        threadsAreClamped();
        wordsAreClamped();
        spanIsClamped();
        spanMayExceedWords();
        theStart();
        Check.end();
    }

    private static void threadsAreClamped() {
        int[][] cases = {{Check.MIN, 2}, {-1, 2}, {0, 2}, {1, 2}, {2, 2}, {3, 3}, {4, 4}, {5, 4}, {Check.MAX, 4}};
        for (int[] c : cases) {
            MultiwordSwap x = new MultiwordSwap(c[0], 8, 4);
            int good = 0;
            for (int t = 0; t < 8; t++) {
                if (x.state(t) == Check.IDLE) {
                    good++;
                }
            }
            Check.due("threads of " + c[0], good, c[1]);
            Check.due("the last thread of " + c[0], x.state(c[1] - 1), Check.IDLE);
        }
    }

    private static void wordsAreClamped() {
        int[][] cases = {{Check.MIN, 4}, {-1, 4}, {0, 4}, {3, 4}, {4, 4}, {5, 5}, {9, 9},
            {15, 15}, {16, 16}, {17, 16}, {Check.MAX, 16}};
        for (int[] c : cases) {
            MultiwordSwap x = new MultiwordSwap(2, c[0], 8);
            Check.due("last word of " + c[0], x.put(0, c[1] - 1, 0, 0), Check.OK);
            Check.due("word after the last of " + c[0], x.put(0, c[1], 0, 0), Check.BAD);
        }
    }

    private static void spanIsClamped() {
        int[][] cases = {{Check.MIN, 1}, {-1, 1}, {0, 1}, {1, 1}, {2, 2}, {5, 5},
            {7, 7}, {8, 8}, {9, 8}, {Check.MAX, 8}};
        for (int[] c : cases) {
            MultiwordSwap x = new MultiwordSwap(2, 16, c[0]);
            for (int a = 0; a < c[1]; a++) {
                Check.due("entry " + a + " of span " + c[0], x.put(0, a, 0, 0), Check.OK);
            }
            Check.due("entry too many for span " + c[0], x.put(0, c[1], 0, 0), Check.FULL);
        }
    }

    private static void spanMayExceedWords() {
        MultiwordSwap x = new MultiwordSwap(2, 4, 8);
        for (int a = 0; a < 4; a++) {
            Check.due("word " + a + " of four", x.put(0, a, 0, 1), Check.OK);
        }
        Check.due("a fifth word", x.put(0, 4, 0, 1), Check.BAD);
        Check.due("launch of all four", x.launch(0), Check.OK);
        Check.due("run of all four", x.run(0, 64), Check.DONE);
        for (int a = 0; a < 4; a++) {
            Check.due("value(" + a + ")", x.value(a), 1);
        }
    }

    private static void theStart() {
        MultiwordSwap x = new MultiwordSwap(4, 16, 8);
        for (int a = 0; a < 16; a++) {
            Check.due("first value(" + a + ")", x.value(a), 0);
            Check.due("first holder(" + a + ")", x.holder(a), -1);
        }
        for (int t = 0; t < 4; t++) {
            Check.due("first state(" + t + ")", x.state(t), Check.IDLE);
            Check.aim("at first", x, t, Check.NONE, -1, -1, false);
            Check.due("first outcome(" + t + ")", x.outcome(t), Check.NOTHING);
            Check.due("first got(" + t + ")", x.got(t), 0);
            for (int a = 0; a < 16; a++) {
                for (int part = 0; part < 6; part++) {
                    Check.due("first term(" + t + ", " + a + ", " + part + ")", x.term(t, a, part), 0);
                }
            }
            Check.due("first launch(" + t + ")", x.launch(t), Check.EMPTY);
        }
    }
}
