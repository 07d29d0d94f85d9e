import java.util.Arrays;
import java.util.function.Consumer;
import java.util.function.ToIntBiFunction;

/**
 * An object in a state worth trying an edge in. A scene can be made as often as one likes, so two
 * objects made alike tell whether a call changed anything, also something that shows only later.
 */
final class Scene {
    /** Numbers whose low bits look harmless, beside those next to the ends of int. */
    static final int[] WIDE = {Check.MIN, Check.MIN + 1, -(1 << 28), -65536, -65535, -256, -255, -64, -16,
        256, 257, 65536, 65537, 1 << 24, 1 << 28, (1 << 28) + 1, 1 << 30, Check.MAX - 1, Check.MAX};
    static final int[] NOT_ABOVE_0 = {Check.MIN, Check.MIN + 1, -65535, -255, -64, -16, -2, -1, 0};
    static final int[] COUNTS = {Check.MIN, -65, -64, -1, 0, 1, 2, 16, 17, 63, 64, 65, 256, 65536, Check.MAX};
    static final int[] VALUES = {Check.MIN, Check.MIN + 1, -65536, -1, 0, 1, 255, 65536, Check.MAX - 1, Check.MAX};

    final String name;
    final int threads;
    final int words;
    final int span;
    private final Consumer<MultiwordSwap> story;

    Scene(String name, int threads, int words, int span, Consumer<MultiwordSwap> story) {
        this.name = name;
        this.threads = threads;
        this.words = words;
        this.span = span;
        this.story = story;
    }

    MultiwordSwap make() {
        MultiwordSwap x = new MultiwordSwap(threads, words, span);
        story.accept(x);
        return x;
    }

    static Scene[] all() {
        return new Scene[] {
            new Scene("the least of all, at the start", 2, 4, 1, x -> { }),
            new Scene("the greatest of all, at the start", 4, 16, 8, x -> { }),
            new Scene("full drafts", 3, 5, 2, Scene::fullDrafts),
            new Scene("more span than words", 2, 4, 8, Scene::allFourWords),
            new Scene("every stage", 4, 6, 2, Scene::everyStage),
            new Scene("helpers about to pass", 4, 5, 2, Scene::aboutToPass),
            new Scene("succeeded, not finished", 4, 5, 2, Scene::succeeded),
            new Scene("failed, not finished", 3, 7, 2, Scene::failed),
            new Scene("late, and the owner swaps again", 3, 7, 2, Scene::lateAndAgain),
            new Scene("all idle after work", 3, 9, 3, Scene::afterWork),
        };
    }

    private static void fullDrafts(MultiwordSwap x) {
        for (int t = 0; t < 3; t++) {
            x.put(t, 4 - t, 0, t + 1);
            x.put(t, 1 - t % 2, 0, t + 1);
        }
    }

    private static void allFourWords(MultiwordSwap x) {
        for (int a = 3; a >= 0; a--) {
            x.put(0, a, 0, a + 5);
            x.put(1, a, a, 0);
        }
        x.launch(0);
        x.run(0, 3);
        x.put(0, 2, 7, 8);
    }

    /** No aim, CLAIM, REJECT, and a read without an aim; one draft empty, one full. */
    private static void everyStage(MultiwordSwap x) {
        Check.launch(x, 0, 0, 0, 1, 1, 0, 1);
        Check.launch(x, 1, 2, 0, 1, 3, 0, 1);
        Check.launch(x, 2, 4, 0, 1, 5, 9, 9);
        x.read(3, 2);
        x.run(1, 2);
        x.run(2, 2);
        x.put(1, 0, 3, 3);
        x.put(2, 5, 0, 4);
        x.put(2, 0, 0, 4);
        x.put(3, 1, 0, 2);
        x.put(3, 4, 0, 2);
    }

    /** Threads 0, 1 and 2 all aim at passing 0's swap; 3 is idle and its draft is full. */
    private static void aboutToPass(MultiwordSwap x) {
        x.read(1, 4);
        x.run(1, 1);
        Check.launch(x, 0, 0, 0, 1, 1, 0, 1);
        x.run(0, 3);
        x.read(1, 0);
        x.run(1, 1);
        Check.launch(x, 2, 1, 1, 2, 4, 0, 2);
        x.run(2, 1);
        x.put(0, 3, 0, 3);
        x.put(3, 2, 0, 3);
        x.put(3, 0, 1, 3);
    }

    /** As before, but 1 has passed 0's swap and read; the aims of 0 and 2 are late. */
    private static void succeeded(MultiwordSwap x) {
        aboutToPass(x);
        x.run(1, 1);
    }

    /** Thread 0's swap was rejected by 1; the aims of 0 and 2 are late. */
    private static void failed(MultiwordSwap x) {
        Check.launch(x, 0, 0, 0, 1, 6, 5, 6);
        x.run(0, 2);
        x.read(1, 0);
        x.read(2, 0);
        x.run(1, 1);
        x.run(2, 1);
        x.run(1, 1);
        x.put(0, 0, 0, 7);
        x.put(0, 6, 0, 7);
    }

    private static void lateAndAgain(MultiwordSwap x) {
        failed(x);
        x.run(0, 1);
        x.launch(0);
        x.run(0, 2);
        x.put(1, 6, 7, 0);
        x.put(1, 0, 7, 0);
    }

    /** Values, outcomes and got values are no longer those of the start; only 2's draft is not empty. */
    private static void afterWork(MultiwordSwap x) {
        Check.launch(x, 0, 8, 0, -1, 3, 0, Check.MIN, 0, 0, Check.MAX);
        x.run(0, 64);
        x.read(1, 3);
        x.run(1, 64);
        x.read(0, 0);
        x.run(0, 64);
        Check.launch(x, 0, 8, 0, 4);
        x.run(0, 64);
        x.put(2, 8, -1, 5);
    }

    int[] badThreads() {
        return join(new int[] {-4, -3, -2, -1, threads, threads + 1, threads + 2, 5, 8, 16}, WIDE);
    }

    int[] badAddresses() {
        return join(new int[] {-4, -2, -1, words, words + 1, 16, 17, 32, 48, 63, 64}, WIDE);
    }

    /** Whatever may be given for an address: all the good ones and the bad ones. */
    int[] anyAddress() {
        int[] good = new int[words];
        for (int a = 0; a < words; a++) {
            good[a] = a;
        }
        return join(good, badAddresses());
    }

    static int[] badParts() {
        return join(new int[] {-6, -5, -3, -2, -1, 6, 7, 8, 9, 11, 12}, WIDE);
    }

    static int[] join(int[] one, int[] other) {
        int[] both = Arrays.copyOf(one, one.length + other.length);
        System.arraycopy(other, 0, both, one.length, other.length);
        return both;
    }

    int drafted(MultiwordSwap x, int t) {
        int count = 0;
        for (int a = 0; a < words; a++) {
            count += x.term(t, a, Check.DRAFT_HAS);
        }
        return count;
    }

    /**
     * Makes calls that must change nothing, in every scene. They answer how many they were, since
     * a case that no scene offers would pass without having been tried.
     */
    static void changesNothing(String what, ToIntBiFunction<MultiwordSwap, Scene> calls) {
        int tried = 0;
        for (Scene scene : all()) {
            MultiwordSwap x = scene.make();
            int[] before = Check.everything(x);
            tried += calls.applyAsInt(x, scene);
            String where = what + " in the scene '" + scene.name + "'";
            Check.unchanged(where, x, before);
            goOnAlike(where, x, scene.make());
        }
        Check.due(what + ": was tried", tried > 0, true);
    }

    /** The same calls on both objects must be answered alike: nothing hidden differs. */
    static void goOnAlike(String what, MultiwordSwap x, MultiwordSwap twin) {
        long seed = 1;
        boolean same = true;
        for (int i = 0; i < 80 && same; i++) {
            seed = next(seed);
            int pick = (int) (seed >>> 33);
            same = anyCall(x, pick) == anyCall(twin, pick)
                && Arrays.equals(Check.everything(x), Check.everything(twin));
        }
        Check.due(what + ", and later too", same, true);
    }

    static void goOn(MultiwordSwap x) {
        long seed = 2;
        for (int i = 0; i < 200; i++) {
            seed = next(seed);
            anyCall(x, (int) (seed >>> 33));
        }
    }

    private static long next(long seed) {
        return seed * 6364136223846793005L + 1442695040888963407L;
    }

    private static int anyCall(MultiwordSwap x, int pick) {
        int t = pick >>> 4 & 3;
        // Mostly low addresses, so that swaps meet.
        int a = (pick >>> 6 & 7) + (pick >>> 28 == 0 ? 8 : 0);
        switch (pick & 15) {
            case 0: return x.drop(t);
            case 1: case 2: case 3: case 4: return x.put(t, a, x.value(a), pick >>> 9 & 1);
            case 5: return x.put(t, a, pick >>> 10 & 1, pick >>> 9 & 1);
            case 6: case 7: return x.launch(t);
            case 8: return x.read(t, a);
            case 9: case 10: return x.weave(pick >>> 8, pick >>> 20 & 7);
            default: return x.run(t, pick >>> 12 & 3);
        }
    }
}
