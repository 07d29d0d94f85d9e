/** What one turn does ("One turn"), as seen through promises 6 to 16. */
public final class TurnTest {
    public static void main(String[] args) {
        ascendingOrder();
        claimOfAHeldWordDoesNothing();
        claimOfAnotherSwapsWordDoesNothing();
        claimOfAChangedValueDoesNothing();
        passAndRejectByOthers();
        rejectActsWhateverTheValues();
        lateClaimAndRejectDoNothing();
        valuesBackAgain();
        aChainOfSwaps();
        aReaderFollowsTheChain();
        expectedEqualsDesired();
        twoSwapsEqualInAll();
        Check.end();
    }

    private static void ascendingOrder() {
        MultiwordSwap x = new MultiwordSwap(2, 8, 3);
        Check.launch(x, 0, 6, 0, 1, 1, 0, 2, 4, 0, 3);
        int[] order = {1, 4, 6};
        for (int i = 0; i < 3; i++) {
            Check.due("run", x.run(0, 1), Check.RUNNING);
            Check.aim("claims go up", x, 0, Check.CLAIM, 0, order[i], false);
            Check.due("not held yet", x.holder(order[i]), -1);
        }
        x.run(0, 1);
        Check.aim("all held", x, 0, Check.PASS, 0, -1, false);
        for (int a : order) {
            Check.due("held", x.holder(a), 0);
            Check.due("claiming alters no value", x.value(a), 0);
        }
        Check.due("run", x.run(0, 1), Check.DONE);
        Check.due("value", x.value(1), 2);
        Check.due("value", x.value(4), 3);
        Check.due("value", x.value(6), 1);
        Check.due("another value", x.value(5), 0);
        for (int a : order) {
            Check.due("held no more", x.holder(a), -1);
        }
    }

    private static void claimOfAHeldWordDoesNothing() {
        MultiwordSwap x = new MultiwordSwap(2, 4, 2);
        Check.launch(x, 0, 0, 0, 1, 1, 0, 1);
        x.run(0, 2);
        x.read(1, 0);
        x.run(1, 2);
        Check.aim("the helper is ahead", x, 1, Check.PASS, 0, -1, false);
        Check.aim("the owner is behind", x, 0, Check.CLAIM, 0, 1, false);
        x.run(0, 1);
        Check.due("still held by the same", x.holder(1), 0);
        Check.due("undecided", x.state(0), Check.UNDECIDED);
        Check.aim("the owner caught up", x, 0, Check.PASS, 0, -1, false);
    }

    private static void claimOfAnotherSwapsWordDoesNothing() {
        MultiwordSwap x = new MultiwordSwap(2, 4, 2);
        Check.launch(x, 0, 1, 0, 1);
        Check.launch(x, 1, 1, 0, 2, 2, 9, 2);
        x.run(0, 1);
        x.run(1, 2);
        Check.due("held by 1", x.holder(1), 1);
        Check.aim("1 is doomed", x, 1, Check.REJECT, 1, 2, false);
        Check.aim("0 still aims at it", x, 0, Check.CLAIM, 0, 1, false);
        x.run(0, 1);
        Check.due("still held by 1", x.holder(1), 1);
        Check.aim("0 helps 1 to fail", x, 0, Check.REJECT, 1, 2, false);
        x.run(0, 1);
        Check.due("1 has failed", x.state(1), Check.FAILED);
        Check.due("1 holds nothing", x.holder(1), -1);
        Check.due("1's outcome is not there yet", x.outcome(1), Check.NOTHING);
        Check.aim("0 aims at its own again", x, 0, Check.CLAIM, 0, 1, false);
        Check.aim("1's aim is late", x, 1, Check.REJECT, 1, 2, true);
    }

    private static void claimOfAChangedValueDoesNothing() {
        MultiwordSwap x = new MultiwordSwap(2, 4, 2);
        Check.launch(x, 0, 1, 0, 1);
        x.run(0, 1);
        Check.launch(x, 1, 1, 0, 5);
        Check.due("1 goes first", x.run(1, 64), Check.DONE);
        Check.aim("0 aims as before", x, 0, Check.CLAIM, 0, 1, false);
        Check.due("0's claim is stale", x.run(0, 1), Check.RUNNING);
        Check.due("nothing held", x.holder(1), -1);
        Check.due("value stays", x.value(1), 5);
        Check.aim("0 gives up", x, 0, Check.REJECT, 0, 1, false);
        Check.due("0 fails", x.run(0, 1), Check.DONE);
        Check.due("0 failed", x.outcome(0), Check.FAILED);
        Check.due("value stays", x.value(1), 5);
    }

    private static void passAndRejectByOthers() {
        MultiwordSwap x = new MultiwordSwap(3, 8, 3);
        Check.launch(x, 0, 0, 0, 1, 1, 0, 2, 2, 0, 3);
        x.run(0, 2);
        x.put(0, 5, 5, 5);
        Check.launch(x, 1, 0, 0, 9);
        Check.due("1 helps", x.run(1, 3), Check.RUNNING);
        Check.aim("1 is about to pass 0", x, 1, Check.PASS, 0, -1, false);
        Check.due("1 passes 0", x.run(1, 1), Check.RUNNING);
        Check.due("0 has succeeded", x.state(0), Check.SUCCEEDED);
        Check.due("0 has no outcome yet", x.outcome(0), Check.NOTHING);
        Check.due("values", x.value(0), 1);
        Check.due("values", x.value(1), 2);
        Check.due("values", x.value(2), 3);
        for (int a = 0; a < 8; a++) {
            Check.due("nothing held", x.holder(a), -1);
        }
        Check.due("draft stays", x.term(0, 5, Check.DRAFT_HAS), 1);
        Check.aim("0's aim stays, late", x, 0, Check.CLAIM, 0, 1, true);
        Check.aim("1 cannot have its word", x, 1, Check.REJECT, 1, 0, false);
        Check.due("0 finishes", x.run(0, 1), Check.DONE);
        Check.due("outcome", x.outcome(0), Check.SUCCEEDED);
        Check.due("its late claim held nothing", x.holder(1), -1);
        Check.due("1 finishes", x.run(1, 1), Check.DONE);
        Check.due("outcome", x.outcome(1), Check.FAILED);
    }

    private static void rejectActsWhateverTheValues() {
        MultiwordSwap x = new MultiwordSwap(2, 4, 2);
        Check.launch(x, 0, 0, 0, 1, 1, 5, 6);
        x.run(0, 2);
        Check.aim("0 is doomed", x, 0, Check.REJECT, 0, 1, false);
        Check.launch(x, 1, 1, 0, 5);
        x.run(1, 64);
        Check.due("the value fits now", x.value(1), 5);
        x.read(1, 0);
        x.run(1, 2);
        Check.due("all is held now", x.holder(1), 0);
        Check.aim("1 would pass 0", x, 1, Check.PASS, 0, -1, false);
        Check.aim("0's aim is not late", x, 0, Check.REJECT, 0, 1, false);
        Check.due("0 rejects itself all the same", x.run(0, 1), Check.DONE);
        Check.due("0 failed", x.outcome(0), Check.FAILED);
        Check.due("values stay", x.value(0), 0);
        Check.due("values stay", x.value(1), 5);
        Check.due("held no more", x.holder(0), -1);
        Check.due("held no more", x.holder(1), -1);
        Check.aim("1's PASS is late", x, 1, Check.PASS, 0, -1, true);
        Check.due("1 finishes", x.run(1, 1), Check.DONE);
        Check.due("1's late PASS did nothing", x.value(0), 0);
        Check.due("1 got", x.got(1), 0);
    }

    private static void lateClaimAndRejectDoNothing() {
        MultiwordSwap x = new MultiwordSwap(4, 4, 2);
        Check.launch(x, 0, 0, 0, 0, 1, 0, 0);
        x.run(0, 2);
        x.read(1, 0);
        x.run(1, 1);
        Check.aim("1 would claim", x, 1, Check.CLAIM, 0, 1, false);
        x.run(0, 64);
        Check.launch(x, 0, 0, 0, 0, 1, 4, 0);
        x.run(0, 2);
        x.read(2, 0);
        x.run(2, 1);
        Check.aim("2 would reject", x, 2, Check.REJECT, 0, 1, false);
        x.run(0, 64);
        Check.due("the second failed", x.outcome(0), Check.FAILED);
        Check.launch(x, 0, 0, 0, 0, 1, 0, 0);
        x.run(0, 2);
        Check.aim("1's claim is late", x, 1, Check.CLAIM, 0, 1, true);
        Check.aim("2's reject is late", x, 2, Check.REJECT, 0, 1, true);
        Check.aim("0's is not", x, 0, Check.CLAIM, 0, 1, false);
        x.run(1, 1);
        Check.due("the late claim held nothing", x.holder(1), -1);
        Check.aim("1 helps the third", x, 1, Check.CLAIM, 0, 1, false);
        x.run(2, 1);
        Check.due("the late reject decided nothing", x.state(0), Check.UNDECIDED);
        Check.due("and freed nothing", x.holder(0), 0);
        Check.aim("2 helps the third", x, 2, Check.CLAIM, 0, 1, false);
        x.run(2, 1);
        Check.due("2's claim holds", x.holder(1), 0);
    }

    /** A swap met again with the value back at what it expected is claimed, not rejected. */
    private static void valuesBackAgain() {
        MultiwordSwap x = new MultiwordSwap(2, 4, 1);
        Check.launch(x, 0, 2, 0, 7);
        x.run(0, 1);
        Check.launch(x, 1, 2, 0, 1);
        x.run(1, 64);
        Check.launch(x, 1, 2, 1, 0);
        x.run(1, 64);
        Check.due("0's claim fits again", x.run(0, 1), Check.RUNNING);
        Check.due("held", x.holder(2), 0);
        Check.due("run", x.run(0, 1), Check.DONE);
        Check.due("value", x.value(2), 7);
    }

    private static void aChainOfSwaps() {
        MultiwordSwap x = new MultiwordSwap(4, 5, 2);
        for (int t = 0; t < 4; t++) {
            Check.launch(x, t, t, 0, t + 1, t + 1, 0, t + 1);
        }
        for (int t = 3; t >= 0; t--) {
            x.run(t, 2);
        }
        Check.aim("0 looks through 1 and 2 to 3", x, 0, Check.CLAIM, 3, 4, false);
        Check.aim("3 aims at the same", x, 3, Check.CLAIM, 3, 4, false);
        x.run(0, 2);
        Check.due("3 was carried through", x.state(3), Check.SUCCEEDED);
        Check.due("value", x.value(3), 4);
        Check.aim("2 expects another value", x, 0, Check.REJECT, 2, 3, false);
        x.run(0, 1);
        Check.due("2 failed", x.state(2), Check.FAILED);
        Check.aim("1 goes on", x, 0, Check.CLAIM, 1, 2, false);
        x.run(0, 2);
        Check.due("1 succeeded", x.state(1), Check.SUCCEEDED);
        Check.aim("0 expects another value", x, 0, Check.REJECT, 0, 1, false);
        Check.due("0 finishes", x.run(0, 1), Check.DONE);
        Check.due("0 failed", x.outcome(0), Check.FAILED);
        int[] values = {0, 2, 2, 4, 4};
        for (int a = 0; a < 5; a++) {
            Check.due("value(" + a + ")", x.value(a), values[a]);
            Check.due("holder(" + a + ")", x.holder(a), -1);
        }
        Check.due("the others run on", x.weave(0b111001, 3), 3);
        Check.due("outcome", x.outcome(1), Check.SUCCEEDED);
        Check.due("outcome", x.outcome(2), Check.FAILED);
        Check.due("outcome", x.outcome(3), Check.SUCCEEDED);
    }

    private static void aReaderFollowsTheChain() {
        MultiwordSwap x = new MultiwordSwap(4, 16, 2);
        Check.launch(x, 2, 0, 0, 1, 5, 0, 1);
        Check.launch(x, 0, 5, 0, 2, 9, 0, 2);
        Check.launch(x, 3, 9, 0, 3, 15, 8, 3);
        x.run(2, 2);
        x.run(0, 2);
        x.run(3, 2);
        x.read(1, 0);
        Check.due("the reader waits", x.run(1, 1), Check.RUNNING);
        Check.aim("the reader sees the end of the chain", x, 1, Check.REJECT, 3, 15, false);
        x.run(1, 1);
        Check.aim("then its middle", x, 1, Check.CLAIM, 0, 9, false);
        x.run(1, 2);
        Check.due("the middle succeeded", x.state(0), Check.SUCCEEDED);
        Check.aim("then its head", x, 1, Check.REJECT, 2, 5, false);
        Check.due("then it reads", x.run(1, 1), Check.DONE);
        Check.due("got", x.got(1), 0);
        Check.due("outcome", x.outcome(1), Check.VALUE);
        x.read(1, 5);
        Check.due("a word that is not held", x.run(1, 1), Check.DONE);
        Check.due("got", x.got(1), 2);
    }

    private static void expectedEqualsDesired() {
        MultiwordSwap x = new MultiwordSwap(2, 4, 2);
        Check.launch(x, 0, 0, 0, 0, 3, 1, 1);
        Check.due("run", x.run(0, 64), Check.DONE);
        Check.due("failed for word 3", x.outcome(0), Check.FAILED);
        Check.launch(x, 0, 0, 0, 0, 3, 0, 0);
        Check.due("run", x.run(0, 64), Check.DONE);
        Check.due("succeeded", x.outcome(0), Check.SUCCEEDED);
    }

    private static void twoSwapsEqualInAll() {
        MultiwordSwap x = new MultiwordSwap(2, 4, 1);
        Check.launch(x, 0, 0, 0, 0);
        x.run(0, 2);
        x.read(1, 0);
        x.run(1, 1);
        x.run(0, 1);
        Check.launch(x, 0, 0, 0, 0);
        Check.aim("an equal swap is another swap", x, 1, Check.PASS, 0, -1, true);
        x.run(0, 2);
        Check.due("it holds", x.holder(0), 0);
        x.run(1, 1);
        Check.due("it was not passed", x.state(0), Check.UNDECIDED);
        Check.aim("it is aimed at now", x, 1, Check.PASS, 0, -1, false);
    }
}
