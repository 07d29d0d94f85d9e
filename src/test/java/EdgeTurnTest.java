/** "Terms" and "One turn": one test for each sentence that names an edge. */
public final class EdgeTurnTest {
    public static void main(String[] args) {
        failedForEver();
        succeededForEver();
        decidedRunsOnUntilItsOwnerFinishesIt();
        equalSwapsAreDifferent();
        nothingIsHeldAtLaunch();
        decidedAndFinishedHoldNothing();
        noWordIsHeldByTwo();
        lateWhetherFinishedOrNot();
        idleThreadsHaveNoAim();
        withoutAnAimNothingHappens();
        lateClaimDoesNothing();
        latePassDoesNothing();
        lateRejectDoesNothing();
        claimOfWhatIsHeldAlready();
        claimOfWhatAnotherHolds();
        claimOfAnotherValue();
        claimChangesNoValue();
        passStoresEveryDesiredValue();
        passFreesEveryWord();
        rejectChangesNoValue();
        rejectThoughTheValueFits();
        rejectThoughItsPlaceIsHeld();
        rejectThoughAnotherHoldsItsPlace();
        finishingASwapKeepsGot();
        readOfAWordThatIsFree();
        readOfAWordThatIsFreedByItsOwnTurn();
        readOfAWordThatIsTakenAgain();
        holderIsAskedBeforeTheValue();
        everyBitOfTheValueCounts();
        chainOfAllThreads();
        chainMetInTheMiddle();
        newAimReplacesTheOld();
        afterATurnIdleOrAimed();
        aTurnLeavesTheOthers();
        Check.end();
    }

    /** Thread 0's swap is undecided and holds all; thread 1 would reject it, thread 2 would pass it. */
    private static MultiwordSwap rejectAgainstPass() {
        MultiwordSwap x = new MultiwordSwap(4, 4, 2);
        Check.launch(x, 0, 0, 0, 1, 1, 5, 6);
        x.run(0, 2);
        x.read(1, 0);
        x.run(1, 1);
        Check.launch(x, 3, 1, 0, 5);
        x.run(3, 64);
        x.read(2, 0);
        x.run(2, 2);
        Check.aim("1", x, 1, Check.REJECT, 0, 1, false);
        Check.aim("2", x, 2, Check.PASS, 0, -1, false);
        return x;
    }

    /** "becomes, once and for ever, SUCCEEDED or FAILED": a PASS comes too late. */
    private static void failedForEver() {
        MultiwordSwap x = rejectAgainstPass();
        Check.due("1 rejects, and reads", x.run(1, 1), Check.DONE);
        Check.due("failed", x.state(0), Check.FAILED);
        Check.due("2's PASS is late", x.late(2), true);
        Check.due("2 reads", x.run(2, 1), Check.DONE);
        Check.due("failed still", x.state(0), Check.FAILED);
        Check.due("value(0)", x.value(0), 0);
        Check.due("value(1)", x.value(1), 5);
        Check.due("0 finishes", x.run(0, 1), Check.DONE);
        Check.due("outcome", x.outcome(0), Check.FAILED);
    }

    /** "becomes, once and for ever, SUCCEEDED or FAILED": a REJECT comes too late. */
    private static void succeededForEver() {
        MultiwordSwap x = rejectAgainstPass();
        Check.due("2 passes, and reads", x.run(2, 1), Check.DONE);
        Check.due("succeeded", x.state(0), Check.SUCCEEDED);
        Check.due("1's REJECT is late", x.late(1), true);
        Check.due("1 reads", x.run(1, 1), Check.DONE);
        Check.due("succeeded still", x.state(0), Check.SUCCEEDED);
        Check.due("0's own REJECT is late too", x.late(0), true);
        Check.due("0 finishes", x.run(0, 1), Check.DONE);
        Check.due("outcome", x.outcome(0), Check.SUCCEEDED);
        Check.due("value(0)", x.value(0), 1);
        Check.due("value(1)", x.value(1), 6);
    }

    /** "It goes on running until its owner ... finishes it." */
    private static void decidedRunsOnUntilItsOwnerFinishesIt() {
        MultiwordSwap x = rejectAgainstPass();
        x.run(2, 1);
        for (int i = 0; i < 5; i++) {
            x.read(2, i % 4);
            Check.due("others run", x.run(2, 64), Check.DONE);
            Check.due("0 runs on", x.state(0), Check.SUCCEEDED);
            Check.live(x, 0, 1, 1, 5, 6);
            Check.due("0 launches nothing", x.launch(0), Check.BUSY);
            Check.due("no outcome", x.outcome(0), Check.NOTHING);
        }
        Check.due("one turn", x.run(0, 1), Check.DONE);
        Check.due("idle", x.state(0), Check.IDLE);
        Check.live(x, 0, 1, 0, 0, 0);
    }

    /** "Two operations launched by the same thread are different operations, even if all their entries are equal." */
    private static void equalSwapsAreDifferent() {
        MultiwordSwap x = new MultiwordSwap(2, 4, 1);
        Check.launch(x, 0, 2, 0, 0);
        x.run(0, 2);
        x.read(1, 2);
        x.run(1, 1);
        x.run(0, 1);
        Check.launch(x, 0, 2, 0, 0);
        x.run(0, 2);
        Check.aim("1 aims at the first", x, 1, Check.PASS, 0, -1, true);
        Check.aim("0 aims at the second", x, 0, Check.PASS, 0, -1, false);
        x.run(1, 1);
        Check.due("the second is undecided", x.state(0), Check.UNDECIDED);
        Check.due("and holds", x.holder(2), 0);
    }

    /** "k is 0 at launch": also for words that the thread's last swap held, and for words held by others. */
    private static void nothingIsHeldAtLaunch() {
        MultiwordSwap x = new MultiwordSwap(2, 4, 2);
        for (int again = 0; again < 3; again++) {
            Check.launch(x, 0, 0, 0, 0, 1, 0, 0);
            Check.due("holder(0)", x.holder(0), -1);
            Check.due("holder(1)", x.holder(1), -1);
            Check.due("run", x.run(0, 64), Check.DONE);
        }
        Check.launch(x, 0, 0, 0, 0, 1, 0, 0);
        x.run(0, 2);
        Check.launch(x, 1, 0, 0, 0, 1, 0, 0);
        Check.due("holder(0)", x.holder(0), 0);
        Check.due("holder(1)", x.holder(1), -1);
    }

    /** "A decided swap, a read and a finished operation hold nothing." */
    private static void decidedAndFinishedHoldNothing() {
        for (int helper = 1; helper <= 2; helper++) {
            MultiwordSwap x = rejectAgainstPass();
            x.run(helper, 1);
            nothingHeld("decided", x);
            x.run(0, 1);
            nothingHeld("finished", x);
            x.read(0, 0);
            nothingHeld("reading", x);
            x.run(0, 1);
            nothingHeld("read", x);
        }
    }

    private static void nothingHeld(String what, MultiwordSwap x) {
        for (int a = 0; a < 16; a++) {
            Check.due(what + ": holder(" + a + ")", x.holder(a), -1);
        }
    }

    /** "No word is ever held by two swaps.": of two that claim it, the first has it, and keeps it. */
    private static void noWordIsHeldByTwo() {
        for (int first = 0; first < 2; first++) {
            MultiwordSwap x = new MultiwordSwap(2, 4, 2);
            Check.launch(x, 0, 1, 0, 1, 2, 0, 1);
            Check.launch(x, 1, 1, 0, 2, 3, 0, 2);
            x.run(0, 1);
            x.run(1, 1);
            Check.aim("both claim", x, 0, Check.CLAIM, 0, 1, false);
            Check.aim("both claim", x, 1, Check.CLAIM, 1, 1, false);
            x.run(first, 1);
            Check.due("the first has it", x.holder(1), first);
            x.run(1 - first, 1);
            Check.due("and keeps it", x.holder(1), first);
            Check.aim("the second helps", x, 1 - first, Check.CLAIM, first, first + 2, false);
        }
    }

    /** "The aim is late if its operation is decided, finished or not." */
    private static void lateWhetherFinishedOrNot() {
        MultiwordSwap x = rejectAgainstPass();
        Check.due("undecided: 1", x.late(1), false);
        Check.due("undecided: 2", x.late(2), false);
        x.run(2, 1);
        Check.due("decided", x.late(1), true);
        x.run(0, 1);
        Check.due("finished", x.late(1), true);
        x.read(0, 3);
        Check.due("its owner reads", x.late(1), true);
        x.run(0, 1);
        Check.launch(x, 0, 0, 1, 2, 1, 6, 7);
        x.run(0, 3);
        Check.due("its owner swaps again", x.late(1), true);
        Check.aim("for the same swap as before", x, 1, Check.REJECT, 0, 1, true);
    }

    /** "Idle threads have no aim; launching a swap or a read gives none." */
    private static void idleThreadsHaveNoAim() {
        MultiwordSwap x = rejectAgainstPass();
        x.run(2, 1);
        x.run(1, 1);
        Check.due("0's aim is late", x.late(0), true);
        x.run(0, 1);
        for (int t = 0; t < 4; t++) {
            Check.due("idle", x.state(t), Check.IDLE);
            Check.aim("idle", x, t, Check.NONE, -1, -1, false);
        }
        Check.launch(x, 0, 0, 1, 1);
        x.read(1, 0);
        Check.aim("launched", x, 0, Check.NONE, -1, -1, false);
        Check.aim("reading", x, 1, Check.NONE, -1, -1, false);
    }

    /** "Without an aim nothing happens." */
    private static void withoutAnAimNothingHappens() {
        MultiwordSwap x = rejectAgainstPass();
        int[] before = Check.everything(x);
        Check.launch(x, 3, 0, 0, 9);
        Check.due("the first turn only looks", x.run(3, 1), Check.RUNNING);
        Check.aim("3 helps 0", x, 3, Check.PASS, 0, -1, false);
        // The state, two answers about the aim, which has no place, and two about the entry, which expects 0.
        Check.due("answers changed", Check.changed(x, before), 5);
    }

    /** Thread 1's aim at 0's first swap is late, and 0's second swap, equal to it, is as far as it was. */
    private static MultiwordSwap late(int turns, int expectedAtTheEnd) {
        MultiwordSwap x = new MultiwordSwap(2, 4, 2);
        Check.launch(x, 0, 0, 0, 0, 3, expectedAtTheEnd, 0);
        x.run(0, turns);
        x.read(1, 0);
        x.run(1, 1);
        Check.due("run", x.run(0, 64), Check.DONE);
        Check.launch(x, 0, 0, 0, 0, 3, expectedAtTheEnd, 0);
        x.run(0, turns);
        return x;
    }

    /** "The aim is late: nothing happens, whatever its kind.": CLAIM. */
    private static void lateClaimDoesNothing() {
        MultiwordSwap x = late(2, 0);
        Check.aim("late", x, 1, Check.CLAIM, 0, 3, true);
        Check.due("run", x.run(1, 1), Check.RUNNING);
        Check.due("nothing claimed", x.holder(3), -1);
        Check.aim("the new aim", x, 1, Check.CLAIM, 0, 3, false);
        Check.due("run", x.run(1, 1), Check.RUNNING);
        Check.due("claimed", x.holder(3), 0);
    }

    /** "The aim is late: nothing happens, whatever its kind.": PASS. */
    private static void latePassDoesNothing() {
        MultiwordSwap x = late(3, 0);
        Check.aim("late", x, 1, Check.PASS, 0, -1, true);
        Check.due("run", x.run(1, 1), Check.RUNNING);
        Check.due("not passed", x.state(0), Check.UNDECIDED);
        Check.due("not freed", x.holder(3), 0);
        Check.aim("the new aim", x, 1, Check.PASS, 0, -1, false);
        Check.due("run", x.run(1, 1), Check.DONE);
        Check.due("passed", x.state(0), Check.SUCCEEDED);
    }

    /** "The aim is late: nothing happens, whatever its kind.": REJECT. */
    private static void lateRejectDoesNothing() {
        MultiwordSwap x = late(2, 8);
        Check.aim("late", x, 1, Check.REJECT, 0, 3, true);
        Check.due("run", x.run(1, 1), Check.RUNNING);
        Check.due("not rejected", x.state(0), Check.UNDECIDED);
        Check.due("not freed", x.holder(0), 0);
        Check.aim("the new aim", x, 1, Check.REJECT, 0, 3, false);
        Check.due("run", x.run(1, 1), Check.DONE);
        Check.due("rejected", x.state(0), Check.FAILED);
    }

    /** "CLAIM of swap s at place a: if s holds a already, nothing happens". */
    private static void claimOfWhatIsHeldAlready() {
        MultiwordSwap x = new MultiwordSwap(2, 4, 2);
        Check.launch(x, 0, 0, 0, 1, 1, 0, 1);
        x.run(0, 2);
        x.read(1, 0);
        x.run(1, 2);
        Check.aim("0 would claim what is claimed", x, 0, Check.CLAIM, 0, 1, false);
        Check.due("held already", x.holder(1), 0);
        int[] before = Check.everything(x);
        Check.due("run", x.run(0, 1), Check.RUNNING);
        // Only 0's aim is new: PASS, and so without a place.
        Check.due("answers changed", Check.changed(x, before), 2);
        Check.aim("0 would pass", x, 0, Check.PASS, 0, -1, false);
    }

    /** "else if a is held by another swap, nothing happens". */
    private static void claimOfWhatAnotherHolds() {
        MultiwordSwap x = new MultiwordSwap(2, 4, 2);
        Check.launch(x, 0, 1, 0, 1, 2, 0, 1);
        Check.launch(x, 1, 1, 0, 2, 3, 0, 2);
        x.run(0, 1);
        x.run(1, 2);
        int[] before = Check.everything(x);
        Check.due("run", x.run(0, 1), Check.RUNNING);
        // Only 0's aim is new: another target, another place.
        Check.due("answers changed", Check.changed(x, before), 2);
        Check.due("holder", x.holder(1), 1);
        Check.aim("0 helps 1", x, 0, Check.CLAIM, 1, 3, false);
    }

    /** "else if the value of a differs from the expected value of s's entry for a, nothing happens". */
    private static void claimOfAnotherValue() {
        for (int bit = 0; bit < 32; bit++) {
            MultiwordSwap x = new MultiwordSwap(2, 4, 1);
            Check.launch(x, 0, 1, 0, 7);
            x.run(0, 1);
            Check.launch(x, 1, 1, 0, 1 << bit);
            Check.due("1 is faster", x.run(1, 64), Check.DONE);
            Check.aim("0 would claim", x, 0, Check.CLAIM, 0, 1, false);
            Check.due("run", x.run(0, 1), Check.RUNNING);
            Check.due("not held", x.holder(1), -1);
            Check.aim("0 would reject", x, 0, Check.REJECT, 0, 1, false);
            Check.due("value", x.value(1), 1 << bit);
        }
    }

    /** "else s now holds a. No value changes." */
    private static void claimChangesNoValue() {
        for (int v : Scene.VALUES) {
            MultiwordSwap x = new MultiwordSwap(2, 4, 2);
            Check.launch(x, 0, 1, 0, v);
            x.run(0, 64);
            Check.launch(x, 0, 1, v, 77, 2, 0, 77);
            x.run(0, 2);
            Check.due("held", x.holder(1), 0);
            Check.due("value", x.value(1), v);
            x.run(0, 1);
            Check.due("held still", x.holder(1), 0);
            Check.due("value still", x.value(1), v);
        }
    }

    /** "PASS of s: ... every word of its entries takes the desired value of its entry". */
    private static void passStoresEveryDesiredValue() {
        for (int span = 1; span <= 8; span++) {
            MultiwordSwap x = new MultiwordSwap(2, 16, 8);
            for (int i = 0; i < span; i++) {
                x.put(0, 15 - 2 * i, 0, Scene.VALUES[i]);
            }
            x.launch(0);
            x.put(0, 15, 3, 3);
            x.put(0, 0, 3, 3);
            Check.due("all held", x.run(0, span + 1), Check.RUNNING);
            x.read(1, 15);
            Check.due("passed by 1", x.run(1, 2), Check.DONE);
            Check.due("state", x.state(0), Check.SUCCEEDED);
            for (int a = 0; a < 16; a++) {
                int i = (15 - a) / 2;
                Check.due("value(" + a + ")", x.value(a), a % 2 == 1 && i < span ? Scene.VALUES[i] : 0);
            }
        }
    }

    /** "and s holds nothing any more." Words that others hold stay held. */
    private static void passFreesEveryWord() {
        MultiwordSwap x = new MultiwordSwap(2, 16, 8);
        for (int a = 0; a < 8; a++) {
            x.put(0, a, 0, 1);
            x.put(1, a + 8, 0, 1);
        }
        x.launch(0);
        x.launch(1);
        x.run(0, 9);
        x.run(1, 9);
        for (int a = 0; a < 16; a++) {
            Check.due("holder(" + a + ")", x.holder(a), a / 8);
        }
        Check.due("run", x.run(0, 1), Check.DONE);
        for (int a = 0; a < 16; a++) {
            Check.due("holder(" + a + ")", x.holder(a), a < 8 ? -1 : 1);
        }
    }

    /** "REJECT of s, at whatever place: s becomes FAILED and holds nothing any more; no value changes." */
    private static void rejectChangesNoValue() {
        for (int wrong = 0; wrong < 8; wrong++) {
            MultiwordSwap x = new MultiwordSwap(2, 16, 8);
            Check.launch(x, 1, 15, 0, 4);
            x.run(1, 2);
            for (int i = 0; i < 8; i++) {
                x.put(0, i, i == wrong ? 1 : 0, 5);
            }
            x.launch(0);
            x.run(0, wrong + 1);
            Check.aim("place " + wrong, x, 0, Check.REJECT, 0, wrong, false);
            for (int a = 0; a < 8; a++) {
                Check.due("holder(" + a + ")", x.holder(a), a < wrong ? 0 : -1);
            }
            Check.due("run", x.run(0, 1), Check.DONE);
            Check.due("outcome", x.outcome(0), Check.FAILED);
            for (int a = 0; a < 16; a++) {
                Check.due("value(" + a + ")", x.value(a), 0);
                Check.due("holder(" + a + ")", x.holder(a), a == 15 ? 1 : -1);
            }
        }
    }

    /** "This happens whatever the values ... are by now." */
    private static void rejectThoughTheValueFits() {
        MultiwordSwap x = new MultiwordSwap(2, 4, 1);
        Check.launch(x, 0, 0, 5, 6);
        x.run(0, 1);
        Check.launch(x, 1, 0, 0, 5);
        x.run(1, 64);
        Check.due("it fits", x.value(0), 5);
        Check.aim("0 would reject", x, 0, Check.REJECT, 0, 0, false);
        Check.due("run", x.run(0, 1), Check.DONE);
        Check.due("outcome", x.outcome(0), Check.FAILED);
        Check.due("value", x.value(0), 5);
    }

    /** "... and holdings are by now.": the swap holds the very place, and even all its words. */
    private static void rejectThoughItsPlaceIsHeld() {
        MultiwordSwap x = rejectAgainstPass();
        Check.due("its place is held by itself", x.holder(1), 0);
        Check.due("run", x.run(0, 1), Check.DONE);
        Check.due("outcome", x.outcome(0), Check.FAILED);
        nothingHeld("rejected", x);
        Check.due("value(0)", x.value(0), 0);
        Check.due("value(1)", x.value(1), 5);
    }

    /** "... and holdings are by now.": another swap holds the place, and goes on holding it. */
    private static void rejectThoughAnotherHoldsItsPlace() {
        MultiwordSwap x = new MultiwordSwap(2, 4, 2);
        Check.launch(x, 0, 0, 0, 1, 1, 5, 6);
        x.run(0, 2);
        Check.launch(x, 1, 1, 0, 8, 2, 0, 8);
        x.run(1, 2);
        Check.due("its place is held by 1", x.holder(1), 1);
        Check.aim("0 would reject", x, 0, Check.REJECT, 0, 1, false);
        Check.due("run", x.run(0, 1), Check.DONE);
        Check.due("outcome", x.outcome(0), Check.FAILED);
        Check.due("0 holds nothing", x.holder(0), -1);
        Check.due("1 holds on", x.holder(1), 1);
        Check.due("1 is undecided", x.state(1), Check.UNDECIDED);
    }

    /** LOOK 1: "the outcome becomes SUCCEEDED or FAILED, as decided; ... its got value stays." */
    private static void finishingASwapKeepsGot() {
        MultiwordSwap x = new MultiwordSwap(2, 4, 1);
        Check.launch(x, 0, 0, 0, -9);
        x.run(0, 64);
        Check.due("no read yet", x.got(0), 0);
        x.read(0, 0);
        x.run(0, 64);
        Check.launch(x, 0, 0, -9, 3);
        x.run(0, 64);
        Check.due("succeeded", x.outcome(0), Check.SUCCEEDED);
        Check.due("got", x.got(0), -9);
        Check.launch(x, 0, 0, -9, 3);
        x.run(0, 64);
        Check.due("failed", x.outcome(0), Check.FAILED);
        Check.due("got", x.got(0), -9);
    }

    /** LOOK 2: "if a is held by no swap, the read is finished", also where swaps hold the words next to it. */
    private static void readOfAWordThatIsFree() {
        MultiwordSwap x = new MultiwordSwap(3, 6, 2);
        Check.launch(x, 0, 1, 0, 1, 2, 7, 7);
        Check.launch(x, 1, 3, 0, 1, 4, 7, 7);
        x.run(0, 2);
        x.run(1, 2);
        int[] free = {0, 2, 4, 5};
        for (int a : free) {
            x.read(2, a);
            Check.due("read of " + a, x.run(2, 1), Check.DONE);
            Check.due("outcome", x.outcome(2), Check.VALUE);
            Check.aim("no aim", x, 2, Check.NONE, -1, -1, false);
        }
        int[] held = {1, 3};
        for (int i = 0; i < 2; i++) {
            Check.due("still held", x.holder(held[i]), i);
        }
    }

    /** LOOK is done "on the state that ACT left": the turn that frees the word reads it too. */
    private static void readOfAWordThatIsFreedByItsOwnTurn() {
        MultiwordSwap x = rejectAgainstPass();
        Check.due("2 passes 0 and reads in one turn", x.run(2, 1), Check.DONE);
        Check.due("the new value", x.got(2), 1);
        MultiwordSwap y = rejectAgainstPass();
        Check.due("1 rejects 0 and reads in one turn", y.run(1, 1), Check.DONE);
        Check.due("the old value", y.got(1), 0);
    }

    /** LOOK 2: "If a is held by a swap, let w be that swap": whichever holds it now, not the one met before. */
    private static void readOfAWordThatIsTakenAgain() {
        MultiwordSwap x = new MultiwordSwap(3, 4, 2);
        Check.launch(x, 0, 0, 0, 1, 1, 0, 1);
        x.run(0, 3);
        x.read(2, 0);
        x.run(2, 1);
        Check.aim("2 helps 0", x, 2, Check.PASS, 0, -1, false);
        x.run(0, 1);
        Check.launch(x, 1, 0, 1, 2, 3, 0, 2);
        x.run(1, 2);
        Check.due("run", x.run(2, 1), Check.RUNNING);
        Check.aim("2 helps 1", x, 2, Check.CLAIM, 1, 3, false);
        Check.due("run", x.run(2, 2), Check.DONE);
        Check.due("got", x.got(2), 2);
    }

    /** LOOK 5 goes before LOOK 6: a held word leads on to its holder, also if its value differs. */
    private static void holderIsAskedBeforeTheValue() {
        MultiwordSwap x = new MultiwordSwap(2, 4, 2);
        Check.launch(x, 1, 1, 0, 5, 2, 0, 5);
        x.run(1, 2);
        Check.launch(x, 0, 1, 5, 6);
        Check.due("run", x.run(0, 1), Check.RUNNING);
        Check.aim("0 helps 1 first", x, 0, Check.CLAIM, 1, 2, false);
        Check.due("run", x.run(0, 64), Check.DONE);
        Check.due("and then has what it expected", x.outcome(0), Check.SUCCEEDED);
        Check.due("value", x.value(1), 6);
    }

    /** LOOK 6: "If the value of a differs from the expected value", in whatever bit. */
    private static void everyBitOfTheValueCounts() {
        for (int v : Scene.VALUES) {
            for (int bit = 0; bit < 32; bit++) {
                MultiwordSwap x = new MultiwordSwap(2, 4, 1);
                Check.launch(x, 0, 2, 0, v);
                x.run(0, 64);
                Check.launch(x, 0, 2, v ^ 1 << bit, 9);
                x.run(0, 1);
                Check.aim("bit " + bit + " of " + v, x, 0, Check.REJECT, 0, 2, false);
                Check.launch(x, 1, 2, v, 9);
                x.run(1, 1);
                Check.aim("no bit of " + v, x, 1, Check.CLAIM, 1, 2, false);
            }
        }
    }

    /** Each thread's swap holds its own word and waits for that of the next; the last one waits for none. */
    private static MultiwordSwap chain(int threads, int expectedAtTheEnd) {
        MultiwordSwap x = new MultiwordSwap(threads, 5, 2);
        for (int t = threads - 1; t >= 0; t--) {
            boolean last = t == threads - 1;
            Check.launch(x, t, t, 0, 9, t + 1, last ? expectedAtTheEnd : 0, 9);
            x.run(t, 1);
        }
        for (int t = 0; t < threads; t++) {
            x.run(t, 1);
            Check.due("holder(" + t + ")", x.holder(t), t);
        }
        return x;
    }

    /** "Each return to 4 goes to a strictly higher a, so at most T swaps are visited.": all T are. */
    private static void chainOfAllThreads() {
        for (int threads = 2; threads <= 4; threads++) {
            int last = threads - 1;
            MultiwordSwap x = chain(threads, 0);
            x.run(0, 1);
            Check.aim("to the end, to claim", x, 0, Check.CLAIM, last, threads, false);
            x.run(0, 1);
            Check.aim("to the end, to pass", x, 0, Check.PASS, last, -1, false);
            MultiwordSwap y = chain(threads, 1);
            y.run(0, 1);
            Check.aim("to the end, to reject", y, 0, Check.REJECT, last, threads, false);
        }
    }

    /** LOOK 2 and 5: a reader meets the chain where its word is, and goes up from there alone. */
    private static void chainMetInTheMiddle() {
        for (int a = 0; a < 3; a++) {
            MultiwordSwap x = new MultiwordSwap(4, 5, 2);
            for (int t = 2; t >= 0; t--) {
                Check.launch(x, t, t, 0, 9, t + 1, 0, 9);
                x.run(t, 1);
            }
            x.run(0, 1);
            x.run(1, 1);
            x.run(2, 1);
            x.read(3, a);
            x.run(3, 1);
            Check.aim("the end of the chain", x, 3, Check.CLAIM, 2, 3, false);
            x.run(3, 2);
            Check.due("passed", x.state(2), Check.SUCCEEDED);
            Check.aim("the next below, if the reader met it", x, 3, a == 2 ? Check.NONE : Check.REJECT,
                a == 2 ? -1 : 1, a == 2 ? -1 : 2, false);
            Check.due("swaps below are left alone", x.state(0), Check.UNDECIDED);
        }
    }

    /** "A new aim replaces the old one.": a late one too. */
    private static void newAimReplacesTheOld() {
        MultiwordSwap x = new MultiwordSwap(3, 4, 2);
        Check.launch(x, 0, 0, 0, 1, 1, 0, 1);
        x.run(0, 2);
        Check.launch(x, 1, 0, 1, 2, 3, 0, 2);
        x.run(1, 1);
        Check.aim("1 helps 0", x, 1, Check.CLAIM, 0, 1, false);
        x.run(0, 64);
        Check.aim("too late", x, 1, Check.CLAIM, 0, 1, true);
        x.run(1, 1);
        Check.aim("its own", x, 1, Check.CLAIM, 1, 0, false);
        x.run(1, 1);
        Check.aim("its own", x, 1, Check.CLAIM, 1, 3, false);
        x.run(1, 1);
        Check.aim("without a place", x, 1, Check.PASS, 1, -1, false);
    }

    /** "After a turn the thread is idle or has an aim." */
    private static void afterATurnIdleOrAimed() {
        for (Scene scene : Scene.all()) {
            MultiwordSwap x = scene.make();
            for (int i = 0; i < 30; i++) {
                int t = i % scene.threads;
                int answer = x.run(t, 1);
                boolean idle = x.state(t) == Check.IDLE;
                Check.due(scene.name + ": idle or has an aim", x.aim(t) == Check.NONE, idle);
                Check.due(scene.name + ": idle or RUNNING", answer == Check.RUNNING, !idle);
                if (idle) {
                    Check.aim(scene.name, x, t, Check.NONE, -1, -1, false);
                } else {
                    Check.due(scene.name + ": the new aim is not late", x.late(t), false);
                }
            }
        }
    }

    /** "A turn changes no draft, and neither aim, outcome nor got value of any other thread." */
    private static void aTurnLeavesTheOthers() {
        for (Scene scene : Scene.all()) {
            for (int t = 0; t < scene.threads; t++) {
                MultiwordSwap x = scene.make();
                for (int turn = 0; turn < 12 && x.state(t) != Check.IDLE; turn++) {
                    int[] before = kept(x, scene, t);
                    x.run(t, 1);
                    int[] after = kept(x, scene, t);
                    for (int i = 0; i < before.length; i++) {
                        Check.due(scene.name + ": a turn of " + t + " keeps answer " + i, after[i], before[i]);
                    }
                }
            }
        }
    }

    private static int[] kept(MultiwordSwap x, Scene scene, int mover) {
        int[] all = new int[scene.threads * (5 + 3 * scene.words)];
        int i = 0;
        for (int t = 0; t < scene.threads; t++) {
            for (int a = 0; a < scene.words; a++) {
                for (int part = Check.DRAFT_HAS; part <= Check.DRAFT_DESIRED; part++) {
                    all[i++] = x.term(t, a, part);
                }
            }
            if (t != mover) {
                all[i++] = x.aim(t);
                all[i++] = x.target(t);
                all[i++] = x.place(t);
                all[i++] = x.outcome(t);
                all[i++] = x.got(t);
            }
        }
        return all;
    }
}
