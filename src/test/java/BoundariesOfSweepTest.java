/** Boundary cases of promises 8 to 10 and 13 to 15: THE SWEEP, its ACTIVE, its PAIRS, its measures. */
public final class BoundariesOfSweepTest {
    private static final int NONE = Sentences.NONE;
    private static final int NO_SUCH = Sentences.NO_SUCH;
    private static final int LEAST = Sentences.LEAST;
    private static final int MOST = Sentences.MOST;

    private final Sentences s = new Sentences("BoundariesOfSweepTest");

    public static void main(String[] args) {
        BoundariesOfSweepTest test = new BoundariesOfSweepTest();
        test.howManyEvents();
        test.sweepInASweep();
        test.sweepingFromUntil();
        test.orderAtOnePlace();
        test.orderOfEmpties();
        test.startsAndPairs();
        test.stayUntilTheNext();
        test.stepsThatCannotBe();
        test.fewerAtTheEnd();
        test.stepsWithoutASweep();
        test.leaving();
        test.activeOfNone();
        test.activeWithoutGaps();
        test.pairsOfNone();
        test.pairsThatAreEmpty();
        test.pairsByKinds();
        test.timesOfPlaces();
        test.pairsAtTheBounds();
        test.theMostPairs();
        test.sweptOfAnotherWhat();
        test.placeOfTheLatest();
        test.headsThatWereThere();
        test.heldTogether();
        test.theMostHeld();
        test.lastCameToAnotherPlace();
        test.s.end(8, 9, 10, 13, 14, 15);
    }

    private void activeIs(String when, TimedJoin x, int side, int... want) {
        s.due(when + ": how many of " + side, x.active(side, NONE), want.length);
        for (int i = 0; i < want.length; i++) {
            s.due(when + ": active(" + side + ", " + i + ")", x.active(side, i), want[i]);
        }
        s.due(when + ": behind the last of " + side, x.active(side, want.length), NONE);
    }

    private void pairsAre(String when, TimedJoin x, int... leftsAndRights) {
        s.due(when + ": how many PAIRS", x.pair(NONE, 0), leftsAndRights.length / 2);
        for (int p = 0; p < leftsAndRights.length / 2; p++) {
            s.due(when + ": LEFT of PAIR " + p, x.pair(p, 0), leftsAndRights[2 * p]);
            s.due(when + ": RIGHT of PAIR " + p, x.pair(p, 1), leftsAndRights[2 * p + 1]);
        }
    }

    private static TimedJoin allAtOnce() {
        TimedJoin x = new TimedJoin();
        for (int k = 0; k < 40; k++) {
            x.add(0, 0, 0, 0, 10, 0);
            x.add(1, 0, 0, 0, 10, 0);
        }
        return x;
    }

    // ---- promise 8

    private void howManyEvents() {
        s.says(8, "THE SWEEP begins: how many EVENTS there are");
        s.due("of no ROWS", new TimedJoin().sweep(), 0);
        TimedJoin batch = new TimedJoin();
        batch.batch(0, 0, 0, 0, 0);
        s.due("of a ROW in THE BATCH", batch.sweep(), 0);
        TimedJoin empty = new TimedJoin();
        empty.add(1, 0, 0, 5, 5, 0);
        s.due("of one that is EMPTY", empty.sweep(), 2);
        s.due("of all that can be", allAtOnce().sweep(), 160);
    }

    private void sweepInASweep() {
        s.says(8, "NONE with TROUBLE: it is SWEEPING.");
        TimedJoin x = Sentences.two(0, 5, 0, 5);
        x.sweep();
        s.due("ahead of the first EVENT", x.sweep(), NONE);
        s.causes("ahead of the first EVENT", x, 8, 0);
        x.step(3);
        s.due("ahead of the last EVENT", x.sweep(), NONE);
        s.causes("ahead of the last EVENT", x, 8, 3);
        s.due("it goes on: EVENTS that are gone", x.swept(0), 3);
        activeIs("it goes on", x, 0);
        activeIs("it goes on", x, 1, 0);
        pairsAre("it goes on", x, 0, 0);
        s.due("it goes on: the last EVENT", x.step(1), 1);
        s.due("behind the last EVENT", x.sweep(), 4);
        s.causes("behind the last EVENT", x);
        x.leave();
        s.due("behind leave()", x.sweep(), 4);
    }

    private void sweepingFromUntil() {
        s.says(8, "It is SWEEPING from sweep() on, until all EVENTS are gone or it is left; ROWS, settings can't be told then");
        TimedJoin none = new TimedJoin();
        none.sweep();
        s.due("no EVENTS", none.look(5), 0);
        s.due("no EVENTS: sweep()", none.sweep(), 0);
        s.due("no EVENTS: set()", none.set(0, 0), true);
        s.due("no EVENTS: load()", none.load(0), 0);
        s.due("no EVENTS: add()", none.add(0, 0, 0, 0, 0, 0), 0);
        TimedJoin x = Sentences.inARow(0, 1);
        s.due("ahead of sweep()", x.look(5), 0);
        x.sweep();
        for (int gone = 0; gone < 2; gone++) {
            s.due("behind " + gone, x.look(5), 1);
            s.due("add() behind " + gone, x.add(1, 0, 0, 0, 0, 0), NONE);
            s.due("load() behind " + gone, x.load(1), NONE);
            s.due("set() behind " + gone, x.set(0, 0), false);
            x.step(1);
        }
        s.due("behind all", x.look(5), 0);
        x.sweep();
        x.leave();
        s.due("left", x.look(5), 0);
    }

    private void orderAtOnePlace() {
        s.says(8, "at one place ENDS ahead of STARTS, then LEFT ahead of RIGHT, then by numbers");
        TimedJoin x = new TimedJoin();
        x.add(1, 0, 0, 0, 5, 0);
        x.add(1, 1, 0, 0, 5, 0);
        x.add(1, 2, 0, 5, 9, 0);
        x.add(0, 0, 0, 5, 9, 0);
        x.add(0, 1, 0, 0, 5, 0);
        x.add(0, 2, 0, 5, 9, 0);
        x.sweep();
        int[][] lefts = {{1}, {1}, {1}, {}, {}, {}, {0}, {0, 2}, {0, 2}, {2}, {}, {}};
        int[][] rights = {{}, {0}, {0, 1}, {0, 1}, {1}, {}, {}, {}, {2}, {2}, {2}, {}};
        for (int e = 0; e < 12; e++) {
            x.step(1);
            activeIs("behind " + (e + 1), x, 0, lefts[e]);
            activeIs("behind " + (e + 1), x, 1, rights[e]);
        }
        pairsAre("none that only meet", x, 1, 0, 1, 1, 0, 2, 2, 2);
    }

    private void orderOfEmpties() {
        s.says(8, "PLACES: START t is at 2 t, END t at 2 t; but the END of an EMPTY ROW (START is END) at 2 t and 1");
        TimedJoin x = new TimedJoin();
        x.add(0, 0, 0, -5, -5, 0);
        x.add(0, 1, 0, -6, -5, 0);
        x.add(1, 0, 0, -5, -5, 0);
        x.add(1, 0, 0, -5, -4, 0);
        x.add(1, 0, 0, -4, -4, 0);
        x.sweep();
        // L1+ -12, L1- -10, L0+ R0+ R1+ -10, L0- R0- -9, R1- -8, R2+ -8, R2- -7
        int[] places = {-12, -10, -10, -10, -10, -9, -9, -8, -8, -7};
        int[][] lefts = {{1}, {}, {0}, {0}, {0}, {}, {}, {}, {}, {}};
        int[][] rights = {{}, {}, {}, {0}, {0, 1}, {0, 1}, {1}, {}, {2}, {}};
        for (int e = 0; e < 10; e++) {
            x.step(1);
            s.due("place of EVENT " + e, x.swept(7), places[e]);
            activeIs("behind EVENT " + e, x, 0, lefts[e]);
            activeIs("behind EVENT " + e, x, 1, rights[e]);
        }
        pairsAre("of EMPTY ones", x, 0, 0, 0, 1);
    }

    private void startsAndPairs() {
        s.says(8, "A START: PAIRS with the ROWS of the other SIDE's ACTIVE that are its PARTNERS, in the order of that ACTIVE");
        TimedJoin x = new TimedJoin();
        x.add(0, 0, 0, 0, 5, 0);
        x.add(0, 0, 0, 1, 9, 0);
        x.add(0, 0, 7, 2, 9, 0);
        x.add(0, 0, 0, 3, 9, 0);
        x.add(1, 0, 0, 6, 7, 0);
        x.add(1, 0, 3, 6, 7, 0);
        x.sweep();
        x.step(5);
        activeIs("the last came to where the first was", x, 0, 3, 1, 2);
        x.step(160);
        pairsAre("in that order", x, 3, 0, 1, 0);
        x.set(0, 0);
        x.set(1, 4);
        x.sweep();
        x.step(160);
        pairsAre("none is of KINDS", x);
        x.set(1, 256);
        x.sweep();
        x.step(160);
        pairsAre("all are", x, 3, 0, 1, 0, 2, 0, 3, 1, 1, 1, 2, 1);
    }

    private void stayUntilTheNext() {
        s.says(8, "PAIRS, ACTIVE stay until the next sweep().");
        TimedJoin x = Sentences.two(0, 5, 0, 5);
        x.sweep();
        x.step(2);
        x.leave();
        x.set(1, 0);
        x.add(0, 1, 0, 0, 5, 0);
        pairsAre("left", x, 0, 0);
        activeIs("left", x, 0, 0);
        activeIs("left", x, 1, 0);
        s.due("left: KIND", x.pair(0, 2), 6);
        x.sweep();
        pairsAre("the next", x);
        activeIs("the next", x, 0);
        activeIs("the next", x, 1);
        x.step(160);
        x.set(1, 2044);
        x.sweep();
        x.step(160);
        x.set(1, 0);
        pairsAre("at its end", x, 0, 0, 1, 0);
    }

    // ---- promise 9

    private void stepsThatCannotBe() {
        s.says(9, "n EVENTS (1 .. 160)");
        TimedJoin x = allAtOnce();
        x.sweep();
        for (int n : new int[] {LEAST, -160, -1, 0, 161, MOST}) {
            s.due("step(" + n + ")", x.step(n), NONE);
        }
        s.due("none is gone", x.swept(0), 0);
        s.due("step(1)", x.step(1), 1);
        s.due("one is gone", x.swept(0), 1);
        TimedJoin all = allAtOnce();
        all.sweep();
        s.due("step(160)", all.step(160), 160);
    }

    private void fewerAtTheEnd() {
        s.says(9, "how many there were (fewer at the end)");
        TimedJoin x = Sentences.inARow(0, 2);
        x.sweep();
        s.due("step(3)", x.step(3), 3);
        s.due("step(2) of 1", x.step(2), 1);
        s.due("EVENTS that are gone", x.swept(0), 4);
        x.sweep();
        s.due("step(4) of 4", x.step(4), 4);
        x.sweep();
        s.due("step(160) of 4", x.step(160), 4);
    }

    private void stepsWithoutASweep() {
        s.says(9, "NONE if n can't be, or it is not SWEEPING.");
        TimedJoin x = Sentences.inARow(0, 1);
        s.due("never begun", x.step(1), NONE);
        x.sweep();
        x.step(2);
        s.due("behind the last EVENT", x.step(1), NONE);
        x.sweep();
        x.step(1);
        x.leave();
        s.due("left", x.step(1), NONE);
        s.due("EVENTS that are gone", x.swept(0), 1);
        TimedJoin none = new TimedJoin();
        none.sweep();
        s.due("of no EVENTS", none.step(1), NONE);
    }

    // ---- promise 10

    private void leaving() {
        s.says(10, "THE SWEEP is left: true; false if it is not SWEEPING.");
        TimedJoin x = Sentences.inARow(0, 1);
        s.due("never begun", x.leave(), false);
        x.sweep();
        s.due("ahead of the first EVENT", x.leave(), true);
        s.due("again", x.leave(), false);
        x.sweep();
        x.step(1);
        s.due("ahead of the last EVENT", x.leave(), true);
        s.due("ACTIVE stays", x.active(0, 0), 0);
        x.sweep();
        x.step(2);
        s.due("behind the last EVENT", x.leave(), false);
        TimedJoin none = new TimedJoin();
        none.sweep();
        s.due("of no EVENTS", none.leave(), false);
        x.sweep();
        x.image(true);
        x.leave();
        x.image(false);
        s.due("gone back to where it is SWEEPING", x.leave(), true);
    }

    // ---- promise 13

    private void activeOfNone() {
        s.says(13, "(i NONE: how many). NONE if there is none such.");
        TimedJoin x = Sentences.two(0, 5, 1, 5);
        x.sweep();
        activeIs("ahead of the first EVENT", x, 0);
        x.step(1);
        activeIs("behind it", x, 0, 0);
        activeIs("behind it", x, 1);
        for (int i : new int[] {LEAST, -2, 1, 40, MOST}) {
            s.due("active(0, " + i + ")", x.active(0, i), NONE);
        }
        for (int side : new int[] {LEAST, -2, -1, 2, MOST}) {
            s.due("active(" + side + ", 0)", x.active(side, 0), NONE);
            s.due("active(" + side + ", NONE)", x.active(side, NONE), NONE);
        }
        TimedJoin all = allAtOnce();
        all.sweep();
        all.step(80);
        for (int side = 0; side < 2; side++) {
            s.due("of all: how many", all.active(side, NONE), 40);
            s.due("of all: the last", all.active(side, 39), 39);
            s.due("of all: behind it", all.active(side, 40), NONE);
        }
    }

    private void activeWithoutGaps() {
        s.says(13, "An END: the last of ACTIVE comes to where it was, ACTIVE has one less.");
        int[] ends = {1, 3, 2};
        int[][] behind = {{2, 1}, {0, 2}, {0, 1}};
        for (int first = 0; first < 3; first++) {
            TimedJoin x = new TimedJoin();
            for (int k = 0; k < 3; k++) {
                x.add(1, 0, 0, 0, k == first ? 5 : 5 + ends[k], 0);
            }
            x.sweep();
            x.step(4);
            activeIs("behind the END of " + first, x, 1, behind[first]);
        }
        TimedJoin one = Sentences.inARow(0, 1);
        one.sweep();
        one.step(2);
        activeIs("behind the END of the only one", one, 0);
    }

    // ---- promise 14

    private void pairsOfNone() {
        s.says(14, "i NONE: how many. NONE - 9999999 if there is none such, or another what.");
        TimedJoin x = Sentences.two(0, 5, 1, 5);
        s.due("never begun: how many", x.pair(NONE, 0), 0);
        s.due("never begun", x.pair(0, 0), NO_SUCH);
        x.sweep();
        x.step(1);
        s.due("none yet: how many", x.pair(NONE, 0), 0);
        s.due("none yet", x.pair(0, 0), NO_SUCH);
        x.step(1);
        s.due("one: how many", x.pair(NONE, 0), 1);
        for (int what = 0; what < 6; what++) {
            for (int i : new int[] {LEAST, -2, 1, 2, MOST}) {
                s.due("pair(" + i + ", " + what + ")", x.pair(i, what), NO_SUCH);
            }
        }
        for (int what : new int[] {LEAST, -1, 6, 7, MOST}) {
            s.due("pair(0, " + what + ")", x.pair(0, what), NO_SUCH);
        }
    }

    private void pairIs(String when, TimedJoin x, int... want) {
        x.sweep();
        x.step(160);
        s.due(when + ": how many", x.pair(NONE, 0), 1);
        for (int what = 0; what < 6; what++) {
            s.due(when + ": what " + what, x.pair(0, what), want[what]);
        }
    }

    private void pairsThatAreEmpty() {
        s.says(14, "SHARED of PARTNERS: from the later START to the earlier END (by places); its LONG: 0, if one is EMPTY.");
        pairIs("LEFT is EMPTY, at its START", Sentences.two(5, 5, 5, 9), 0, 0, 3, 5, 5, 0);
        pairIs("LEFT is EMPTY, inside", Sentences.two(-5, -5, -9, 9), 0, 0, 4, -5, -5, 0);
        pairIs("LEFT is EMPTY, just inside", Sentences.two(-1, -1, -9, 0), 0, 0, 4, -1, -1, 0);
        pairIs("RIGHT is EMPTY, at its START", Sentences.two(-5, 9, -5, -5), 0, 0, 9, -5, -5, 0);
        pairIs("RIGHT is EMPTY, inside", Sentences.two(-9, 9, 0, 0), 0, 0, 8, 0, 0, 0);
        pairIs("both are EMPTY", Sentences.two(-3, -3, -3, -3), 0, 0, 6, -3, -3, 0);
        pairIs("none is EMPTY", Sentences.two(-3, 2, -2, 7), 0, 0, 2, -2, 2, 4);
        pairIs("by 1 alone", Sentences.two(3, 5, 4, 9), 0, 0, 2, 4, 5, 1);
        pairIs("by 1 alone, RIGHT ahead", Sentences.two(-4, 9, -7, -3), 0, 0, 10, -4, -3, 1);
        int[][] apart = {{0, 5, 5, 9}, {5, 9, 0, 5}, {0, 5, 5, 5}, {5, 5, 0, 5}, {5, 5, 6, 6}, {0, 4, 5, 9}, {6, 6, 5, 5}};
        for (int[] a : apart) {
            TimedJoin x = Sentences.two(a[0], a[1], a[2], a[3]);
            x.sweep();
            x.step(160);
            s.due("nothing is SHARED", x.pair(NONE, 0), 0);
        }
    }

    private void pairsByKinds() {
        s.says(14, "They SHARE by 2 .. 10.");
        int[][] spans = {
            {0, 2}, {0, 4}, {0, 6}, {4, 6}, {5, 6}, {5, 8}, {4, 8}, {2, 8}, {2, 9}, {4, 9}, {6, 9}, {8, 9}, {9, 10}};
        for (int kind = 0; kind < 13; kind++) {
            TimedJoin x = Sentences.two(spans[kind][0], spans[kind][1], 4, 8);
            x.sweep();
            x.step(160);
            boolean shares = kind >= 2 && kind <= 10;
            s.due("KIND", x.kind(0, 0, 1, 0), kind);
            s.due("PAIRS of kind " + kind, x.pair(NONE, 0), shares ? 1 : 0);
            s.due("PAIR of kind " + kind, x.pair(0, 2), shares ? kind : NO_SUCH);
            for (int other = 2; other <= 10; other++) {
                x.set(1, 1 << other);
                s.due("PARTNERS of kind " + kind + ", KINDS is " + other, x.row(0, 0, 6), other == kind ? 1 : 0);
            }
        }
    }

    private void timesOfPlaces() {
        s.says(14, "(the time of the places 2 t, 2 t and 1 is t)");
        for (int t : new int[] {-1000000, -999999, -2, -1, 0, 1, 2, 999999, 1000000}) {
            pairIs("both EMPTY at " + t, Sentences.two(t, t, t, t), 0, 0, 6, t, t, 0);
        }
    }

    private void pairsAtTheBounds() {
        s.says(14, "3 the START, 4 the END, 5 LONG of what is SHARED");
        pairIs("all time", Sentences.two(-1000000, 1000000, -1000000, 1000000), 0, 0, 6, -1000000, 1000000, 2000000);
        pairIs("EMPTY at the first time", Sentences.two(-1000000, 1000000, -1000000, -1000000), 0, 0, 9, -1000000, -1000000, 0);
        pairIs("EMPTY at the last time", Sentences.two(1000000, 1000000, 1000000, 1000000), 0, 0, 6, 1000000, 1000000, 0);
    }

    private void theMostPairs() {
        s.says(14, "Of the i-th PAIR of the latest SWEEP what 0 the ROW of the LEFT, 1 of the RIGHT, 2 KIND");
        TimedJoin x = allAtOnce();
        x.sweep();
        x.step(160);
        s.due("how many", x.pair(NONE, 0), 1600);
        for (int i = 0; i < 1600; i += 13) {
            s.due("LEFT of " + i, x.pair(i, 0), i % 40);
            s.due("RIGHT of " + i, x.pair(i, 1), i / 40);
        }
        s.due("LEFT of the last", x.pair(1599, 0), 39);
        s.due("RIGHT of the last", x.pair(1599, 1), 39);
        s.due("KIND of the last", x.pair(1599, 2), 6);
        s.due("behind the last", x.pair(1600, 0), NO_SUCH);
    }

    // ---- promise 15

    private void sweptIs(String when, TimedJoin x, int... want) {
        for (int what = 0; what < 8; what++) {
            s.due(when + ": swept(" + what + ")", x.swept(what), want[what]);
        }
    }

    private void sweptOfAnotherWhat() {
        s.says(15, "NONE - 9999999 for another what.");
        TimedJoin x = Sentences.inARow(0, 1);
        for (int round = 0; round < 2; round++) {
            for (int what : new int[] {LEAST, -2, -1, 8, 9, MOST}) {
                s.due("swept(" + what + ")", x.swept(what), NO_SUCH);
            }
            x.sweep();
        }
        s.says(15, "Of the latest SWEEP what 0 EVENTS that are gone, 1 that are to come");
        TimedJoin y = Sentences.inARow(0, 2);
        sweptIs("never begun", y, 0, 0, 0, 0, 0, 0, 0, 0);
        y.sweep();
        sweptIs("begun", y, 0, 4, 1, 1, 1, 0, 0, 0);
        y.step(160);
        sweptIs("ended", y, 4, 0, 0, 0, 2, 1, 0, 4);
        y.sweep();
        sweptIs("begun again", y, 0, 4, 1, 1, 1, 0, 0, 0);
        TimedJoin none = new TimedJoin();
        none.sweep();
        sweptIs("of no ROWS", none, 0, 0, 0, 0, 0, 0, 0, 0);
    }

    private void placeOfTheLatest() {
        s.says(15, "7 the place of the latest EVENT (0 without).");
        TimedJoin x = new TimedJoin();
        x.add(0, 0, 0, -1000000, -1000000, 0);
        x.add(1, 0, 0, 1000000, 1000000, 0);
        x.add(0, 0, 0, -1, 1, 0);
        s.due("never begun", x.swept(7), 0);
        x.sweep();
        s.due("ahead of the first", x.swept(7), 0);
        for (int place : new int[] {-2000000, -1999999, -2, 2, 2000000, 2000001}) {
            x.step(1);
            s.due("the latest", x.swept(7), place);
        }
        x.sweep();
        s.due("ahead of the first of the next", x.swept(7), 0);
    }

    private void headsThatWereThere() {
        s.says(15, "HEADS: RUNS of both SIDES with a ROW (that was there as THE SWEEP began) whose START has not come.");
        TimedJoin x = new TimedJoin();
        for (int k = 0; k < 8; k++) {
            x.add(k % 2, k / 2, 0, 0, 1, 0);
        }
        x.sweep();
        s.due("all RUNS", x.swept(2), 8);
        x.step(1);
        s.due("one has no more", x.swept(2), 7);
        x.leave();
        x.add(0, 0, 0, 5, 6, 0);
        s.due("a ROW that came later", x.swept(2), 7);
        s.due("a ROW that came later: EVENTS to come", x.swept(1), 15);
        s.due("a ROW that came later: HELD", x.swept(3), 8);
        x.sweep();
        x.step(1);
        s.due("the RUN has one more now", x.swept(2), 8);
        s.due("HELD", x.swept(3), 9);
        x.step(7);
        s.due("that RUN alone", x.swept(2), 1);
        x.step(9);
        s.due("none", x.swept(2), 0);
        s.due("the last EVENT is to come", x.swept(1), 1);
    }

    private void heldTogether() {
        s.says(15, "HELD: ACTIVE of both SIDES and HEADS together.");
        TimedJoin x = Sentences.two(0, 5, 0, 6);
        x.add(0, 0, 0, 7, 7, 0);
        x.sweep();
        int[] held = {2, 3, 3, 2, 1, 1, 0};
        for (int gone = 0; gone <= 6; gone++) {
            s.due("behind " + gone, x.swept(3), held[gone]);
            s.due("both together behind " + gone, x.active(0, NONE) + x.active(1, NONE) + x.swept(2), held[gone]);
            x.step(1);
        }
    }

    private void theMostHeld() {
        s.says(15, "4 the most HELD (as it began, behind each EVENT), 5 the most ACTIVE of both SIDES");
        TimedJoin x = new TimedJoin();
        x.add(0, 0, 0, 0, 1, 0);
        x.add(0, 1, 0, 5, 6, 0);
        x.add(1, 0, 0, 7, 8, 0);
        x.sweep();
        s.due("as it began", x.swept(4), 3);
        s.due("as it began: ACTIVE", x.swept(5), 0);
        x.step(160);
        s.due("no more than as it began", x.swept(4), 3);
        s.due("one at once", x.swept(5), 1);
        TimedJoin y = new TimedJoin();
        for (int k = 0; k < 3; k++) {
            y.add(0, 0, 0, k, 4, 0);
        }
        y.add(1, 0, 0, 3, 9, 0);
        y.add(1, 0, 0, 20, 21, 0);
        y.sweep();
        y.step(160);
        s.due("in between", y.swept(4), 5);
        s.due("in between: ACTIVE of both", y.swept(5), 4);
        s.due("at the end", y.swept(3), 0);
        TimedJoin all = allAtOnce();
        all.sweep();
        all.step(160);
        s.due("of all: HELD", all.swept(4), 80);
        s.due("of all: ACTIVE", all.swept(5), 80);
    }

    private void lastCameToAnotherPlace() {
        s.says(15, "6 how often the last of ACTIVE came to another place");
        TimedJoin x = new TimedJoin();
        x.add(0, 0, 0, 0, 5, 0);
        x.add(0, 0, 0, 0, 4, 0);
        x.add(1, 0, 0, 0, 7, 0);
        x.add(1, 0, 0, 0, 8, 0);
        x.sweep();
        int[] moves = {0, 0, 0, 0, 0, 0, 1, 1};
        for (int e = 0; e < 8; e++) {
            x.step(1);
            s.due("behind " + (e + 1), x.swept(6), moves[e]);
        }
        x.sweep();
        s.due("of the next", x.swept(6), 0);
        TimedJoin all = new TimedJoin();
        for (int k = 0; k < 40; k++) {
            all.add(0, 0, 0, 0, 1, 0);
        }
        all.sweep();
        all.step(160);
        // ROWS 0 .. 19 have the last put in their place, 20 .. 39 are the last themselves
        s.due("of 40 that end together", all.swept(6), 20);
    }
}
