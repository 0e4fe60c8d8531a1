/** Boundary cases of promises 11, 12, 16 to 19 and 25 to 27: ROWS, KINDS, PARTNERS, COVER, SPLIT, LATEST. */
public final class BoundariesOfPartnersTest {
    private static final int NONE = Sentences.NONE;
    private static final int NO_SUCH = Sentences.NO_SUCH;
    private static final int LEAST = Sentences.LEAST;
    private static final int MOST = Sentences.MOST;
    private static final int[] NO_SIDES = {LEAST, -2, -1, 2, MOST};

    private final Sentences s = new Sentences("BoundariesOfPartnersTest");

    public static void main(String[] args) {
        BoundariesOfPartnersTest test = new BoundariesOfPartnersTest();
        test.rowsThatAreNone();
        test.rowsThatAreEmptyOrLong();
        test.partnersNoneAndAll();
        test.nobodyOnTheOtherSide();
        test.depthAtOnce();
        test.coverOfNobody();
        test.kindsByEnds();
        test.kindsOfEmpties();
        test.kindsOfNone();
        test.piecesOfNone();
        test.theLatestEndOfSeveral();
        test.piecesEndWithTheRow();
        test.piecesByNobody();
        test.piecesOfEmptyRows();
        test.theMostPieces();
        test.leftOverOfNone();
        test.leftOverByRows();
        test.kindsInAll();
        test.sharedOfNone();
        test.sharedOfMany();
        test.splitOfNone();
        test.splitBehindAndAhead();
        test.splitOfEmpties();
        test.theMostParts();
        test.latestOfNone();
        test.latestNoLater();
        test.matchedSets();
        test.s.end(11, 12, 16, 17, 18, 19, 25, 26, 27);
    }

    /** A ROW of the LEFT, and ROWS of the RIGHT, each by its START and END; they come by their STARTS. */
    private static TimedJoin against(int start, int end, int... others) {
        TimedJoin x = new TimedJoin();
        x.add(0, 0, 0, start, end, 0);
        for (int k = 0; k < others.length / 2; k++) {
            x.add(1, 0, 0, others[2 * k], others[2 * k + 1], 0);
        }
        return x;
    }

    private void rowIs(String when, TimedJoin x, int side, int row, int from, int... want) {
        for (int k = 0; k < want.length; k++) {
            s.due(when + ": row(" + side + ", " + row + ", " + (from + k) + ")", x.row(side, row, from + k), want[k]);
        }
    }

    private void piecesAre(String when, TimedJoin x, int side, int row, int... want) {
        int count = want.length / 3;
        s.due(when + ": how many PIECES", x.row(side, row, 8), count);
        for (int p = 0; p < count; p++) {
            for (int what = 0; what < 3; what++) {
                s.due(when + ": piece(" + side + ", " + row + ", " + p + ", " + what + ")",
                    x.piece(side, row, p, what), want[3 * p + what]);
            }
        }
        s.due(when + ": behind the last PIECE", x.piece(side, row, count, 0), NO_SUCH);
    }

    private void partsAre(String when, TimedJoin x, int side, int row, int... want) {
        int count = want.length / 3;
        s.due(when + ": how many parts", x.split(side, row, NONE, 0), count);
        for (int p = 0; p < count; p++) {
            for (int what = 0; what < 3; what++) {
                s.due(when + ": split(" + side + ", " + row + ", " + p + ", " + what + ")",
                    x.split(side, row, p, what), want[3 * p + what]);
            }
        }
        s.due(when + ": behind the last part", x.split(side, row, count, 0), NO_SUCH);
    }

    // ---- promise 11

    private void rowsThatAreNone() {
        s.says(11, "NONE - 9999999 if there is none such, or another what (a VALUE may be that).");
        TimedJoin x = Sentences.inARow(0, 40);
        x.add(1, 0, 0, 0, 0, NO_SUCH);
        for (int what = 0; what < 11; what++) {
            for (int row : new int[] {LEAST, -2, -1, 40, 41, MOST}) {
                s.due("row(0, " + row + ", " + what + ")", x.row(0, row, what), NO_SUCH);
            }
            s.due("row(1, 1, " + what + ")", x.row(1, 1, what), NO_SUCH);
            for (int side : NO_SIDES) {
                s.due("row(" + side + ", 0, " + what + ")", x.row(side, 0, what), NO_SUCH);
            }
        }
        for (int what : new int[] {LEAST, -2, -1, 11, 12, MOST}) {
            s.due("row(0, 0, " + what + ")", x.row(0, 0, what), NO_SUCH);
            s.due("row(0, 39, " + what + ")", x.row(0, 39, what), NO_SUCH);
        }
        s.due("a VALUE that is that", x.row(1, 0, 4), NO_SUCH);
        s.due("the VALUE of the last", x.row(0, 39, 4), 39);
    }

    private void rowsThatAreEmptyOrLong() {
        s.says(11, "LONG: END less START.");
        s.due("EMPTY", against(-7, -7).row(0, 0, 5), 0);
        s.due("1", against(-1, 0).row(0, 0, 5), 1);
        s.due("the longest", against(-1000000, 1000000).row(0, 0, 5), 2000000);
    }

    private void partnersNoneAndAll() {
        s.says(11, "6 how many PARTNERS, 7 DEPTH, 8 PIECES of its COVER, 9 how many of these are LEFT OVER, 10 how long all PIECES by PARTNERS are together.");
        rowIs("no ROWS of the other SIDE", against(0, 5), 0, 0, 6, 0, 0, 1, 1, 0);
        rowIs("EMPTY, no ROWS of the other SIDE", against(5, 5), 0, 0, 6, 0, 0, 1, 1, 0);
        rowIs("one that only meets", against(0, 5, 5, 9), 0, 0, 6, 0, 0, 1, 1, 0);
        rowIs("one that only meets, EMPTY", against(0, 5, 5, 5), 0, 0, 6, 0, 0, 1, 1, 0);
        rowIs("one alike", against(0, 5, 0, 5), 0, 0, 6, 1, 1, 1, 0, 5);
        rowIs("one alike, both EMPTY", against(5, 5, 5, 5), 0, 0, 6, 1, 1, 1, 0, 0);
        rowIs("an EMPTY one inside", against(0, 5, 2, 2), 0, 0, 6, 1, 1, 3, 2, 0);
        rowIs("EMPTY inside one", against(0, 5, 2, 2), 1, 0, 6, 1, 1, 1, 0, 0);
        rowIs("all time", against(-1000000, 1000000, -1000000, 1000000), 0, 0, 6, 1, 1, 1, 0, 2000000);
        TimedJoin x = against(0, 5);
        for (int k = 0; k < 40; k++) {
            x.add(1, k % 4, 0, k / 10, 5, 0);
        }
        rowIs("40 PARTNERS", x, 0, 0, 6, 40, 40, 1, 0, 5);
        x.set(1, 0);
        rowIs("KINDS is the empty set", x, 0, 0, 6, 0, 0, 1, 1, 0);
    }

    /** KEYED 0, so that no KEY, and around time 0, so that no place, keeps away what is not there. */
    private void nobodyOnTheOtherSide() {
        for (int side = 0; side < 2; side++) {
            TimedJoin x = new TimedJoin();
            x.set(0, 0);
            x.add(side, 0, 0, -5, 5, 0);
            x.add(side, 0, 0, 0, 0, 0);
            s.says(11, "PARTNERS: a ROW of the LEFT, one of the RIGHT");
            rowIs("of " + side, x, side, 0, 6, 0, 0, 1, 1, 0);
            rowIs("EMPTY, of " + side, x, side, 1, 6, 0, 0, 1, 1, 0);
            s.says(16, "is there none: a PIECE by nobody");
            piecesAre("of " + side, x, side, 0, -5, 5, NONE);
            s.says(18, "How many PARTNERS there are in all");
            for (int kind = 0; kind < 13; kind++) {
                s.due("kinds(" + kind + ") of " + side, x.kinds(kind), 0);
            }
            s.says(25, "2 how many PARTNERS are there");
            partsAre("of " + side, x, side, 0, -5, 5, 0);
            s.says(26, "NONE if there is none (such).");
            s.due("of " + side, x.latest(side, 0), NONE);
            s.due("EMPTY, of " + side, x.latest(side, 1), NONE);
            s.says(27, "ROWS of a SIDE that have PARTNERS (has), or none");
            s.due("has, of " + side, x.matched(side, true), 0);
            s.due("has none, of " + side, x.matched(side, false), 3);
        }
    }

    private void depthAtOnce() {
        s.says(11, "DEPTH: the most PARTNERS of a ROW that are there at once.");
        s.due("one behind another", against(0, 9, 0, 3, 3, 6, 6, 9).row(0, 0, 7), 1);
        s.due("by 1 alone", against(0, 9, 0, 4, 3, 6).row(0, 0, 7), 2);
        s.due("an EMPTY one in one", against(0, 9, 0, 4, 3, 3).row(0, 0, 7), 2);
        s.due("an EMPTY one at the END of one", against(0, 9, 0, 3, 3, 3).row(0, 0, 7), 1);
        s.due("two EMPTY ones at one time", against(0, 9, 3, 3, 3, 3).row(0, 0, 7), 2);
        s.due("two EMPTY ones at two times", against(0, 9, 3, 3, 4, 4).row(0, 0, 7), 1);
        s.due("both from ahead of it", against(5, 9, 0, 6, 1, 7).row(0, 0, 7), 2);
        s.due("one from ahead, one that meets", against(5, 9, 0, 5, 1, 7).row(0, 0, 7), 1);
        s.due("at its last time", against(5, 9, 5, 9, 8, 20, 8, 8).row(0, 0, 7), 3);
    }

    private void coverOfNobody() {
        s.says(11, "LEFT OVER: PIECES by nobody.");
        rowIs("ahead, between, behind", against(0, 9, 2, 3, 5, 6), 0, 0, 8, 5, 3, 2);
        rowIs("none", against(0, 9, -1, 3, 3, 10), 0, 0, 8, 2, 0, 9);
        rowIs("behind an EMPTY one at its START", against(0, 9, 0, 0), 0, 0, 8, 2, 1, 0);
    }

    // ---- promise 12

    private void kindIs(int want, int start, int end, int otherStart, int otherEnd) {
        TimedJoin x = Sentences.two(start, end, otherStart, otherEnd);
        String when = "[" + start + ", " + end + "] and [" + otherStart + ", " + otherEnd + "]";
        s.due(when, x.kind(0, 0, 1, 0), want);
        s.due(when + " turned round", x.kind(1, 0, 0, 0), 12 - want);
    }

    private void kindsByEnds() {
        s.says(12, "0 a's END less than b's START; 1 a's END is b's START; 2 a's START less, b's START less than a's END, a's END less than b's");
        kindIs(0, 0, 4, 5, 9);
        kindIs(1, 0, 5, 5, 9);
        kindIs(2, 0, 6, 5, 9);
        kindIs(2, 0, 8, 5, 9);
        s.says(12, "3 STARTS alike, a's END less; 4 a's START greater, a's END less; 5 a's START greater, ENDS alike; 6 both alike; 7 a's START less, ENDS alike; 8 a's START less, a's END greater; 9 STARTS alike, a's END greater");
        kindIs(3, 5, 8, 5, 9);
        kindIs(4, 6, 8, 5, 9);
        kindIs(5, 6, 9, 5, 9);
        kindIs(6, 5, 9, 5, 9);
        kindIs(7, 4, 9, 5, 9);
        kindIs(8, 4, 10, 5, 9);
        kindIs(9, 5, 10, 5, 9);
        s.says(12, "10 b's START less, a's START less than b's END, b's END less than a's; 11 b's END is a's START; 12 b's END less than a's START.");
        kindIs(10, 6, 10, 5, 9);
        kindIs(10, 8, 10, 5, 9);
        kindIs(11, 9, 10, 5, 9);
        kindIs(12, 10, 11, 5, 9);
        s.says(12, "START and END (-1000000 .. 1000000");
        kindIs(6, -1000000, 1000000, -1000000, 1000000);
        kindIs(1, -1000000, 0, 0, 1000000);
        kindIs(12, 1000000, 1000000, -1000000, -1000000);
        kindIs(9, -1000000, 1000000, -1000000, -1000000);
        kindIs(1, -1000000, 1000000, 1000000, 1000000);
        kindIs(7, -1000000, 1000000, 999999, 1000000);
    }

    private void kindsOfEmpties() {
        s.says(12, "but the END of an EMPTY ROW (START is END) at 2 t and 1");
        for (int t : new int[] {-5, -1, 0, 1, 5}) {
            kindIs(0, t, t, t + 1, t + 1);
            kindIs(0, t, t, t + 1, t + 2);
            kindIs(6, t, t, t, t);
            kindIs(3, t, t, t, t + 1);
            kindIs(4, t, t, t - 1, t + 1);
            kindIs(11, t, t, t - 1, t);
            kindIs(12, t, t, t - 2, t - 1);
        }
    }

    private void kindsOfNone() {
        s.says(12, "KIND of a ROW of a SIDE and one of another (or the same) SIDE. NONE if there is none such.");
        TimedJoin x = Sentences.inARow(0, 40);
        x.add(1, 0, 9, 0, 1, 0);
        s.due("of the same SIDE", x.kind(0, 38, 0, 39), 1);
        s.due("of itself", x.kind(0, 39, 0, 39), 6);
        s.due("of another KEY", x.kind(0, 0, 1, 0), 6);
        for (int row : new int[] {LEAST, -2, -1, 40, MOST}) {
            s.due("kind(0, " + row + ", 1, 0)", x.kind(0, row, 1, 0), NONE);
            s.due("kind(1, 0, 0, " + row + ")", x.kind(1, 0, 0, row), NONE);
        }
        s.due("no second of the RIGHT", x.kind(1, 1, 0, 0), NONE);
        s.due("no second of the RIGHT, as the other", x.kind(0, 0, 1, 1), NONE);
        for (int side : NO_SIDES) {
            s.due("kind(" + side + ", 0, 0, 0)", x.kind(side, 0, 0, 0), NONE);
            s.due("kind(0, 0, " + side + ", 0)", x.kind(0, 0, side, 0), NONE);
        }
    }

    // ---- promise 16

    private void piecesOfNone() {
        s.says(16, "2 the PARTNER (NONE: LEFT OVER). NONE - 9999999 if there is none such, or another what.");
        TimedJoin x = against(0, 9, 3, 5);
        s.due("LEFT OVER", x.piece(0, 0, 0, 2), NONE);
        s.due("the PARTNER", x.piece(0, 0, 1, 2), 0);
        for (int what = 0; what < 3; what++) {
            for (int i : new int[] {LEAST, -2, -1, 3, 4, MOST}) {
                s.due("piece(0, 0, " + i + ", " + what + ")", x.piece(0, 0, i, what), NO_SUCH);
            }
            for (int row : new int[] {LEAST, -1, 1, 40, MOST}) {
                s.due("piece(0, " + row + ", 0, " + what + ")", x.piece(0, row, 0, what), NO_SUCH);
            }
            for (int side : NO_SIDES) {
                s.due("piece(" + side + ", 0, 0, " + what + ")", x.piece(side, 0, 0, what), NO_SUCH);
            }
        }
        for (int what : new int[] {LEAST, -1, 3, 4, 5, MOST}) {
            s.due("piece(0, 0, 0, " + what + ")", x.piece(0, 0, 0, what), NO_SUCH);
        }
    }

    private void theLatestEndOfSeveral() {
        s.says(16, "of its PARTNERS that are there (its START no later, its END later) the one with the latest END, of several the least");
        piecesAre("the latest END", against(0, 9, 0, 3, 0, 9, 0, 5), 0, 0, 0, 9, 1);
        piecesAre("several", against(0, 9, 0, 3, 0, 9, 0, 9), 0, 0, 0, 9, 1);
        piecesAre("the latest END behind the ROW's", against(0, 9, 0, 9, 0, 10, 0, 12, 0, 12), 0, 0, 0, 9, 2);
        piecesAre("one that begins there", against(0, 9, 0, 3, 3, 9), 0, 0, 0, 3, 0, 3, 9, 1);
        piecesAre("one that ends there is not", against(3, 9, 0, 3, 3, 4), 0, 0, 3, 4, 1, 4, 9, NONE);
        piecesAre("it is asked anew only at its END", against(0, 9, 0, 3, 1, 9, 2, 20), 0, 0, 0, 3, 0, 3, 9, 2);
        piecesAre("an EMPTY one is no later than one of 1", against(0, 1, 0, 0, 0, 1), 0, 0, 0, 1, 1);
        TimedJoin keys = against(0, 9, 0, 3);
        keys.add(1, 1, 5, 0, 9, 0);
        piecesAre("one of another KEY is no PARTNER", keys, 0, 0, 0, 3, 0, 3, 9, NONE);
        TimedJoin right = new TimedJoin();
        right.add(1, 0, 0, 0, 9, 0);
        right.add(0, 0, 0, 0, 4, 0);
        right.add(0, 1, 0, 0, 4, 0);
        right.add(0, 0, 0, 2, 9, 0);
        piecesAre("of the RIGHT", right, 1, 0, 0, 4, 0, 4, 9, 2);
    }

    private void piecesEndWithTheRow() {
        s.says(16, "a PIECE from there to its END, or the ROW's END, if that is earlier");
        piecesAre("its END is alike", against(2, 5, 0, 5), 0, 0, 2, 5, 0);
        piecesAre("its END is later by 1", against(2, 5, 0, 6), 0, 0, 2, 5, 0);
        piecesAre("its END is earlier by 1", against(2, 5, 0, 4), 0, 0, 2, 4, 0, 4, 5, NONE);
        piecesAre("all time", against(-1000000, 1000000, -1000000, 1000000), 0, 0, -1000000, 1000000, 0);
    }

    private void piecesByNobody() {
        s.says(16, "is there none: a PIECE by nobody to the next START of a PARTNER, or the ROW's END; and so on from there, till the ROW's END.");
        piecesAre("no PARTNER", against(2, 5), 0, 0, 2, 5, NONE);
        piecesAre("to the next, not to a later one", against(0, 9, 3, 4, 5, 9), 0, 0, 0, 3, NONE, 3, 4, 0, 4, 5, NONE, 5, 9, 1);
        piecesAre("the next has a greater number", twoRuns(), 0, 0, 0, 3, NONE, 3, 4, 1, 4, 5, NONE, 5, 9, 0);
        piecesAre("to the ROW's END", against(0, 9, 0, 4, 9, 12), 0, 0, 0, 4, 0, 4, 9, NONE);
        TimedJoin x = against(0, 9, 3, 5, 4, 9);
        x.set(1, 256);
        piecesAre("to the START of a PARTNER alone", x, 0, 0, 0, 3, NONE, 3, 5, 0, 5, 9, NONE);
    }

    private static TimedJoin twoRuns() {
        TimedJoin x = new TimedJoin();
        x.add(0, 0, 0, 0, 9, 0);
        x.add(1, 0, 0, 5, 9, 0);
        x.add(1, 1, 0, 3, 4, 0);
        return x;
    }

    private void piecesOfEmptyRows() {
        s.says(16, "COVER of a ROW: from its START on, by places");
        piecesAre("EMPTY by nobody", against(-5, -5), 0, 0, -5, -5, NONE);
        piecesAre("EMPTY by one that goes on", against(-5, -5, -9, 9), 0, 0, -5, -5, 0);
        piecesAre("EMPTY by one that is EMPTY", against(-5, -5, -5, -5, -5, -5), 0, 0, -5, -5, 0);
        piecesAre("EMPTY by the one that goes on", against(-5, -5, -5, -5, -5, -4), 0, 0, -5, -5, 1);
        piecesAre("an EMPTY one at its START", against(-5, 9, -5, -5), 0, 0, -5, -5, 0, -5, 9, NONE);
        piecesAre("an EMPTY one inside", against(-5, 9, -2, -2), 0, 0, -5, -2, NONE, -2, -2, 0, -2, 9, NONE);
        piecesAre("an EMPTY one just inside", against(-5, 0, -1, -1), 0, 0, -5, -1, NONE, -1, -1, 0, -1, 0, NONE);
        piecesAre("an EMPTY one at its END", against(-5, 9, 9, 9), 0, 0, -5, 9, NONE);
        piecesAre("an EMPTY one, the next at the next time", against(0, 9, 3, 3, 4, 9), 0, 0,
            0, 3, NONE, 3, 3, 0, 3, 4, NONE, 4, 9, 1);
    }

    private void theMostPieces() {
        s.says(16, "and so on from there, till the ROW's END.");
        TimedJoin x = against(0, 200);
        for (int k = 0; k < 40; k++) {
            x.add(1, 0, 0, 5 * k + 1, 5 * k + 3, 0);
        }
        s.due("PIECES", x.row(0, 0, 8), 81);
        s.due("LEFT OVER", x.row(0, 0, 9), 41);
        s.due("how long", x.row(0, 0, 10), 80);
        for (int k = 0; k < 40; k++) {
            s.due("to " + k, x.piece(0, 0, 2 * k, 1), 5 * k + 1);
            s.due("by nobody ahead of " + k, x.piece(0, 0, 2 * k, 2), NONE);
            s.due("from " + k, x.piece(0, 0, 2 * k + 1, 0), 5 * k + 1);
            s.due("by " + k, x.piece(0, 0, 2 * k + 1, 2), k);
        }
        s.due("the last from", x.piece(0, 0, 80, 0), 198);
        s.due("the last to", x.piece(0, 0, 80, 1), 200);
        s.due("behind the last", x.piece(0, 0, 81, 0), NO_SUCH);
    }

    // ---- promise 17

    private void leftOverOfNone() {
        s.says(17, "i NONE: how many. NONE - 9999999 if there is none such, or another what.");
        TimedJoin none = new TimedJoin();
        s.due("no ROWS: how many", none.left(0, NONE, 0), 0);
        s.due("no ROWS", none.left(0, 0, 0), NO_SUCH);
        TimedJoin covered = against(0, 5, 0, 5);
        s.due("all covered: how many", covered.left(0, NONE, 0), 0);
        s.due("all covered", covered.left(0, 0, 0), NO_SUCH);
        TimedJoin x = against(0, 9, 2, 3);
        s.due("how many", x.left(0, NONE, 0), 2);
        s.due("how many of the RIGHT", x.left(1, NONE, 0), 0);
        for (int what = 0; what < 3; what++) {
            for (int i : new int[] {LEAST, -2, 2, 3, MOST}) {
                s.due("left(0, " + i + ", " + what + ")", x.left(0, i, what), NO_SUCH);
            }
            for (int side : NO_SIDES) {
                s.due("left(" + side + ", 0, " + what + ")", x.left(side, 0, what), NO_SUCH);
                s.due("left(" + side + ", NONE, " + what + ")", x.left(side, NONE, what), NO_SUCH);
            }
        }
        for (int what : new int[] {LEAST, -1, 3, 4, MOST}) {
            s.due("left(0, 0, " + what + ")", x.left(0, 0, what), NO_SUCH);
            s.due("left(0, 1, " + what + ")", x.left(0, 1, what), NO_SUCH);
        }
    }

    private void leftAre(String when, TimedJoin x, int side, int... want) {
        int count = want.length / 3;
        s.due(when + ": how many", x.left(side, NONE, 0), count);
        for (int i = 0; i < count; i++) {
            for (int what = 0; what < 3; what++) {
                s.due(when + ": left(" + side + ", " + i + ", " + what + ")", x.left(side, i, what), want[3 * i + what]);
            }
        }
        s.due(when + ": behind the last", x.left(side, count, 0), NO_SUCH);
    }

    private void leftOverByRows() {
        s.says(17, "of all ROWS of a SIDE, by ROWS, then as they come, what 0 the ROW, 1 from, 2 to");
        TimedJoin x = against(5, 12, 6, 7, 9, 10);
        x.add(0, 1, 0, 0, 8, 0);
        x.add(0, 1, 0, 6, 7, 0);
        x.add(0, 1, 3, 20, 20, 0);
        leftAre("by ROWS", x, 0, 0, 5, 6, 0, 7, 9, 0, 10, 12, 1, 0, 6, 1, 7, 8, 3, 20, 20);
        leftAre("of the RIGHT", x, 1);
        x.set(1, 0);
        leftAre("KINDS is the empty set", x, 1, 0, 6, 7, 1, 9, 10);
        TimedJoin all = new TimedJoin();
        for (int k = 0; k < 40; k++) {
            all.add(0, 0, 0, 0, 200, 0);
            all.add(1, 0, 0, 5 * k + 1, 5 * k + 3, 0);
        }
        s.due("the most of them", all.left(0, NONE, 0), 1640);
        s.due("the ROW of the last", all.left(0, 1639, 0), 39);
        s.due("the last from", all.left(0, 1639, 1), 198);
        s.due("the first of the last ROW", all.left(0, 1599, 1), 0);
        s.due("behind the last", all.left(0, 1640, 0), NO_SUCH);
    }

    // ---- promise 18

    private void kindsInAll() {
        s.says(18, "NONE if there is none such.");
        TimedJoin x = against(5, 9, 0, 4, 0, 5, 5, 9, 9, 12, 10, 12);
        for (int kind : new int[] {LEAST, -2, -1, 13, 14, MOST}) {
            s.due("kinds(" + kind + ")", x.kinds(kind), NONE);
        }
        s.says(18, "How many PARTNERS there are in all with a KIND (0 .. 12; LEFT ahead), KINDS aside.");
        int[] want = {1, 1, 0, 0, 0, 0, 1, 0, 0, 0, 0, 1, 1};
        for (int round = 0; round < 2; round++) {
            for (int kind = 0; kind < 13; kind++) {
                s.due("kinds(" + kind + ")", x.kinds(kind), want[kind]);
            }
            x.set(1, 0);
        }
        x.add(1, 1, 7, 0, 4, 0);
        s.due("one of another KEY", x.kinds(12), 1);
        x.set(0, 0);
        s.due("one of another KEY, KEYED is 0", x.kinds(12), 2);
        TimedJoin left = Sentences.inARow(0, 40);
        for (int kind = 0; kind < 13; kind++) {
            s.due("no ROWS of the RIGHT", left.kinds(kind), 0);
        }
        left.add(1, 0, 0, 38, 39, 0);
        s.due("40 of the LEFT, one of the RIGHT", left.kinds(0), 37);
        s.due("40 of the LEFT, one of the RIGHT, the last", left.kinds(11), 1);
        for (int k = 0; k < 39; k++) {
            left.add(1, 0, 0, 100, 101, 0);
        }
        s.due("all there can be", left.kinds(0), 37 + 39 * 40);
    }

    // ---- promise 19

    private void sharedOfNone() {
        s.says(19, "of a KEY of the LEFT (KEY NONE: of all). NONE if there is none such.");
        TimedJoin x = against(0, 5, 0, 4);
        x.add(0, 1, 9, 0, 5, 0);
        x.add(1, 1, 9, 3, 7, 0);
        for (int key : new int[] {LEAST, -2, 10, 11, MOST}) {
            s.due("shared(" + key + ")", x.shared(key), NONE);
        }
        s.due("shared(0)", x.shared(0), 4);
        s.due("shared(9)", x.shared(9), 2);
        s.due("shared(5), which no ROW has", x.shared(5), 0);
        s.due("shared(NONE)", x.shared(NONE), 6);
        x.set(0, 0);
        s.due("shared(0) across KEYS", x.shared(0), 6);
        s.due("shared(9) across KEYS", x.shared(9), 6);
        s.due("shared(NONE) across KEYS", x.shared(NONE), 12);
        x.set(1, 0);
        s.due("KINDS is the empty set", x.shared(NONE), 0);
        TimedJoin y = against(0, 5);
        y.add(1, 0, 9, 0, 4, 0);
        y.set(0, 0);
        s.due("a KEY of the LEFT", y.shared(0), 4);
        s.due("a KEY of the RIGHT alone", y.shared(9), 0);
    }

    private void sharedOfMany() {
        s.says(19, "LONG of all that PARTNERS SHARE together");
        s.due("an EMPTY one", against(0, 5, 3, 3).shared(NONE), 0);
        s.due("EMPTY ones alike", against(3, 3, 3, 3).shared(NONE), 0);
        s.due("one that only meets", against(0, 5, 5, 9).shared(NONE), 0);
        s.due("more of the RIGHT", against(0, 9, 0, 1, 2, 4, 5, 8).shared(NONE), 6);
        TimedJoin left = Sentences.inARow(0, 40);
        left.add(1, 0, 0, 30, 40, 0);
        s.due("more of the LEFT", left.shared(NONE), 10);
        left.set(1, 512);
        s.due("by no KIND, LEFT ahead", left.shared(NONE), 0);
        left.set(1, 8);
        s.due("by a KIND, LEFT ahead", left.shared(NONE), 1);
        s.due("all time", against(-1000000, 1000000, -1000000, 1000000).shared(0), 2000000);
        TimedJoin x = new TimedJoin();
        for (int k = 0; k < 40; k++) {
            x.add(0, 0, k % 2, -1000000, 1000000, 0);
            x.add(1, 0, k % 2, -1000000, 1000000, 0);
        }
        s.due("more than an int can hold", x.shared(NONE), 800L * 2000000L);
        s.due("of a KEY", x.shared(1), 400L * 2000000L);
        x.set(0, 0);
        s.due("more than an int can hold, across KEYS", x.shared(NONE), 1600L * 2000000L);
        s.due("of a KEY, across KEYS", x.shared(1), 800L * 2000000L);
    }

    // ---- promise 25

    private void splitOfNone() {
        s.says(25, "i NONE: how many parts. NONE - 9999999 if there is none such, or another what.");
        TimedJoin x = against(0, 9, 3, 5);
        s.due("how many", x.split(0, 0, NONE, 0), 3);
        for (int what = 0; what < 3; what++) {
            for (int i : new int[] {LEAST, -2, 3, 4, MOST}) {
                s.due("split(0, 0, " + i + ", " + what + ")", x.split(0, 0, i, what), NO_SUCH);
            }
            for (int row : new int[] {LEAST, -1, 1, 40, MOST}) {
                s.due("split(0, " + row + ", 0, " + what + ")", x.split(0, row, 0, what), NO_SUCH);
                s.due("split(0, " + row + ", NONE, " + what + ")", x.split(0, row, NONE, what), NO_SUCH);
            }
            for (int side : NO_SIDES) {
                s.due("split(" + side + ", 0, 0, " + what + ")", x.split(side, 0, 0, what), NO_SUCH);
                s.due("split(" + side + ", 0, NONE, " + what + ")", x.split(side, 0, NONE, what), NO_SUCH);
            }
        }
        for (int what : new int[] {LEAST, -1, 3, 4, 5, MOST}) {
            s.due("split(0, 0, 0, " + what + ")", x.split(0, 0, 0, what), NO_SUCH);
        }
    }

    private void splitBehindAndAhead() {
        s.says(25, "SPLIT of a ROW: by all STARTS and ENDS of its PARTNERS that lie behind its START and ahead of its END (places).");
        partsAre("no PARTNER", against(2, 5), 0, 0, 2, 5, 0);
        partsAre("one alike", against(2, 5, 2, 5), 0, 0, 2, 5, 1);
        partsAre("one around it", against(2, 5, 1, 6), 0, 0, 2, 5, 1);
        partsAre("START behind by 1", against(2, 5, 3, 5), 0, 0, 2, 3, 0, 3, 5, 1);
        partsAre("END ahead by 1", against(2, 5, 2, 4), 0, 0, 2, 4, 1, 4, 5, 0);
        partsAre("ones that only meet", against(2, 5, 0, 2, 5, 9), 0, 0, 2, 5, 0);
        partsAre("one's END is another's START", against(0, 9, 2, 5, 5, 7), 0, 0, 0, 2, 0, 2, 5, 1, 5, 7, 1, 7, 9, 0);
        partsAre("ones alike", against(0, 9, 2, 5, 2, 5), 0, 0, 0, 2, 0, 2, 5, 2, 5, 9, 0);
        TimedJoin x = against(0, 9, 2, 5);
        x.add(1, 0, 7, 3, 4, 0);
        partsAre("one of another KEY is no PARTNER", x, 0, 0, 0, 2, 0, 2, 5, 1, 5, 9, 0);
        x.set(1, 4);
        partsAre("one whose KIND is not of KINDS is no PARTNER", x, 0, 0, 0, 9, 0);
        partsAre("all time", against(-1000000, 1000000, -999999, 999999), 0, 0,
            -1000000, -999999, 0, -999999, 999999, 1, 999999, 1000000, 0);
    }

    private void splitOfEmpties() {
        s.says(25, "what 0 from, 1 to (times), 2 how many PARTNERS are there");
        partsAre("EMPTY, no PARTNER", against(-5, -5), 0, 0, -5, -5, 0);
        partsAre("EMPTY, two PARTNERS", against(-5, -5, -6, 9, -5, -5), 0, 0, -5, -5, 2);
        partsAre("an EMPTY one inside", against(-9, 9, -5, -5), 0, 0, -9, -5, 0, -5, -5, 1, -5, 9, 0);
        partsAre("an EMPTY one at its START", against(-5, 9, -5, -5), 0, 0, -5, -5, 1, -5, 9, 0);
        partsAre("an EMPTY one just inside", against(-5, 0, -1, -1), 0, 0, -5, -1, 0, -1, -1, 1, -1, 0, 0);
        partsAre("an EMPTY one at its END", against(-5, 0, 0, 0), 0, 0, -5, 0, 0);
        partsAre("an EMPTY one and another from there on", against(0, 9, 3, 3, 3, 4), 0, 0,
            0, 3, 0, 3, 3, 2, 3, 4, 1, 4, 9, 0);
    }

    private void theMostParts() {
        s.says(25, "by all STARTS and ENDS of its PARTNERS");
        TimedJoin x = against(0, 200);
        for (int k = 0; k < 40; k++) {
            x.add(1, 0, 0, k + 1, 100 + k, 0);
        }
        s.due("how many", x.split(0, 0, NONE, 0), 81);
        for (int k = 0; k < 40; k++) {
            s.due("PARTNERS in " + k, x.split(0, 0, k, 2), k);
            s.due("PARTNERS behind END " + k, x.split(0, 0, 41 + k, 2), 39 - k);
        }
        s.due("all 40", x.split(0, 0, 40, 2), 40);
        s.due("all 40 from", x.split(0, 0, 40, 0), 40);
        s.due("all 40 to", x.split(0, 0, 40, 1), 100);
        s.due("the last from", x.split(0, 0, 80, 0), 139);
        s.due("the last to", x.split(0, 0, 80, 1), 200);
        s.due("behind the last", x.split(0, 0, 81, 0), NO_SUCH);
    }

    // ---- promise 26

    private void latestOfNone() {
        s.says(26, "LATEST; NONE if there is none (such).");
        TimedJoin x = against(0, 5, 0, 5);
        for (int row : new int[] {LEAST, -2, -1, 1, 40, MOST}) {
            s.due("latest(0, " + row + ")", x.latest(0, row), NONE);
        }
        for (int side : NO_SIDES) {
            s.due("latest(" + side + ", 0)", x.latest(side, 0), NONE);
        }
        s.due("no ROWS of the other SIDE", against(0, 5).latest(0, 0), NONE);
        s.due("one, which is later by 1", against(0, 5, 1, 5).latest(0, 0), NONE);
    }

    private void latestNoLater() {
        s.says(26, "whose START (place) is no later than its own the one with the latest START, of several the least");
        s.due("alike", against(0, 5, 0, 9).latest(0, 0), 0);
        s.due("alike, both EMPTY", against(0, 0, 0, 0).latest(0, 0), 0);
        s.due("it has ended long ago", against(1000000, 1000000, -1000000, -1000000).latest(0, 0), 0);
        s.due("the latest", against(5, 9, 3, 3, 4, 4, 6, 6).latest(0, 0), 1);
        s.due("several", against(5, 9, 3, 3, 4, 4, 4, 9, 4, 7).latest(0, 0), 1);
        TimedJoin runs = against(5, 9, 3, 3);
        runs.add(1, 1, 0, 2, 9, 0);
        s.due("one told later", runs.latest(0, 0), 0);
        s.due("one that has ended, another that has not", against(5, 9, 3, 9, 4, 4).latest(0, 0), 1);
        TimedJoin left = Sentences.inARow(0, 40);
        left.add(1, 0, 0, 7, 7, 0);
        left.add(1, 0, 0, 1000000, 1000000, 0);
        s.due("of the RIGHT, alike", left.latest(1, 0), 7);
        s.due("of the RIGHT, all are ahead", left.latest(1, 1), 39);
        s.due("of the LEFT, the only one ahead", left.latest(0, 39), 0);
        s.due("of the LEFT, none is ahead", left.latest(0, 6), NONE);
        s.says(26, "(of its KEY, if KEYED is 1)");
        TimedJoin x = against(5, 9, 3, 3);
        x.add(1, 0, 7, 4, 4, 0);
        s.due("KEYED is 1", x.latest(0, 0), 0);
        s.due("of the RIGHT", x.latest(1, 1), NONE);
        x.set(0, 0);
        s.due("KEYED is 0", x.latest(0, 0), 1);
        x.set(1, 0);
        s.due("KINDS are nothing to it", x.latest(0, 0), 1);
    }

    // ---- promise 27

    private void matchedSets() {
        s.says(27, "NONE if there is no such SIDE (a set is never that).");
        TimedJoin x = new TimedJoin();
        for (int side : NO_SIDES) {
            s.due("matched(" + side + ", true)", x.matched(side, true), NONE);
            s.due("matched(" + side + ", false)", x.matched(side, false), NONE);
        }
        s.says(27, "ROWS of a SIDE that have PARTNERS (has), or none, as a set (bit k for ROW k).");
        s.due("no ROWS, has", x.matched(0, true), 0);
        s.due("no ROWS, none", x.matched(0, false), 0);
        TimedJoin all = Sentences.inARow(0, 40);
        s.due("40 ROWS, has", all.matched(0, true), 0);
        s.due("40 ROWS, none", all.matched(0, false), (1L << 40) - 1);
        all.add(1, 0, 0, 39, 40, 0);
        s.due("the last has", all.matched(0, true), 1L << 39);
        s.due("the others have none", all.matched(0, false), (1L << 39) - 1);
        all.add(1, 1, 0, 31, 33, 0);
        s.due("bits 31, 32, 39", all.matched(0, true), (1L << 39) + (1L << 32) + (1L << 31));
        s.due("of the RIGHT", all.matched(1, true), 3);
        all.add(1, 2, 0, 0, 40, 0);
        s.due("all have", all.matched(0, true), (1L << 40) - 1);
        s.due("none has none", all.matched(0, false), 0);
        all.set(1, 0);
        s.due("KINDS is the empty set", all.matched(0, true), 0);
        s.due("KINDS is the empty set: none", all.matched(1, false), 7);
    }
}
