/** Boundary cases of promises 20 to 24, 28 and 29: ROWS of a KEY, LIVE, CROWD, MADE ONE, STEPS, LANES, ROW OF ROWS. */
public final class BoundariesOfKeysTest {
    private static final int NONE = Sentences.NONE;
    private static final int NO_SUCH = Sentences.NO_SUCH;
    private static final int LEAST = Sentences.LEAST;
    private static final int MOST = Sentences.MOST;
    private static final int[] NO_SIDES = {LEAST, -2, -1, 2, MOST};
    private static final int[] NO_KEYS = {LEAST, -2, 10, 11, MOST};

    private final Sentences s = new Sentences("BoundariesOfKeysTest");

    public static void main(String[] args) {
        BoundariesOfKeysTest test = new BoundariesOfKeysTest();
        test.weightOfNone();
        test.weightOfMany();
        test.liveOfNone();
        test.liveFromUntil();
        test.crowdOfNone();
        test.crowdAtOneTime();
        test.oneOfNone();
        test.oneThatTouch();
        test.oneOfLikeRows();
        test.oneInOrder();
        test.theMostSpans();
        test.stepsOfNone();
        test.stepsInWhichSomeAreLive();
        test.stepsOfEmpties();
        test.stepsThatWrap();
        test.theMostSteps();
        test.laneOfNone();
        test.leastLane();
        test.theMostLanes();
        test.chainOfNone();
        test.chainByEnds();
        test.theLongestChain();
        test.s.end(20, 21, 22, 23, 24, 28, 29);
    }

    /** ROWS of the LEFT with KEY 0, VALUE 1, each by its START and END, in RUN 0; they come by their STARTS. */
    private static TimedJoin rows(int... startsAndEnds) {
        TimedJoin x = new TimedJoin();
        for (int k = 0; k < startsAndEnds.length / 2; k++) {
            x.add(0, 0, 0, startsAndEnds[2 * k], startsAndEnds[2 * k + 1], 1);
        }
        return x;
    }

    // ---- promise 20

    private void weightOfNone() {
        s.says(20, "NONE if there is none such (a sum may be NONE, too).");
        TimedJoin x = new TimedJoin();
        x.add(0, 0, 0, 0, 1, NONE);
        x.add(0, 0, 9, 0, 3, 7);
        for (int key : NO_KEYS) {
            s.due("weight(0, " + key + ")", x.weight(0, key), NONE);
        }
        s.due("weight(0, NONE)", x.weight(0, NONE), NONE);
        for (int side : NO_SIDES) {
            s.due("weight(" + side + ", 9)", x.weight(side, 9), NONE);
        }
        s.due("a sum that is NONE", x.weight(0, 0), NONE);
        s.due("KEY 9", x.weight(0, 9), 21);
        s.due("a KEY that no ROW has", x.weight(0, 5), 0);
        s.due("the other SIDE", x.weight(1, 9), 0);
    }

    private void weightOfMany() {
        s.says(20, "VALUES of ROWS of a SIDE times LONG, of a KEY, together.");
        TimedJoin x = new TimedJoin();
        x.add(0, 0, 0, 5, 5, MOST);
        s.due("EMPTY", x.weight(0, 0), 0);
        x.add(0, 0, 0, 5, 7, MOST);
        s.due("more than an int can hold", x.weight(0, 0), 2L * MOST);
        x.add(0, 0, 0, 5, 7, LEAST);
        s.due("one against another", x.weight(0, 0), -2);
        TimedJoin all = new TimedJoin();
        for (int k = 0; k < 40; k++) {
            all.add(0, 0, 3, -1000000, 1000000, LEAST);
            all.add(1, 0, 3, -1000000, 1000000, MOST);
        }
        s.due("the least", all.weight(0, 3), 80000000L * LEAST);
        s.due("the greatest", all.weight(1, 3), 80000000L * MOST);
    }

    // ---- promise 21

    private void liveOfNone() {
        s.says(21, "NONE if there is none such (-1000000 .. 1000000).");
        TimedJoin x = new TimedJoin();
        x.add(1, 0, 0, -1000000, -1000000, 0);
        x.add(1, 0, 9, -1000000, 1000000, 0);
        x.add(1, 0, 0, 1000000, 1000000, 0);
        for (int time : new int[] {LEAST, -1000001, 1000001, MOST, 1073741824, -1073741824}) {
            s.due("live(1, 0, " + time + ")", x.live(1, 0, time), NONE);
            s.due("live(1, NONE, " + time + ")", x.live(1, NONE, time), NONE);
        }
        for (int key : NO_KEYS) {
            s.due("live(1, " + key + ", 0)", x.live(1, key, 0), NONE);
        }
        for (int side : NO_SIDES) {
            s.due("live(" + side + ", 0, 0)", x.live(side, 0, 0), NONE);
            s.due("live(" + side + ", NONE, 0)", x.live(side, NONE, 0), NONE);
        }
        s.due("the first time", x.live(1, 0, -1000000), 1);
        s.due("the last time", x.live(1, 0, 1000000), 1);
        s.says(21, "How many ROWS of a SIDE with a KEY (NONE: of all) are LIVE at a time.");
        s.due("of all, the first time", x.live(1, NONE, -1000000), 2);
        s.due("of all, between", x.live(1, NONE, 0), 1);
        s.due("of all, the last time", x.live(1, NONE, 1000000), 1);
        s.due("KEY 9, the last time", x.live(1, 9, 1000000), 0);
        s.due("KEY 9, the last time but one", x.live(1, 9, 999999), 1);
        s.due("of no ROWS", x.live(0, NONE, 0), 0);
        TimedJoin all = new TimedJoin();
        for (int k = 0; k < 40; k++) {
            all.add(0, 0, k % 2, 0, 1, 0);
        }
        s.due("of 40", all.live(0, NONE, 0), 40);
        s.due("of 20 of them", all.live(0, 1, 0), 20);
    }

    private void liveFromUntil() {
        s.says(21, "A ROW is LIVE at a time t, if 2 t is no less than the place of START, and less than that of END.");
        TimedJoin x = rows(-3, 4);
        s.due("ahead of START", x.live(0, 0, -4), 0);
        s.due("at START", x.live(0, 0, -3), 1);
        s.due("ahead of END", x.live(0, 0, 3), 1);
        s.due("at END", x.live(0, 0, 4), 0);
        TimedJoin empty = rows(-3, -3);
        s.due("EMPTY, ahead", empty.live(0, 0, -4), 0);
        s.due("EMPTY, there", empty.live(0, 0, -3), 1);
        s.due("EMPTY, behind", empty.live(0, 0, -2), 0);
    }

    // ---- promise 22

    private void crowdOfNone() {
        s.says(22, "1 the time (no ROWS: 0). NONE - 9999999 if there is none such, or another what.");
        TimedJoin x = new TimedJoin();
        x.add(0, 0, 9, 7, 8, 0);
        s.due("no ROWS: how many", x.crowd(0, 0), 0);
        s.due("no ROWS: the time", x.crowd(0, 1), 0);
        s.due("KEY 9: how many", x.crowd(9, 0), 1);
        s.due("KEY 9: the time", x.crowd(9, 1), 7);
        for (int what = 0; what < 2; what++) {
            for (int key : NO_KEYS) {
                s.due("crowd(" + key + ", " + what + ")", x.crowd(key, what), NO_SUCH);
            }
            s.due("crowd(NONE, " + what + ")", x.crowd(NONE, what), NO_SUCH);
        }
        for (int what : new int[] {LEAST, -2, -1, 2, 3, MOST}) {
            s.due("crowd(9, " + what + ")", x.crowd(9, what), NO_SUCH);
            s.due("crowd(0, " + what + ")", x.crowd(0, what), NO_SUCH);
        }
    }

    private void crowdIs(String when, TimedJoin x, int count, int time) {
        s.due(when + ": how many", x.crowd(0, 0), count);
        s.due(when + ": the time", x.crowd(0, 1), time);
    }

    private void crowdAtOneTime() {
        s.says(22, "CROWD of a KEY: the most ROWS of it, of both SIDES, that are LIVE at one time; the first such time (START of a ROW).");
        crowdIs("ones that only meet", rows(-9, -5, -5, 0), 1, -9);
        crowdIs("ones that SHARE by 1", rows(-9, -4, -5, 0), 2, -5);
        crowdIs("an EMPTY one at the END of one", rows(-9, -5, -5, -5), 1, -9);
        crowdIs("an EMPTY one and one from there on", rows(-9, -5, -5, -5, -5, 0), 2, -5);
        crowdIs("two times", rows(2, 4, 3, 4, 7, 9, 8, 9), 2, 3);
        crowdIs("at time 0", rows(0, 1, 5, 6), 1, 0);
        crowdIs("the first time", rows(-1000000, -1000000), 1, -1000000);
        crowdIs("the last time", rows(1000000, 1000000), 1, 1000000);
        TimedJoin x = rows(4, 5);
        x.add(0, 1, 0, 2, 3, 0);
        x.add(1, 0, 0, -6, -5, 0);
        crowdIs("the first such time, told last", x, 1, -6);
        x.add(1, 0, 7, 4, 5, 0);
        crowdIs("one of another KEY", x, 1, -6);
        x.add(1, 0, 0, 4, 5, 0);
        crowdIs("of both SIDES", x, 2, 4);
        x.set(0, 0);
        x.set(1, 0);
        crowdIs("settings are nothing to it", x, 2, 4);
        TimedJoin meets = rows(4, 5);
        meets.add(0, 1, 0, 2, 4, 0);
        crowdIs("the first such time, of one that ends at the other", meets, 1, 2);
        TimedJoin all = new TimedJoin();
        for (int k = 0; k < 40; k++) {
            all.add(0, 0, 0, 0, 9, 0);
            all.add(1, 0, 0, 8, 8, 0);
        }
        crowdIs("all there can be", all, 80, 8);
    }

    // ---- promise 23

    private void spansAre(String when, TimedJoin x, int side, int... want) {
        int count = want.length / 5;
        s.due(when + ": how many", x.one(side, NONE, 0), count);
        for (int i = 0; i < count; i++) {
            for (int what = 0; what < 5; what++) {
                s.due(when + ": one(" + side + ", " + i + ", " + what + ")", x.one(side, i, what), want[5 * i + what]);
            }
        }
        s.due(when + ": behind the last", x.one(side, count, 0), NO_SUCH);
    }

    private void oneOfNone() {
        s.says(23, "i NONE: how many. NONE - 9999999 if there is none such, or another what (a VALUE may be that).");
        TimedJoin x = new TimedJoin();
        spansAre("no ROWS", x, 0);
        x.add(0, 0, 0, 0, 5, NO_SUCH);
        x.add(0, 0, 9, 0, 5, 2);
        s.due("how many", x.one(0, NONE, 0), 2);
        s.due("a VALUE that is that", x.one(0, 0, 3), NO_SUCH);
        s.due("how many ROWS it is made of", x.one(0, 0, 4), 1);
        for (int what = 0; what < 5; what++) {
            for (int i : new int[] {LEAST, -2, 2, 3, MOST}) {
                s.due("one(0, " + i + ", " + what + ")", x.one(0, i, what), NO_SUCH);
            }
            for (int side : NO_SIDES) {
                s.due("one(" + side + ", 0, " + what + ")", x.one(side, 0, what), NO_SUCH);
                s.due("one(" + side + ", NONE, " + what + ")", x.one(side, NONE, what), NO_SUCH);
            }
        }
        for (int what : new int[] {LEAST, -1, 5, 6, MOST}) {
            s.due("one(0, 0, " + what + ")", x.one(0, 0, what), NO_SUCH);
            s.due("one(0, 1, " + what + ")", x.one(0, 1, what), NO_SUCH);
        }
    }

    private void oneThatTouch() {
        s.says(23, "that SHARE, or of which one's END is the other's START (kinds 1 .. 11), one after the other, are one SPAN from the least START to the latest END");
        spansAre("they SHARE", rows(0, 5, 3, 9), 0, 0, 0, 9, 1, 2);
        spansAre("they SHARE by 1", rows(0, 5, 4, 9), 0, 0, 0, 9, 1, 2);
        spansAre("END is START", rows(0, 5, 5, 9), 0, 0, 0, 9, 1, 2);
        spansAre("END is less than START by 1", rows(0, 4, 5, 9), 0, 0, 0, 4, 1, 1, 0, 5, 9, 1, 1);
        spansAre("one inside", rows(0, 9, 3, 4), 0, 0, 0, 9, 1, 2);
        spansAre("one inside, the next at the END of the longer", rows(0, 9, 3, 4, 9, 12), 0, 0, 0, 12, 1, 3);
        spansAre("one after the other", rows(0, 2, 1, 3, 2, 4, 4, 5), 0, 0, 0, 5, 1, 4);
        spansAre("alike", rows(0, 2, 0, 2), 0, 0, 0, 2, 1, 2);
        spansAre("EMPTY alike", rows(-3, -3, -3, -3), 0, 0, -3, -3, 1, 2);
        spansAre("EMPTY at one's END", rows(-9, -3, -3, -3), 0, 0, -9, -3, 1, 2);
        spansAre("EMPTY at one's START", rows(-3, -3, -3, 0), 0, 0, -3, 0, 1, 2);
        spansAre("EMPTY at one's END, one from there on", rows(-9, -3, -3, -3, -3, 0), 0, 0, -9, 0, 1, 3);
        spansAre("EMPTY, the next time", rows(-3, -3, -2, 0), 0, 0, -3, -3, 1, 1, 0, -2, 0, 1, 1);
        spansAre("EMPTY ones next to one another", rows(-3, -3, -2, -2), 0, 0, -3, -3, 1, 1, 0, -2, -2, 1, 1);
        spansAre("EMPTY at one's END, the next time", rows(-9, -3, -3, -3, -2, 0), 0, 0, -9, -3, 1, 2, 0, -2, 0, 1, 1);
        TimedJoin runs = rows(5, 9);
        runs.add(0, 1, 0, 0, 5, 1);
        spansAre("told the other way round", runs, 0, 0, 0, 9, 1, 2);
        spansAre("all time", rows(-1000000, 0, 0, 1000000), 0, 0, -1000000, 1000000, 1, 2);
    }

    private void oneOfLikeRows() {
        s.says(23, "MADE ONE: ROWS of a SIDE with one KEY, one VALUE");
        TimedJoin x = rows(0, 5);
        x.add(0, 0, 1, 0, 5, 1);
        spansAre("another KEY", x, 0, 0, 0, 5, 1, 1, 1, 0, 5, 1, 1);
        TimedJoin y = rows(0, 5);
        y.add(0, 0, 0, 0, 5, 2);
        spansAre("another VALUE", y, 0, 0, 0, 5, 1, 1, 0, 0, 5, 2, 1);
        TimedJoin z = rows(0, 5);
        z.add(1, 0, 0, 0, 5, 1);
        spansAre("another SIDE", z, 0, 0, 0, 5, 1, 1);
        spansAre("another SIDE, of it", z, 1, 0, 0, 5, 1, 1);
        TimedJoin w = rows(0, 5);
        w.add(0, 1, 0, 2, 7, 2);
        w.add(0, 2, 0, 5, 9, 1);
        spansAre("one of another VALUE between", w, 0, 0, 0, 9, 1, 2, 0, 2, 7, 2, 1);
    }

    private void oneInOrder() {
        s.says(23, "by KEY, then START (place), then VALUE.");
        TimedJoin x = new TimedJoin();
        x.add(0, 0, 9, -9, -9, 0);
        x.add(0, 0, 0, 5, 5, MOST);
        x.add(0, 0, 0, 5, 9, LEAST);
        x.add(0, 0, 0, 5, 7, NONE);
        x.add(0, 0, 0, 5, 6, 0);
        x.add(0, 1, 0, 4, 4, MOST);
        x.add(0, 1, 4, 8, 8, 0);
        x.add(0, 2, 4, -8, -8, 1);
        spansAre("by all three", x, 0,
            0, 4, 4, MOST, 1, 0, 5, 9, LEAST, 1, 0, 5, 7, NONE, 1, 0, 5, 6, 0, 1, 0, 5, 5, MOST, 1,
            4, -8, -8, 1, 1, 4, 8, 8, 0, 1, 9, -9, -9, 0, 1);
    }

    private void theMostSpans() {
        s.says(23, "4 how many ROWS it is made of");
        TimedJoin one = new TimedJoin();
        TimedJoin apart = new TimedJoin();
        for (int k = 0; k < 40; k++) {
            one.add(0, 0, 3, k, k + 1, 8);
            apart.add(0, 0, 3, k, k, 8);
        }
        spansAre("40 made one", one, 0, 3, 0, 40, 8, 40);
        s.due("40 apart: how many", apart.one(0, NONE, 0), 40);
        for (int k = 0; k < 40; k++) {
            s.due("40 apart: START of " + k, apart.one(0, k, 1), k);
            s.due("40 apart: ROWS of " + k, apart.one(0, k, 4), 1);
        }
        s.due("40 apart: behind the last", apart.one(0, 40, 0), NO_SUCH);
    }

    // ---- promise 24

    private void stepsAre(String when, TimedJoin x, int key, int... want) {
        int count = want.length / 4;
        s.due(when + ": how many", x.steps(key, NONE, 0), count);
        for (int i = 0; i < count; i++) {
            for (int what = 0; what < 4; what++) {
                s.due(when + ": steps(" + key + ", " + i + ", " + what + ")", x.steps(key, i, what), want[4 * i + what]);
            }
        }
        s.due(when + ": behind the last", x.steps(key, count, 0), NO_SUCH);
    }

    private void stepsOfNone() {
        s.says(24, "i NONE: how many. NONE - 9999999 if there is none such, or another what (VALUES may be that).");
        TimedJoin x = new TimedJoin();
        stepsAre("no ROWS", x, 0);
        x.add(0, 0, 9, 0, 5, NO_SUCH);
        stepsAre("no ROWS of the KEY", x, 0);
        stepsAre("VALUES that are that", x, 9, 0, 5, 1, NO_SUCH);
        for (int what = 0; what < 4; what++) {
            for (int i : new int[] {LEAST, -2, 1, 2, MOST}) {
                s.due("steps(9, " + i + ", " + what + ")", x.steps(9, i, what), NO_SUCH);
            }
            for (int key : NO_KEYS) {
                s.due("steps(" + key + ", 0, " + what + ")", x.steps(key, 0, what), NO_SUCH);
                s.due("steps(" + key + ", NONE, " + what + ")", x.steps(key, NONE, what), NO_SUCH);
            }
            s.due("steps(NONE, 0, " + what + ")", x.steps(NONE, 0, what), NO_SUCH);
        }
        s.due("steps(NONE, NONE, 0)", x.steps(NONE, NONE, 0), NO_SUCH);
        for (int what : new int[] {LEAST, -1, 4, 5, MOST}) {
            s.due("steps(9, 0, " + what + ")", x.steps(9, 0, what), NO_SUCH);
        }
    }

    private void stepsInWhichSomeAreLive() {
        s.says(24, "those spans between two such next to one another in which some are LIVE, in their order.");
        stepsAre("one", rows(0, 5), 0, 0, 5, 1, 1);
        stepsAre("ones alike", rows(0, 5, 0, 5), 0, 0, 5, 2, 2);
        stepsAre("a gap", rows(0, 5, 7, 9), 0, 0, 5, 1, 1, 7, 9, 1, 1);
        stepsAre("a gap of 1", rows(0, 5, 6, 9), 0, 0, 5, 1, 1, 6, 9, 1, 1);
        stepsAre("END is START", rows(0, 5, 5, 9), 0, 0, 5, 1, 1, 5, 9, 1, 1);
        stepsAre("they SHARE by 1", rows(0, 5, 4, 9), 0, 0, 4, 1, 1, 4, 5, 2, 2, 5, 9, 1, 1);
        stepsAre("all time", rows(-1000000, 1000000), 0, -1000000, 1000000, 1, 1);
        TimedJoin x = rows(3, 8);
        x.add(1, 0, 0, 0, 5, 10);
        x.add(1, 1, 6, 1, 2, 10);
        stepsAre("of both SIDES, of one KEY", x, 0, 0, 3, 1, 10, 3, 5, 2, 11, 5, 8, 1, 1);
        x.set(0, 0);
        x.set(1, 0);
        stepsAre("settings are nothing to it", x, 0, 0, 3, 1, 10, 3, 5, 2, 11, 5, 8, 1, 1);
        stepsAre("another KEY behind it", x, 6, 1, 2, 1, 10);
        stepsAre("the KEY again", x, 0, 0, 3, 1, 10, 3, 5, 2, 11, 5, 8, 1, 1);
    }

    private void stepsOfEmpties() {
        s.says(24, "times at which ROWS of it, of both SIDES, begin or end part all time (by places)");
        stepsAre("EMPTY", rows(-5, -5), 0, -5, -5, 1, 1);
        stepsAre("EMPTY alike", rows(-5, -5, -5, -5), 0, -5, -5, 2, 2);
        stepsAre("EMPTY ones next to one another", rows(-5, -5, -4, -4), 0, -5, -5, 1, 1, -4, -4, 1, 1);
        stepsAre("EMPTY inside", rows(-9, 0, -5, -5), 0, -9, -5, 1, 1, -5, -5, 2, 2, -5, 0, 1, 1);
        stepsAre("EMPTY at START", rows(-5, 0, -5, -5), 0, -5, -5, 2, 2, -5, 0, 1, 1);
        stepsAre("EMPTY at END", rows(-9, -5, -5, -5), 0, -9, -5, 1, 1, -5, -5, 1, 1);
        stepsAre("EMPTY and one of 1", rows(-5, -5, -5, -4), 0, -5, -5, 2, 2, -5, -4, 1, 1);
    }

    private void stepsThatWrap() {
        s.says(24, "3 their VALUES together (an int, which wraps)");
        TimedJoin x = new TimedJoin();
        x.add(0, 0, 0, 0, 9, MOST);
        x.add(1, 0, 0, 1, 8, 1);
        x.add(0, 0, 0, 2, 7, MOST);
        x.add(1, 0, 0, 3, 6, 1);
        stepsAre("over the greatest", x, 0, 0, 1, 1, MOST, 1, 2, 2, LEAST, 2, 3, 3, NONE, 3, 6, 4, 0, 6, 7, 3, NONE,
            7, 8, 2, LEAST, 8, 9, 1, MOST);
        TimedJoin y = new TimedJoin();
        y.add(0, 0, 0, 0, 9, LEAST);
        y.add(0, 0, 0, 1, 9, NONE);
        stepsAre("under the least", y, 0, 0, 1, 1, LEAST, 1, 9, 2, MOST);
        TimedJoin z = new TimedJoin();
        z.add(0, 0, 0, 0, 9, NO_SUCH + 7);
        z.add(1, 0, 0, 0, 9, -7);
        stepsAre("VALUES that are NONE - 9999999", z, 0, 0, 9, 2, NO_SUCH);
    }

    private void theMostSteps() {
        s.says(24, "Of the i-th of STEPS of a KEY what 0 from, 1 to (times), 2 how many are LIVE");
        TimedJoin x = new TimedJoin();
        for (int k = 0; k < 40; k++) {
            x.add(0, 0, 0, 2 * k, 200 + 2 * k, 1);
            x.add(1, 0, 0, 2 * k + 1, 201 + 2 * k, 1);
        }
        s.due("how many", x.steps(0, NONE, 0), 159);
        for (int i = 0; i < 80; i++) {
            s.due("from " + i, x.steps(0, i, 0), i);
            s.due("LIVE in " + i, x.steps(0, i, 2), i + 1);
        }
        s.due("all 80 to", x.steps(0, 79, 1), 200);
        s.due("all 80: VALUES", x.steps(0, 79, 3), 80);
        s.due("the last from", x.steps(0, 158, 0), 278);
        s.due("the last to", x.steps(0, 158, 1), 279);
        s.due("LIVE in the last", x.steps(0, 158, 2), 1);
        s.due("behind the last", x.steps(0, 159, 0), NO_SUCH);
    }

    // ---- promise 28

    private void laneOfNone() {
        s.says(28, "The LANE of a ROW. NONE if there is none such.");
        TimedJoin x = rows(0, 5);
        for (int row : new int[] {LEAST, -2, -1, 1, 40, MOST}) {
            s.due("lane(0, " + row + ")", x.lane(0, row), NONE);
        }
        for (int side : NO_SIDES) {
            s.due("lane(" + side + ", 0)", x.lane(side, 0), NONE);
        }
        s.due("lane(1, 0)", x.lane(1, 0), NONE);
        s.due("lane(0, 0)", x.lane(0, 0), 0);
    }

    private void lanesAre(String when, TimedJoin x, int... want) {
        for (int k = 0; k < want.length; k++) {
            s.due(when + ": lane(0, " + k + ")", x.lane(0, k), want[k]);
        }
    }

    private void leastLane() {
        s.says(28, "one by one each in the least LANE (from 0 on) in which none is with which it SHARES.");
        lanesAre("END is START", rows(0, 5, 5, 9), 0, 0);
        lanesAre("they SHARE by 1", rows(0, 5, 4, 9), 0, 1);
        lanesAre("EMPTY at END", rows(0, 5, 5, 5), 0, 0);
        lanesAre("EMPTY inside", rows(0, 5, 4, 4), 0, 1);
        lanesAre("EMPTY, one from there on", rows(5, 5, 5, 9), 0, 1);
        lanesAre("EMPTY alike", rows(5, 5, 5, 5, 5, 5), 0, 1, 2);
        lanesAre("EMPTY ones next to one another", rows(5, 5, 6, 6), 0, 0);
        lanesAre("the least that is free", rows(0, 9, 1, 3, 2, 9, 3, 4, 3, 4, 9, 9), 0, 1, 2, 1, 3, 0);
        lanesAre("one ahead of the last of a LANE", rows(0, 9, 1, 2, 3, 4, 5, 6), 0, 1, 1, 1);
        s.says(28, "LANES of a SIDE and KEY: its ROWS by START (place), then number");
        TimedJoin x = rows(4, 9);
        x.add(0, 1, 0, 4, 9, 0);
        x.add(0, 2, 0, 0, 5, 0);
        lanesAre("by START, then number", x, 1, 2, 0);
        x.add(0, 3, 7, 0, 9, 0);
        x.add(1, 3, 0, 0, 9, 0);
        lanesAre("another KEY", x, 1, 2, 0, 0);
        s.due("another SIDE", x.lane(1, 0), 0);
        x.set(0, 0);
        lanesAre("KEYED is nothing to it", x, 1, 2, 0, 0);
    }

    private void theMostLanes() {
        s.says(28, "each in the least LANE (from 0 on)");
        TimedJoin all = new TimedJoin();
        for (int k = 0; k < 40; k++) {
            all.add(0, 0, 0, -1000000, 1000000, 0);
        }
        for (int k = 0; k < 40; k++) {
            s.due("40 that SHARE", all.lane(0, k), k);
        }
        s.due("40 one behind another", Sentences.inARow(0, 40).lane(0, 39), 0);
    }

    // ---- promise 29

    private void chainOfNone() {
        s.says(29, "i NONE: how many. NONE if there is none such.");
        TimedJoin x = rows(0, 5);
        s.due("how many", x.chain(0, 0, NONE), 1);
        for (int i : new int[] {LEAST, -2, 1, 40, MOST}) {
            s.due("chain(0, 0, " + i + ")", x.chain(0, 0, i), NONE);
        }
        for (int key : NO_KEYS) {
            s.due("chain(0, " + key + ", 0)", x.chain(0, key, 0), NONE);
            s.due("chain(0, " + key + ", NONE)", x.chain(0, key, NONE), NONE);
        }
        s.due("chain(0, NONE, 0)", x.chain(0, NONE, 0), NONE);
        s.due("chain(0, NONE, NONE)", x.chain(0, NONE, NONE), NONE);
        for (int side : NO_SIDES) {
            s.due("chain(" + side + ", 0, 0)", x.chain(side, 0, 0), NONE);
            s.due("chain(" + side + ", 0, NONE)", x.chain(side, 0, NONE), NONE);
        }
        s.due("no ROWS of the KEY: how many", x.chain(0, 9, NONE), 0);
        s.due("no ROWS of the KEY", x.chain(0, 9, 0), NONE);
        s.due("no ROWS of the SIDE: how many", x.chain(1, 0, NONE), 0);
    }

    private void chainIs(String when, TimedJoin x, int... want) {
        s.due(when + ": how many", x.chain(0, 0, NONE), want.length);
        for (int i = 0; i < want.length; i++) {
            s.due(when + ": chain(0, 0, " + i + ")", x.chain(0, 0, i), want[i]);
        }
        s.due(when + ": behind the last", x.chain(0, 0, want.length), NONE);
    }

    private void chainByEnds() {
        s.says(29, "of these by END (place), then number: the first, then always the first that SHARES with none ahead.");
        chainIs("END is START", rows(0, 5, 5, 9), 0, 1);
        chainIs("they SHARE by 1", rows(0, 5, 4, 9), 0);
        chainIs("the first END", rows(0, 9, 1, 4, 5, 7), 1, 2);
        chainIs("alike: the least number", rows(0, 5, 0, 5), 0);
        chainIs("ENDS alike: the least number, not the shortest", rows(0, 5, 4, 5), 0);
        chainIs("EMPTY at END", rows(-9, -5, -5, -5), 0, 1);
        chainIs("EMPTY at END, one from there on", rows(-9, -5, -5, -5, -5, 0), 0, 1);
        chainIs("EMPTY at START", rows(-5, 0, -5, -5), 1);
        chainIs("EMPTY alike", rows(-5, -5, -5, -5), 0);
        chainIs("EMPTY ones next to one another", rows(-5, -5, -4, -4), 0, 1);
        chainIs("EMPTY ends behind one that ends there", rows(-9, -5, -5, -5, -5, -5), 0, 1);
        chainIs("from the first time on", rows(-1000000, -1000000, -999999, 1000000, 1000000, 1000000), 0, 1, 2);
        TimedJoin x = rows(5, 9);
        x.add(0, 1, 0, 0, 5, 0);
        x.add(0, 2, 3, 0, 1, 0);
        x.add(1, 2, 0, 0, 1, 0);
        chainIs("by END, not by number; of one SIDE and KEY", x, 1, 0);
        s.due("another KEY", x.chain(0, 3, 0), 2);
        s.due("another SIDE", x.chain(1, 0, 0), 0);
    }

    private void theLongestChain() {
        s.says(29, "ROW OF ROWS: the most ROWS of a SIDE and KEY of which no two SHARE");
        TimedJoin x = Sentences.inARow(0, 40);
        s.due("how many", x.chain(0, 0, NONE), 40);
        s.due("the last", x.chain(0, 0, 39), 39);
        s.due("behind the last", x.chain(0, 0, 40), NONE);
        TimedJoin y = new TimedJoin();
        for (int k = 0; k < 40; k++) {
            y.add(0, 0, 0, k, 100, 0);
        }
        s.due("all SHARE: how many", y.chain(0, 0, NONE), 1);
        s.due("all SHARE: the least number", y.chain(0, 0, 0), 0);
    }
}
