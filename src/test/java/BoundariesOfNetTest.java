/** Boundary cases of promises 30 to 37: sets of KINDS, THE NET, THE IMAGE, a look. */
public final class BoundariesOfNetTest {
    private static final int NONE = Sentences.NONE;
    private static final int NO_SUCH = Sentences.NO_SUCH;
    private static final int LEAST = Sentences.LEAST;
    private static final int MOST = Sentences.MOST;
    private static final int[] NO_SETS = {LEAST, -8191, -2, -1, 8192, 8193, 16384, MOST};
    private static final int[] NO_NAMES = {LEAST, -2, -1, 6, 7, MOST};
    private static final int[] NO_SIDES = {LEAST, -2, -1, 2, MOST};

    private final Sentences s = new Sentences("BoundariesOfNetTest");

    public static void main(String[] args) {
        BoundariesOfNetTest test = new BoundariesOfNetTest();
        test.converseOfSets();
        test.converseOfNone();
        test.composeOfNone();
        test.composeOfAll();
        test.composeOfEmpties();
        test.netThatCannotBe();
        test.netOfUnlikeNames();
        test.betweenNone();
        test.betweenAsTold();
        test.tightOfThree();
        test.tightAsLongAsSmaller();
        test.tightWhereAllAreSmaller();
        test.soundOrNot();
        test.layThatCannotBe();
        test.layOfNames();
        test.layOfEmpties();
        test.imageOfNone();
        test.imageOfAll();
        test.imageInASweep();
        test.imageMoreThanOnce();
        test.imageOfTheNet();
        test.lookOfAnotherWhat();
        test.looks();
        test.s.end(30, 31, 32, 33, 34, 35, 36, 37);
    }

    // ---- promise 30

    private void converseOfSets() {
        s.says(30, "CONVERSE of a set of KINDS: those of b, a.");
        TimedJoin x = new TimedJoin();
        s.due("the empty set", x.converse(0), 0);
        s.due("all thirteen", x.converse(8191), 8191);
        int[] turned = {12, 11, 10, 9, 8, 7, 6, 5, 4, 3, 2, 1, 0};
        for (int k = 0; k < 13; k++) {
            s.due("of kind " + k, x.converse(1 << k), 1 << turned[k]);
            s.due("of all but kind " + k, x.converse(8191 - (1 << k)), 8191 - (1 << turned[k]));
        }
        s.due("of the first and the one in the middle", x.converse(1 + 64), 4096 + 64);
    }

    private void converseOfNone() {
        s.says(30, "CONVERSE of a set. NONE if there is none such.");
        TimedJoin x = new TimedJoin();
        for (int set : NO_SETS) {
            s.due("converse(" + set + ")", x.converse(set), NONE);
        }
    }

    // ---- promise 31

    private void composeOfNone() {
        s.says(31, "COMPOSED of two sets. NONE if there are none such.");
        TimedJoin x = new TimedJoin();
        for (int set : NO_SETS) {
            s.due("compose(" + set + ", 64)", x.compose(set, 64), NONE);
            s.due("compose(64, " + set + ")", x.compose(64, set), NONE);
            s.due("compose(" + set + ", 0)", x.compose(set, 0), NONE);
            s.due("compose(0, " + set + ")", x.compose(0, set), NONE);
            s.due("compose of it twice", x.compose(set, set), NONE);
        }
    }

    /** Six places are enough for the ends of three spans. */
    private static int[][] composedByTrying() {
        int[][] sets = new int[13][13];
        for (int spans = 0; spans < 6 * 6 * 6 * 6 * 6 * 6; spans++) {
            int[] p = new int[6];
            int rest = spans;
            for (int k = 0; k < 6; k++) {
                p[k] = rest % 6;
                rest /= 6;
            }
            if (p[0] < p[1] && p[2] < p[3] && p[4] < p[5]) {
                int ab = Model.kindOfPlaces(p[0], p[1], p[2], p[3]);
                int bc = Model.kindOfPlaces(p[2], p[3], p[4], p[5]);
                sets[ab][bc] |= 1 << Model.kindOfPlaces(p[0], p[1], p[4], p[5]);
            }
        }
        return sets;
    }

    private void composeOfAll() {
        s.says(31, "COMPOSED of two sets: all KINDS that a, c can have, if that of a, b is of the first, that of b, c of the second.");
        TimedJoin x = new TimedJoin();
        s.due("of two that are empty", x.compose(0, 0), 0);
        s.due("the first is empty", x.compose(0, 8191), 0);
        s.due("the second is empty", x.compose(8191, 0), 0);
        s.due("all and all", x.compose(8191, 8191), 8191);
        int[][] sets = composedByTrying();
        for (int k = 0; k < 13; k++) {
            for (int o = 0; o < 13; o++) {
                s.due("of kinds " + k + ", " + o, x.compose(1 << k, 1 << o), sets[k][o]);
            }
            s.due("of kind " + k + " and all", x.compose(1 << k, 8191), 8191);
            s.due("of kind " + k + " and alike", x.compose(1 << k, 64), 1 << k);
        }
        s.due("of sets", x.compose(1 + 4, 1 + 4096), sets[0][0] | sets[0][12] | sets[2][0] | sets[2][12]);
    }

    private void composeOfEmpties() {
        s.says(31, "all KINDS that a, c can have");
        TimedJoin x = new TimedJoin();
        int[][] rows = {{0, 0}, {0, 1}, {0, 2}, {1, 1}, {1, 2}, {2, 2}};
        for (int[] a : rows) {
            for (int[] b : rows) {
                for (int[] c : rows) {
                    int set = x.compose(1 << kindOf(a, b), 1 << kindOf(b, c));
                    s.due("EMPTY ROWS too", set >> kindOf(a, c) & 1, 1);
                }
            }
        }
    }

    private static int kindOf(int[] a, int[] b) {
        return Sentences.two(a[0], a[1], b[0], b[1]).kind(0, 0, 1, 0);
    }

    // ---- promise 32

    private void netThatCannotBe() {
        s.says(32, "true; false if one can't be.");
        TimedJoin x = new TimedJoin();
        x.net(0, 1, 5);
        for (int name : NO_NAMES) {
            s.due("net(" + name + ", 1, 1)", x.net(name, 1, 1), false);
            s.due("net(0, " + name + ", 1)", x.net(0, name, 1), false);
            s.due("net of it twice", x.net(name, name, 1), false);
        }
        for (int set : NO_SETS) {
            s.due("net(0, 1, " + set + ")", x.net(0, 1, set), false);
        }
        s.due("as told stays", x.between(0, 1, false), 5);
        s.due("the other way round stays", x.between(1, 0, false), 4096 + 1024);
        s.causes("it has no TROUBLE", x);
    }

    private void netOfUnlikeNames() {
        s.says(32, "THE NET: between two unlike names a set is told");
        TimedJoin x = new TimedJoin();
        for (int i = 0; i < 6; i++) {
            s.due("net(" + i + ", " + i + ", 64)", x.net(i, i, 64), false);
            s.due("net(" + i + ", " + i + ", 8191)", x.net(i, i, 8191), false);
            s.due("of one with itself 6 alone", x.between(i, i, false), 64);
        }
        s.due("the first and the last", x.net(0, 5, 1), true);
        s.due("the last and the first", x.net(5, 0, 1), true);
        s.due("what was told last", x.between(5, 0, false), 1);
        s.due("what was told last, the other way round", x.between(0, 5, false), 4096);
        s.due("the empty set", x.net(2, 3, 0), true);
        s.due("the empty set between", x.between(2, 3, false), 0);
        s.due("all thirteen", x.net(3, 2, 8191), true);
        s.due("all thirteen between", x.between(2, 3, false), 8191);
        x.add(0, 0, 0, 0, 5, 0);
        x.sweep();
        s.due("in a sweep", x.net(2, 3, 4), true);
    }

    // ---- promise 33

    private void betweenNone() {
        s.says(33, "the set between two names. NONE if there are none such.");
        TimedJoin x = new TimedJoin();
        for (int name : NO_NAMES) {
            for (int k = 0; k < 6; k += 5) {
                s.due("between(" + name + ", " + k + ", false)", x.between(name, k, false), NONE);
                s.due("between(" + name + ", " + k + ", true)", x.between(name, k, true), NONE);
                s.due("between(" + k + ", " + name + ", false)", x.between(k, name, false), NONE);
                s.due("between(" + k + ", " + name + ", true)", x.between(k, name, true), NONE);
            }
            s.due("of it with itself", x.between(name, name, false), NONE);
            s.due("of it with itself, TIGHT", x.between(name, name, true), NONE);
        }
    }

    private void betweenAsTold() {
        s.says(33, "all thirteen at first; of one with itself 6 alone; the other way round the CONVERSE");
        TimedJoin x = new TimedJoin();
        for (int i = 0; i < 6; i++) {
            for (int k = 0; k < 6; k++) {
                s.due("at first, TIGHT", x.between(i, k, true), i == k ? 64 : 8191);
            }
        }
        x.net(4, 1, 1 + 16);
        s.due("as told", x.between(4, 1, false), 1 + 16);
        s.due("the other way round", x.between(1, 4, false), 4096 + 256);
        s.due("TIGHT", x.between(4, 1, true), 1 + 16);
        s.due("TIGHT, the other way round", x.between(1, 4, true), 4096 + 256);
        x.net(1, 0, 1);
        s.due("TIGHT of what was told since", x.between(1, 0, true), 1);
        x.net(4, 1, 1);
        s.due("TIGHT through what was told since", x.between(4, 0, true), 1);
        s.due("as told it stays", x.between(4, 0, false), 8191);
    }

    private void tightOfThree() {
        s.says(33, "TIGHT: as long as any of three is smaller by it: of i, k those that are of i, j COMPOSED with j, k.");
        for (int j = 0; j < 6; j++) {
            int i = (j + 1) % 6;
            int k = (j + 2) % 6;
            TimedJoin x = new TimedJoin();
            x.net(i, j, 2);
            x.net(j, k, 2048);
            s.due("through " + j, x.between(i, k, true), 32 + 64 + 128);
            s.due("through " + j + ", the other way round", x.between(k, i, true), 128 + 64 + 32);
            x.net(i, k, 1 + 64 + 4);
            s.due("those of it that are told", x.between(i, k, true), 64);
            s.due("the other way round", x.between(k, i, true), 64);
            s.due("the others as told", x.between(i, j, true), 2);
            x.net(i, k, 1);
            s.due("none of it is told", x.between(i, k, true), 0);
        }
        TimedJoin y = new TimedJoin();
        y.net(0, 1, 0);
        for (int i = 0; i < 6; i++) {
            for (int k = 0; k < 6; k++) {
                s.due("one is empty, so all between two are", y.between(i, k, true), i == k ? 64 : 0);
            }
        }
        s.due("as told the others stay", y.between(4, 5, false), 8191);
    }

    private void tightAsLongAsSmaller() {
        s.says(33, "as long as any of three is smaller by it");
        int[][] orders = {{0, 1, 2, 3, 4, 5}, {5, 4, 3, 2, 1, 0}, {3, 0, 5, 1, 4, 2}, {2, 4, 1, 5, 0, 3}};
        for (int[] o : orders) {
            TimedJoin x = new TimedJoin();
            for (int n = 0; n < 5; n++) {
                x.net(o[n], o[n + 1], 1);
            }
            for (int n = 0; n < 6; n++) {
                for (int m = n + 1; m < 6; m++) {
                    s.due("one behind another", x.between(o[n], o[m], true), 1);
                    s.due("one behind another, the other way round", x.between(o[m], o[n], true), 4096);
                }
            }
            x.net(o[5], o[0], 1 + 2048);
            s.due("all the way round", x.between(o[2], o[3], true), 0);
        }
    }

    /** All fifteen sets are smaller once each has been looked at, and still it is not at its end. */
    private void tightWhereAllAreSmaller() {
        s.says(33, "as long as any of three is smaller by it");
        int[] told = {1064, 2592, 4101, 516, 290, 2052, 513, 640, 324, 2065, 784, 129, 5, 4099, 4112};
        int[] due = {1024, 32, 4096, 512, 32, 4, 512, 128, 4, 2048, 256, 128, 1, 1, 16};
        TimedJoin x = new TimedJoin();
        TimedJoin y = new TimedJoin();
        int n = 0;
        for (int i = 0; i < 6; i++) {
            for (int k = i + 1; k < 6; k++) {
                x.net(i, k, told[n]);
                y.net(i, k, due[n]);
                n++;
            }
        }
        n = 0;
        for (int i = 0; i < 6; i++) {
            for (int k = i + 1; k < 6; k++) {
                s.due("between " + i + " and " + k, x.between(i, k, true), due[n]);
                s.due("and the other way round", x.between(k, i, true), x.converse(due[n]));
                s.due("told so, none is smaller", y.between(i, k, true), due[n]);
                n++;
            }
        }
        s.due("SOUND", x.sound(), 1);
    }

    // ---- promise 34

    private void soundOrNot() {
        s.says(34, "SOUND: none is empty behind it.");
        TimedJoin x = new TimedJoin();
        s.due("at first", x.sound(), 1);
        x.net(0, 1, 64);
        x.net(1, 2, 64);
        s.due("two alike", x.sound(), 1);
        x.net(0, 2, 8191 - 64);
        s.due("but not of one another", x.sound(), 0);
        x.net(0, 2, 8191);
        s.due("told anew", x.sound(), 1);
        x.net(4, 5, 0);
        s.due("one told empty", x.sound(), 0);
        x.net(5, 4, 1);
        s.due("told anew", x.sound(), 1);
        for (int n = 0; n < 5; n++) {
            x.net(n, n + 1, 2);
        }
        s.due("each meets the next", x.sound(), 1);
        x.net(0, 5, 8191 - 1);
        s.due("but the first is not ahead of the last", x.sound(), 0);
        x.net(0, 5, 1);
        s.due("but it is", x.sound(), 1);
    }

    // ---- promise 35

    private void layThatCannotBe() {
        s.says(35, "false if one can't be, or there are not so many.");
        TimedJoin x = Sentences.inARow(0, 40);
        x.net(0, 1, 16);
        for (int n : new int[] {LEAST, -2, -1, 0, 1, 7, 8, 40, MOST}) {
            s.due("lay(0, " + n + ")", x.lay(0, n), false);
        }
        for (int side : NO_SIDES) {
            s.due("lay(" + side + ", 2)", x.lay(side, 2), false);
        }
        s.due("no ROWS", x.lay(1, 2), false);
        x.add(1, 0, 0, 0, 0, 0);
        s.due("one ROW", x.lay(1, 2), false);
        x.add(1, 0, 0, 3, 3, 0);
        s.due("two ROWS, three asked", x.lay(1, 3), false);
        s.due("THE NET stays", x.between(0, 1, false), 16);
        s.due("two ROWS", x.lay(1, 2), true);
        s.due("THE NET is as they lie", x.between(0, 1, false), 1);
        TimedJoin five = Sentences.inARow(0, 5);
        s.due("five ROWS, six asked", five.lay(0, 6), false);
        s.due("five ROWS, five asked", five.lay(0, 5), true);
    }

    private void layOfNames() {
        s.says(35, "THE NET is as the first n ROWS (2 .. 6) of a SIDE lie (of names from n on all thirteen): true");
        for (int n = 2; n <= 6; n++) {
            TimedJoin x = Sentences.inARow(0, 40);
            x.net(0, 5, 16);
            x.net(4, 5, 0);
            s.due("lay(0, " + n + ")", x.lay(0, n), true);
            for (int i = 0; i < 6; i++) {
                for (int k = i + 1; k < 6; k++) {
                    int want = k >= n ? 8191 : k == i + 1 ? 2 : 1;
                    s.due("between(" + i + ", " + k + ") of " + n, x.between(i, k, false), want);
                }
                s.due("of one with itself", x.between(i, i, false), 64);
            }
            s.due("it is SOUND", x.sound(), 1);
        }
        TimedJoin y = Sentences.inARow(1, 2);
        y.add(0, 0, 0, 0, 9, 0);
        y.add(0, 0, 7, 3, 9, 0);
        y.lay(0, 2);
        s.due("of another KEY too", y.between(0, 1, false), 128);
        y.set(1, 0);
        y.lay(1, 2);
        s.due("KINDS aside, of the RIGHT", y.between(0, 1, false), 2);
        y.sweep();
        s.due("in a sweep", y.lay(0, 2), true);
    }

    private void layOfEmpties() {
        s.says(35, "THE NET is as the first n ROWS (2 .. 6) of a SIDE lie");
        TimedJoin x = new TimedJoin();
        x.add(0, 0, 0, -5, 0, 0);
        x.add(0, 0, 0, -5, -5, 0);
        x.add(0, 0, 0, 0, 0, 0);
        x.add(0, 0, 0, 0, 0, 0);
        s.due("lay(0, 4)", x.lay(0, 4), true);
        int[][] kinds = {{6, 9, 1, 1}, {3, 6, 0, 0}, {11, 12, 6, 6}, {11, 12, 6, 6}};
        for (int i = 0; i < 4; i++) {
            for (int k = 0; k < 4; k++) {
                s.due("between(" + i + ", " + k + ")", x.between(i, k, false), 1 << kinds[i][k]);
                s.due("between(" + i + ", " + k + "), TIGHT", x.between(i, k, true), 1 << kinds[i][k]);
            }
        }
        s.due("it is SOUND", x.sound(), 1);
    }

    // ---- promise 36

    private void imageOfNone() {
        s.says(36, "THE IMAGE is taken (true), or gone back to (false): true; false if there is none.");
        TimedJoin x = Sentences.inARow(0, 3);
        x.set(5, 5);
        s.due("none", x.image(false), false);
        s.due("ROWS stay", x.look(2), 3);
        s.causes("TROUBLE stays", x, 9, 5);
        s.due("none, again", x.image(false), false);
        TimedJoin y = new TimedJoin();
        s.due("taken of a new object", y.image(true), true);
        y.add(0, 0, 0, 0, 5, 0);
        s.due("gone back to a new object", y.image(false), true);
        s.due("no ROWS", y.look(2), 0);
        s.due("the first again", y.add(0, 0, 0, -5, 5, 0), 0);
    }

    private void imageOfAll() {
        s.says(36, "THE IMAGE: all that is and was told (THE NET, TROUBLE, too), as it was when it was taken");
        TimedJoin x = new TimedJoin();
        for (int k = 0; k < 40; k++) {
            x.add(0, 0, 0, k, k, 2 * k);
            x.add(1, 3, 9, k, k + 1, 3 * k);
        }
        x.set(0, 0);
        x.set(1, 64 + 8);
        for (int k = 0; k < 40; k++) {
            x.batch(k, k, k, k, k);
        }
        x.net(4, 5, 3);
        x.load(0);
        s.due("taken", x.image(true), true);
        x.set(0, 1);
        x.set(1, 4);
        x.clear();
        x.batch(0, 0, 99, 99, 0);
        x.net(4, 5, 1);
        x.lay(0, 6);
        s.due("gone back", x.image(false), true);
        s.causes("TROUBLE", x, 1, 40, 2, 0, 7, 40);
        int[] looks = {0, 72, 40, 40, 40, 0, 0, 1, 1, 1};
        for (int what = 0; what < 10; what++) {
            s.due("look(" + what + ")", x.look(what), looks[what]);
        }
        int[][] last = {{0, 0, 39, 39, 78}, {3, 9, 39, 40, 117}};
        for (int side = 0; side < 2; side++) {
            for (int what = 0; what < 5; what++) {
                s.due("row(" + side + ", 39, " + what + ")", x.row(side, 39, what), last[side][what]);
            }
        }
        s.due("THE NET", x.between(5, 4, false), 4096 + 2048);
        s.due("THE NET of the first", x.between(0, 1, false), 8191);
        TimedJoin y = Sentences.inARow(0, 1);
        y.batch(7, 6, 5, 4, 3);
        y.image(true);
        y.clear();
        y.batch(0, 0, 9, 9, 9);
        y.image(false);
        y.load(0);
        s.causes("THE BATCH as it was told", y, 1, 1, 2, 0, 3, 7);
        TimedJoin z = new TimedJoin();
        z.batch(1, 2, 3, 4, 5);
        z.batch(2, 3, 6, 8, -7);
        z.image(true);
        z.load(0);
        z.batch(3, 4, 10, 20, 30);
        z.batch(0, 1, 11, 22, 33);
        z.batch(0, 1, 12, 23, 34);
        z.image(false);
        s.due("THE BATCH comes as it was told", z.load(1), 2);
        int[][] told = {{1, 2, 3, 4, 5}, {2, 3, 6, 8, -7}};
        for (int row = 0; row < 2; row++) {
            for (int what = 0; what < 5; what++) {
                s.due("row(1, " + row + ", " + what + ")", z.row(1, row, what), told[row][what]);
            }
        }
    }

    private void imageInASweep() {
        s.says(36, "as it was when it was taken");
        TimedJoin x = Sentences.two(0, 5, 1, 6);
        x.add(0, 1, 0, 2, 7, 0);
        x.sweep();
        x.step(3);
        x.image(true);
        x.step(1);
        x.leave();
        x.add(1, 1, 0, 0, 9, 0);
        x.set(1, 0);
        x.sweep();
        x.step(160);
        s.due("PAIRS of the later sweep", x.pair(NONE, 0), 0);
        x.image(false);
        s.due("it is SWEEPING", x.look(5), 1);
        s.due("ROWS can't be told", x.add(0, 0, 0, 9, 9, 0), NONE);
        s.causes("ROWS can't be told", x, 8, 3);
        s.due("PAIRS", x.pair(NONE, 0), 2);
        s.due("the second", x.pair(1, 0), 1);
        s.due("ACTIVE of the LEFT", x.active(0, NONE), 2);
        s.due("the last of it", x.active(0, 1), 1);
        s.due("ACTIVE of the RIGHT", x.active(1, 0), 0);
        int[] swept = {3, 3, 0, 3, 3, 3, 0, 4};
        for (int what = 0; what < 8; what++) {
            s.due("swept(" + what + ")", x.swept(what), swept[what]);
        }
        s.due("it goes on to its end", x.step(160), 3);
        s.due("how often the last came to another place", x.swept(6), 1);
        TimedJoin y = Sentences.two(0, 5, 1, 6);
        y.image(true);
        y.sweep();
        y.step(1);
        y.image(false);
        s.due("taken ahead of the sweep: it is not SWEEPING", y.look(5), 0);
        s.due("EVENTS that are gone", y.swept(0), 0);
        s.due("ACTIVE", y.active(0, NONE), 0);
        s.due("ROWS can be told", y.add(0, 0, 0, 9, 9, 0), 1);
    }

    private void imageMoreThanOnce() {
        s.says(36, "gone back to it may be more than once.");
        TimedJoin x = Sentences.inARow(0, 2);
        x.image(true);
        for (int round = 0; round < 3; round++) {
            s.due("a third", x.add(0, 0, 0, 5 + round, 9, round), 2);
            s.due("one of the RIGHT", x.add(1, 0, 0, 5, 9, round), 0);
            s.due("a set between", x.net(0, 1, 1 << round), true);
            s.due("gone back", x.image(false), true);
            s.due("two ROWS", x.look(2), 2);
            s.due("none of the RIGHT", x.look(3), 0);
            s.due("THE NET", x.between(0, 1, false), 8191);
        }
        s.due("again, with nothing told since", x.image(false), true);
        x.add(0, 0, 0, 7, 7, 0);
        s.due("taken anew", x.image(true), true);
        x.add(0, 0, 0, 8, 8, 0);
        x.image(false);
        s.due("as it was the later time", x.look(2), 3);
    }

    private void imageOfTheNet() {
        s.says(36, "(THE NET, TROUBLE, too)");
        TimedJoin x = new TimedJoin();
        x.net(0, 1, 1);
        x.net(1, 2, 1);
        s.due("TIGHT ahead of it", x.between(0, 2, true), 1);
        x.image(true);
        x.net(1, 2, 8191);
        s.due("TIGHT behind a change", x.between(0, 2, true), 8191);
        x.image(false);
        s.due("TIGHT as it was", x.between(0, 2, true), 1);
        x.net(2, 0, 1);
        s.due("not SOUND", x.sound(), 0);
        x.image(true);
        x.net(2, 0, 4096);
        s.due("SOUND behind a change", x.sound(), 1);
        x.image(false);
        s.due("not SOUND as it was", x.sound(), 0);
        TimedJoin z = new TimedJoin();
        z.net(0, 1, 1);
        z.image(true);
        z.net(1, 2, 0);
        s.due("not SOUND behind a change", z.sound(), 0);
        z.image(false);
        s.due("SOUND, asked for the first time behind it", z.sound(), 1);
        s.due("TIGHT, asked for the first time behind it", z.between(1, 2, true), 8191);
        TimedJoin y = new TimedJoin();
        y.set(5, 5);
        y.image(true);
        y.set(0, 0);
        s.causes("TROUBLE is gone", y);
        y.image(false);
        s.causes("TROUBLE as it was", y, 9, 5);
        y.set(0, 0);
        y.image(true);
        y.set(6, 6);
        y.image(false);
        s.causes("no TROUBLE as it was", y);
    }

    // ---- promise 37

    private void lookOfAnotherWhat() {
        s.says(37, "NONE for another what.");
        TimedJoin x = Sentences.inARow(0, 3);
        for (int what : new int[] {LEAST, -10, -2, -1, 10, 11, MOST}) {
            s.due("look(" + what + ")", x.look(what), NONE);
        }
    }

    private void looks() {
        s.says(37, "7 the most PARTNERS that a ROW has, 8 RUNS of the LEFT with ROWS, 9 of the RIGHT.");
        TimedJoin x = new TimedJoin();
        for (int run = 0; run < 4; run++) {
            s.due("RUNS of the LEFT", x.look(8), run);
            x.add(0, 3 - run, 0, 0, 5, 0);
            x.add(0, 3 - run, 0, 0, 5, 0);
        }
        s.due("all RUNS", x.look(8), 4);
        s.due("no RUNS of the RIGHT", x.look(9), 0);
        s.due("no PARTNERS", x.look(7), 0);
        x.add(1, 2, 0, 5, 9, 0);
        s.due("one RUN of the RIGHT", x.look(9), 1);
        s.due("one that only meets", x.look(7), 0);
        x.add(1, 2, 0, 5, 9, 0);
        s.due("still one RUN", x.look(9), 1);
        x.add(1, 1, 0, 4, 9, 0);
        s.due("the one of the RIGHT has the most", x.look(7), 8);
        TimedJoin keys = new TimedJoin();
        keys.set(0, 0);
        keys.add(0, 0, 7, -5, 5, 0);
        s.due("no ROWS of the RIGHT, KEYED is 0", keys.look(7), 0);
        keys.set(0, 1);
        keys.add(1, 0, 0, -5, 5, 0);
        s.due("one of another KEY", keys.look(7), 0);
        TimedJoin all = new TimedJoin();
        for (int k = 0; k < 40; k++) {
            all.add(0, 0, 0, 0, 5, 0);
        }
        all.add(1, 0, 0, 0, 5, 0);
        s.due("40 of the LEFT", all.look(7), 40);
        TimedJoin right = new TimedJoin();
        for (int k = 0; k < 40; k++) {
            right.add(1, 0, 0, 0, 5, 0);
        }
        right.add(0, 0, 0, 0, 5, 0);
        s.due("40 of the RIGHT", right.look(7), 40);
        right.set(1, 0);
        s.due("KINDS is the empty set", right.look(7), 0);
        s.says(37, "2 ROWS of the LEFT, 3 of the RIGHT, 4 in THE BATCH, 5 whether it is SWEEPING (1, 0), 6 PAIRS");
        s.due("ROWS of the LEFT", right.look(2), 1);
        s.due("ROWS of the RIGHT", right.look(3), 40);
        right.batch(9, 9, 9, 9, 9);
        s.due("in THE BATCH", right.look(4), 1);
        right.set(1, 2044);
        right.sweep();
        s.due("it is SWEEPING", right.look(5), 1);
        s.due("no PAIRS yet", right.look(6), 0);
        right.step(2);
        s.due("one PAIR", right.look(6), 1);
        right.step(160);
        s.due("40 PAIRS", right.look(6), 40);
        s.due("it is not SWEEPING", right.look(5), 0);
        s.due("no such ROW of the LEFT", right.row(0, 1, 0), NO_SUCH);
    }
}
