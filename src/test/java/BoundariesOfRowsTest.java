/** Boundary cases of promises 1 to 7: a new object, settings, THE BATCH, ROWS that come, TROUBLE. */
public final class BoundariesOfRowsTest {
    private static final int NONE = Sentences.NONE;
    private static final int NO_SUCH = Sentences.NO_SUCH;
    private static final int LEAST = Sentences.LEAST;
    private static final int MOST = Sentences.MOST;
    private static final int[] NO_SIDES = {LEAST, -2, -1, 2, 3, MOST};

    private final Sentences s = new Sentences("BoundariesOfRowsTest");

    public static void main(String[] args) {
        BoundariesOfRowsTest test = new BoundariesOfRowsTest();
        test.newObject();
        test.atFirst();
        test.settingsThatCanBe();
        test.settingsThatCannotBe();
        test.settingsInASweep();
        test.batchOfAnything();
        test.batchThatIsFull();
        test.clearing();
        test.loadOfAll();
        test.loadOfNone();
        test.loadAllOrNone();
        test.loadAndOrder();
        test.loadOfTooMany();
        test.loadToNoSide();
        test.loadInASweep();
        test.addNumbers();
        test.addAtTheEdges();
        test.addBeyondTheEdges();
        test.addFirstOfTheCauses();
        test.addAndOrder();
        test.addToAFullSide();
        test.addToNoSide();
        test.addInASweep();
        test.troubleOfNone();
        test.troubleOfThoseAlone();
        test.troubleNumbers();
        test.s.end(1, 2, 3, 4, 5, 6, 7);
    }

    // ---- promise 1

    private void newObject() {
        s.says(1, "No ROWS.");
        TimedJoin other = Sentences.inARow(0, 40);
        other.batch(0, 0, 0, 0, 0);
        other.image(true);
        TimedJoin x = new TimedJoin();
        for (int what : new int[] {2, 3, 4, 5, 6, 7, 8, 9}) {
            s.due("look(" + what + ")", x.look(what), 0);
        }
        for (int side = 0; side < 2; side++) {
            s.due("row", x.row(side, 0, 0), NO_SUCH);
            s.due("matched, has", x.matched(side, true), 0);
            s.due("matched, has none", x.matched(side, false), 0);
            s.due("live", x.live(side, NONE, 0), 0);
            s.due("left", x.left(side, NONE, 0), 0);
            s.due("one", x.one(side, NONE, 0), 0);
        }
        s.due("shared", x.shared(NONE), 0);
        s.due("no image", x.image(false), false);
        s.due("sweep()", x.sweep(), 0);
    }

    private void atFirst() {
        TimedJoin x = new TimedJoin();
        s.says(1, "`NONE = -1`: None.");
        s.due("NONE", TimedJoin.NONE, -1);
        s.says(1, "KEYED 0, 1 (1 at first), KINDS: a set of 2 .. 10 (all of these at first).");
        s.due("KEYED", x.look(0), 1);
        s.due("KINDS", x.look(1), 4 + 8 + 16 + 32 + 64 + 128 + 256 + 512 + 1024);
        s.says(1, "ACTIVE of a SIDE: a row of ROWS, empty at first.");
        s.due("LEFT", x.active(0, NONE), 0);
        s.due("RIGHT", x.active(1, NONE), 0);
        s.says(1, "Without TROUBLE it has none.");
        s.causes("of a new object", x);
        s.says(1, "all thirteen at first; of one with itself 6 alone");
        for (int i = 0; i < 6; i++) {
            for (int k = 0; k < 6; k++) {
                s.due("between(" + i + ", " + k + ")", x.between(i, k, false), i == k ? 64 : 8191);
            }
        }
    }

    // ---- promise 2

    private void settingsThatCanBe() {
        s.says(2, "What 0 KEYED, 1 KINDS (a set): true");
        TimedJoin x = new TimedJoin();
        for (int v : new int[] {0, 0, 1, 1}) {
            s.due("set(0, " + v + ")", x.set(0, v), true);
            s.due("KEYED", x.look(0), v);
        }
        for (int v : new int[] {0, 4, 1024, 4 + 1024, 2044, 2044 - 64}) {
            s.due("set(1, " + v + ")", x.set(1, v), true);
            s.due("KINDS", x.look(1), v);
        }
        s.says(2, "PARTNERS: a ROW of the LEFT, one of the RIGHT, with one KEY if KEYED is 1, whose KIND (LEFT ahead) is of KINDS.");
        TimedJoin y = Sentences.two(0, 5, 3, 8);
        y.add(1, 0, 9, 3, 8, 0);
        s.due("of one KEY", y.row(0, 0, 6), 1);
        y.set(0, 0);
        s.due("of any KEY", y.row(0, 0, 6), 2);
        y.set(1, 4);
        s.due("of kind 2", y.row(0, 0, 6), 2);
        s.due("of kind 2, of the RIGHT", y.row(1, 0, 6), 1);
        y.set(1, 1024);
        s.due("kind 10 is it the other way round", y.row(0, 0, 6), 0);
        s.due("kind 10 is it the other way round, of the RIGHT", y.row(1, 0, 6), 0);
        y.set(1, 0);
        s.due("the empty set", y.row(0, 0, 6), 0);
    }

    private void settingsThatCannotBe() {
        TimedJoin x = new TimedJoin();
        x.set(1, 16);
        s.says(2, "false with TROUBLE: it can't be (now), or another what.");
        for (int v : new int[] {LEAST, -2, -1, 2, 3, MOST}) {
            s.due("set(0, " + v + ")", x.set(0, v), false);
            s.causes("set(0, " + v + ")", x, 9, 0);
        }
        s.due("KEYED stays", x.look(0), 1);
        int[] noKinds = {LEAST, -1, 1, 2, 3, 5, 6, 2045, 2046, 2047, 2048, 2052, 4096, 8191, 8192, 65536, MOST};
        for (int v : noKinds) {
            s.due("set(1, " + v + ")", x.set(1, v), false);
            s.causes("set(1, " + v + ")", x, 9, 1);
        }
        s.due("KINDS stay", x.look(1), 16);
        for (int what : new int[] {LEAST, -2, -1, 2, 3, MOST}) {
            s.due("set(" + what + ", 0)", x.set(what, 0), false);
            s.causes("set(" + what + ", 0)", x, 9, what);
        }
        s.due("set(2, 4), which KINDS could be", x.set(2, 4), false);
        s.due("KEYED stays", x.look(0), 1);
        s.due("KINDS stay", x.look(1), 16);
    }

    private void settingsInASweep() {
        s.says(2, "set(): 9; or 9 because of 8 (it could be told else).");
        TimedJoin x = Sentences.inARow(0, 1);
        x.sweep();
        s.due("ahead of the first EVENT", x.set(0, 0), false);
        s.causes("ahead of the first EVENT", x, 9, 0, 8, 0);
        s.due("as it is already", x.set(0, 1), false);
        s.causes("as it is already", x, 9, 0, 8, 0);
        x.step(1);
        s.due("ahead of the last EVENT", x.set(1, 4), false);
        s.causes("ahead of the last EVENT", x, 9, 1, 8, 1);
        s.due("KINDS that can't be", x.set(1, 2), false);
        s.causes("KINDS that can't be", x, 9, 1);
        s.due("KEYED that can't be", x.set(0, 2), false);
        s.causes("KEYED that can't be", x, 9, 0);
        s.due("another what", x.set(2, 0), false);
        s.causes("another what", x, 9, 2);
        s.due("KEYED stays", x.look(0), 1);
        s.due("KINDS stay", x.look(1), 2044);
        x.step(1);
        s.due("behind the last EVENT", x.set(1, 4), true);
        s.causes("behind the last EVENT", x);
        x.sweep();
        x.leave();
        s.due("behind leave()", x.set(0, 0), true);
    }

    // ---- promises 3, 4

    private void batchOfAnything() {
        s.says(3, "A ROW comes into THE BATCH (whatever it is): how many are in it");
        TimedJoin x = new TimedJoin();
        s.due("of the least", x.batch(LEAST, LEAST, LEAST, LEAST, LEAST), 1);
        s.due("of the greatest", x.batch(MOST, MOST, MOST, MOST, MOST), 2);
        s.due("END less than START", x.batch(0, 0, 5, 4, 0), 3);
        s.due("one like it", x.batch(0, 0, 5, 4, 0), 4);
        s.due("START less than the one ahead", x.batch(0, 0, 0, 1, 0), 5);
        s.due("ROWS", x.look(2) + x.look(3), 0);
        TimedJoin y = Sentences.inARow(0, 40);
        s.due("a SIDE is full", y.batch(0, 0, 50, 50, 0), 1);
        y.sweep();
        s.due("in a sweep", y.batch(0, 0, 50, 50, 0), 2);
        s.due("it is in it", y.look(4), 2);
    }

    private void batchThatIsFull() {
        s.says(3, "NONE if there are 40.");
        TimedJoin x = new TimedJoin();
        for (int k = 1; k <= 40; k++) {
            s.due("batch " + k, x.batch(0, 0, k, k, k), k);
        }
        x.set(7, 0);
        s.due("one more", x.batch(0, 0, 99, 99, 99), NONE);
        s.due("and one more", x.batch(9, 99, 9, 0, 0), NONE);
        s.due("in it", x.look(4), 40);
        s.causes("TROUBLE stays", x, 9, 7);
        s.due("all of them come", x.load(1), 40);
        s.due("the last is the one that was told last", x.row(1, 39, 4), 40);
        s.due("there is room again", x.batch(0, 0, 99, 99, 99), 1);
    }

    private void clearing() {
        s.says(4, "THE BATCH is empty: how many there were.");
        TimedJoin x = new TimedJoin();
        s.due("of none", x.clear(), 0);
        x.batch(9, 9, 9, 9, 9);
        s.due("of one", x.clear(), 1);
        s.due("it is empty", x.look(4), 0);
        s.due("of none again", x.clear(), 0);
        for (int k = 0; k < 40; k++) {
            x.batch(9, 9, 9, 9, 9);
        }
        s.due("of 40", x.clear(), 40);
        s.due("none comes", x.load(0), 0);
        s.due("ROWS", x.look(2), 0);
        s.due("the next is the first", x.batch(0, 0, 7, 8, 0), 1);
        s.due("it comes", x.load(0), 1);
        s.due("START", x.row(0, 0, 2), 7);
        x.batch(0, 0, 0, 0, 0);
        x.load(0);
        x.clear();
        s.causes("TROUBLE stays", x, 1, 1, 2, 0, 6, 7);
        x.batch(0, 0, 0, 0, 0);
        x.sweep();
        s.due("in a sweep", x.clear(), 1);
    }

    // ---- promise 5

    private void loadOfAll() {
        s.says(5, "All of THE BATCH come to a SIDE (it is empty then): how many");
        TimedJoin x = new TimedJoin();
        s.due("of an empty one", x.load(0), 0);
        s.causes("of an empty one", x);
        for (int k = 0; k < 40; k++) {
            x.batch(k % 4, k % 10, k, k + k % 3, 100 + k);
        }
        s.due("of 40", x.load(0), 40);
        s.due("it is empty then", x.look(4), 0);
        s.due("ROWS of the LEFT", x.look(2), 40);
        s.due("ROWS of the RIGHT", x.look(3), 0);
        for (int k = 0; k < 40; k++) {
            int[] told = {k % 4, k % 10, k, k + k % 3, 100 + k};
            for (int what = 0; what < 5; what++) {
                s.due("row(0, " + k + ", " + what + ")", x.row(0, k, what), told[what]);
            }
        }
        s.due("of an empty one to a SIDE that is full", x.load(0), 0);
        s.causes("of an empty one to a SIDE that is full", x);
        x.batch(0, 0, 0, 0, 0);
        s.due("of one to the other", x.load(1), 1);
        s.due("again", x.load(1), 0);
    }

    private void loadOfNone() {
        s.says(5, "NONE with TROUBLE, and nothing comes (THE BATCH stays).");
        for (int wrong = 0; wrong < 3; wrong++) {
            TimedJoin x = Sentences.inARow(1, 1);
            for (int k = 0; k < 3; k++) {
                x.batch(k == wrong ? 4 : 0, 0, 50 + k, 60, k);
            }
            s.due("the wrong one is " + wrong, x.load(1), NONE);
            s.causes("the wrong one is " + wrong, x, 1, 3, 2, wrong, 3, 4);
            s.due("nothing comes", x.look(3), 1);
            s.due("there is no second ROW", x.row(1, 1, 0), NO_SUCH);
            s.due("THE BATCH stays", x.look(4), 3);
            s.due("the same again", x.load(1), NONE);
            s.causes("the same again", x, 1, 3, 2, wrong, 3, 4);
            s.due("a RUN goes on from the ROWS that came", x.add(1, 0, 0, 1, 1, 0), 1);
        }
        s.says(5, "load(): 1, because of 2, because of 3 .. 7");
        int[][] rows = {
            {-1, 0, 0, 0, 3, -1}, {4, 0, 0, 0, 3, 4}, {LEAST, 0, 0, 0, 3, LEAST}, {MOST, 0, 0, 0, 3, MOST},
            {0, -1, 0, 0, 4, -1}, {0, 10, 0, 0, 4, 10}, {0, LEAST, 0, 0, 4, LEAST}, {0, MOST, 0, 0, 4, MOST},
            {0, 0, -1000001, 0, 5, 1}, {0, 0, 1000001, 1000001, 5, 1}, {0, 0, LEAST, MOST, 5, 1},
            {0, 0, 0, 1000001, 5, 2}, {0, 0, 0, -1000001, 5, 2}, {0, 0, 0, LEAST, 5, 2}, {0, 0, 0, MOST, 5, 2},
            {0, 0, 1, 0, 5, 3}, {0, 0, 1000000, -1000000, 5, 3}};
        for (int[] r : rows) {
            TimedJoin x = new TimedJoin();
            x.batch(0, 0, -1000000, -1000000, 0);
            x.batch(r[0], r[1], r[2], r[3], 0);
            s.due("cause " + r[4], x.load(0), NONE);
            s.causes("cause " + r[4], x, 1, 2, 2, 1, r[4], r[5]);
        }
    }

    private void loadAllOrNone() {
        s.says(5, "THE BATCH: ROWS told (40 at most), for a SIDE all of them come or none.");
        TimedJoin x = new TimedJoin();
        for (int k = 0; k < 40; k++) {
            x.batch(0, k == 39 ? 10 : 9, k, k, k);
        }
        s.due("the last of 40 is wrong", x.load(0), NONE);
        s.due("none came to the LEFT", x.look(2), 0);
        s.due("none came to the RIGHT", x.look(3), 0);
        s.says(5, "1 LOAD (how many are in THE BATCH), 2 ROW (its place in THE BATCH, from 0; by add() 0)");
        s.causes("the last of 40 is wrong", x, 1, 40, 2, 39, 4, 10);
        x.clear();
        x.batch(0, 10, 0, 0, 0);
        x.load(0);
        s.causes("the only one is wrong", x, 1, 1, 2, 0, 4, 10);
        x.add(0, 0, 0, 0, 0, 0);
        x.add(0, 0, 10, 0, 0, 0);
        s.causes("by add(), with ROWS and THE BATCH there", x, 2, 0, 4, 10);
    }

    private void loadAndOrder() {
        s.says(5, "6 ORDER (by how much START is less than the one ahead in its RUN)");
        TimedJoin x = new TimedJoin();
        x.add(0, 2, 0, 1000000, 1000000, 0);
        x.batch(1, 0, 5, 5, 0);
        x.batch(2, 0, -1000000, 0, 0);
        s.due("less than one that came", x.load(0), NONE);
        s.causes("less than one that came", x, 1, 2, 2, 1, 6, 2000000);
        s.due("to the other SIDE", x.load(1), 2);
        x.batch(3, 0, 7, 7, 0);
        x.batch(1, 0, 0, 0, 0);
        x.batch(3, 0, 6, 7, 0);
        s.due("less than one of THE BATCH", x.load(0), NONE);
        s.causes("less than one of THE BATCH", x, 1, 3, 2, 2, 6, 1);
        x.clear();
        x.batch(3, 0, 7, 7, 0);
        x.batch(3, 0, 7, 9, 0);
        x.batch(2, 0, 1000000, 1000000, 0);
        s.due("none is less", x.load(0), 3);
    }

    private void loadOfTooMany() {
        s.says(5, "(7 as if those ahead of it had come)");
        TimedJoin x = Sentences.inARow(0, 39);
        x.batch(0, 0, 50, 50, 1);
        x.batch(9, 99, 50, 40, 2);
        s.due("there is room for one", x.load(0), NONE);
        s.causes("there is room for one", x, 1, 2, 2, 1, 7, 40);
        s.due("nothing comes", x.look(2), 39);
        s.due("THE BATCH stays", x.look(4), 2);
        s.due("there is still room", x.add(0, 0, 0, 45, 45, 3), 39);
        s.due("there is room for none", x.load(0), NONE);
        s.causes("there is room for none", x, 1, 2, 2, 0, 7, 40);
        TimedJoin y = Sentences.inARow(0, 39);
        y.batch(0, 10, 50, 50, 0);
        y.batch(0, 0, 50, 50, 0);
        s.due("the first of them is wrong already", y.load(0), NONE);
        s.causes("the first of them is wrong already", y, 1, 2, 2, 0, 4, 10);
        TimedJoin z = Sentences.inARow(1, 1);
        for (int k = 0; k < 40; k++) {
            z.batch(0, 0, 50, 50, 0);
        }
        s.due("40 and one that is there", z.load(1), NONE);
        s.causes("40 and one that is there", z, 1, 40, 2, 39, 7, 40);
        s.due("40 to the other SIDE", z.load(0), 40);
    }

    private void loadToNoSide() {
        s.says(5, "NONE - 1: no such SIDE (no TROUBLE).");
        TimedJoin x = Sentences.inARow(0, 1);
        x.batch(9, 9, 9, 9, 9);
        for (int side : NO_SIDES) {
            x.load(0);
            s.due("load(" + side + ")", x.load(side), NONE - 1);
            s.causes("load(" + side + ")", x);
            s.due("THE BATCH stays", x.look(4), 1);
        }
        x.sweep();
        s.due("in a sweep", x.load(2), NONE - 1);
        s.causes("in a sweep", x);
    }

    private void loadInASweep() {
        s.says(5, "or 1 because of 8.");
        TimedJoin x = Sentences.inARow(0, 1);
        x.sweep();
        s.due("of an empty BATCH", x.load(1), NONE);
        s.causes("of an empty BATCH", x, 1, 0, 8, 0);
        x.batch(9, 99, 5, 4, 0);
        x.step(1);
        s.due("of one that is wrong as well", x.load(1), NONE);
        s.causes("of one that is wrong as well", x, 1, 1, 8, 1);
        s.due("THE BATCH stays", x.look(4), 1);
        x.step(1);
        x.clear();
        x.batch(0, 0, 0, 0, 0);
        s.due("behind the last EVENT", x.load(1), 1);
    }

    // ---- promise 6

    private void addNumbers() {
        s.says(6, "Of each up to 40 ROWS, by numbers as they come");
        TimedJoin x = new TimedJoin();
        for (int k = 0; k < 40; k++) {
            s.due("LEFT", x.add(0, k % 4, k % 10, k, k, k), k);
            s.due("RIGHT", x.add(1, k % 4, k % 10, k, k, k), k);
        }
        s.due("one more", x.add(0, 0, 0, 99, 99, 0), NONE);
        s.due("one more", x.add(1, 0, 0, 99, 99, 0), NONE);
        s.due("ROWS of the LEFT", x.look(2), 40);
        s.due("ROWS of the RIGHT", x.look(3), 40);
    }

    private void addAtTheEdges() {
        s.says(6, "RUN 0 .. 3, KEY 0 .. 9, START and END (-1000000 .. 1000000, END no less than START), VALUE (any int).");
        int[][] rows = {
            {0, 0, -1000000, -1000000, LEAST}, {3, 9, 1000000, 1000000, MOST}, {0, 9, -1000000, 1000000, NONE},
            {1, 0, 5, 5, NO_SUCH}, {2, 5, -1, 0, 0}};
        TimedJoin x = new TimedJoin();
        for (int r = 0; r < rows.length; r++) {
            int[] of = rows[r];
            s.due("it comes", x.add(1, of[0], of[1], of[2], of[3], of[4]), r);
            s.causes("it comes", x);
            for (int what = 0; what < 5; what++) {
                s.due("row(1, " + r + ", " + what + ")", x.row(1, r, what), of[what]);
            }
        }
    }

    private void addBeyondTheEdges() {
        s.says(6, "3 RUN (it), 4 KEY (it), 5 SPAN (1 START, 2 END out of bounds, 3 END less than START)");
        int[][] rows = {
            {LEAST, 0, 0, 0, 3, LEAST}, {-1, 0, 0, 0, 3, -1}, {4, 0, 0, 0, 3, 4}, {MOST, 0, 0, 0, 3, MOST},
            {0, LEAST, 0, 0, 4, LEAST}, {0, -1, 0, 0, 4, -1}, {0, 10, 0, 0, 4, 10}, {0, MOST, 0, 0, 4, MOST},
            {0, 0, LEAST, 0, 5, 1}, {0, 0, -1000001, 0, 5, 1}, {0, 0, 1000001, 1000001, 5, 1}, {0, 0, MOST, MOST, 5, 1},
            {0, 0, 0, LEAST, 5, 2}, {0, 0, 0, -1000001, 5, 2}, {0, 0, 0, 1000001, 5, 2}, {0, 0, 0, MOST, 5, 2},
            {0, 0, 1, 0, 5, 3}, {0, 0, 0, -1, 5, 3}, {0, 0, 1000000, -1000000, 5, 3}};
        for (int[] r : rows) {
            TimedJoin x = new TimedJoin();
            s.due("cause " + r[4], x.add(0, r[0], r[1], r[2], r[3], 0), NONE);
            s.causes("cause " + r[4], x, 2, 0, r[4], r[5]);
            s.due("none came", x.look(2), 0);
            s.due("the next is the first", x.add(0, 0, 0, -1000000, 0, 0), 0);
        }
    }

    private void addFirstOfTheCauses() {
        s.says(6, "Of a ROW the first of 7, 3, 4, 5, 6");
        TimedJoin x = Sentences.inARow(0, 39);
        s.due("3, 4, 5, 6", x.add(0, 4, 10, -1000001, -2000000, 0), NONE);
        s.causes("3, 4, 5, 6", x, 2, 0, 3, 4);
        s.due("4, 5, 6", x.add(0, 0, 10, -1000001, -2000000, 0), NONE);
        s.causes("4, 5, 6", x, 2, 0, 4, 10);
        s.due("5 by START, by END, 6", x.add(0, 0, 0, -1000001, -2000000, 0), NONE);
        s.causes("5 by START, by END, 6", x, 2, 0, 5, 1);
        s.due("5 by END, 6", x.add(0, 0, 0, 3, -2000000, 0), NONE);
        s.causes("5 by END, 6", x, 2, 0, 5, 2);
        s.due("5 by both, 6", x.add(0, 0, 0, 3, 2, 0), NONE);
        s.causes("5 by both, 6", x, 2, 0, 5, 3);
        s.due("6", x.add(0, 0, 0, 3, 4, 0), NONE);
        s.causes("6", x, 2, 0, 6, 35);
        s.due("none", x.add(0, 0, 0, 38, 40, 0), 39);
        s.due("7, 3, 4, 5, 6", x.add(0, 4, 10, -1000001, -2000000, 0), NONE);
        s.causes("7, 3, 4, 5, 6", x, 2, 0, 7, 40);
    }

    private void addAndOrder() {
        s.says(6, "In a RUN of a SIDE no START is less than the one ahead.");
        TimedJoin x = new TimedJoin();
        s.due("the first of a RUN", x.add(0, 3, 0, 1000000, 1000000, 0), 0);
        s.due("alike", x.add(0, 3, 0, 1000000, 1000000, 0), 1);
        s.due("less by 1", x.add(0, 3, 0, 999999, 1000000, 0), NONE);
        s.causes("less by 1", x, 2, 0, 6, 1);
        s.due("less by all", x.add(0, 3, 0, -1000000, 1000000, 0), NONE);
        s.causes("less by all", x, 2, 0, 6, 2000000);
        s.due("another RUN", x.add(0, 2, 0, -1000000, 1000000, 0), 2);
        s.due("the other SIDE", x.add(1, 3, 0, -1000000, 1000000, 0), 0);
        s.due("END is nothing to it", x.add(0, 2, 0, -1000000, -1000000, 0), 3);
        s.due("another KEY is nothing to it", x.add(0, 3, 5, 0, 0, 0), NONE);
        s.causes("another KEY is nothing to it", x, 2, 0, 6, 1000000);
        s.due("the one ahead, not the first", x.add(0, 2, 0, 7, 7, 0), 4);
        s.due("less than the one ahead", x.add(0, 2, 0, 5, 5, 0), NONE);
        s.causes("less than the one ahead", x, 2, 0, 6, 2);
    }

    private void addToAFullSide() {
        s.says(6, "7 FULL (how many the SIDE has)");
        TimedJoin x = Sentences.inARow(1, 39);
        s.due("the last", x.add(1, 1, 0, 0, 0, 0), 39);
        s.due("one more", x.add(1, 1, 0, 0, 0, 0), NONE);
        s.causes("one more", x, 2, 0, 7, 40);
        s.due("to the other SIDE", x.add(0, 1, 0, 0, 0, 0), 0);
        s.due("the SIDE has as many as before", x.look(3), 40);
    }

    private void addToNoSide() {
        s.says(6, "One comes: its number; NONE with TROUBLE. NONE - 1: no such SIDE (no TROUBLE).");
        TimedJoin x = Sentences.inARow(0, 1);
        for (int side : NO_SIDES) {
            x.add(0, 9, 0, 0, 0, 0);
            s.due("add(" + side + ", ..)", x.add(side, 0, 0, 5, 5, 0), NONE - 1);
            s.causes("add(" + side + ", ..)", x);
            s.due("of a wrong ROW", x.add(side, 9, 99, 5, 4, 0), NONE - 1);
            s.causes("of a wrong ROW", x);
        }
        s.due("ROWS", x.look(2) + x.look(3), 1);
        x.sweep();
        s.due("in a sweep", x.add(2, 0, 0, 5, 5, 0), NONE - 1);
        s.causes("in a sweep", x);
    }

    private void addInASweep() {
        s.says(6, "add(): 2 because of 3 .. 7; or 8 alone.");
        TimedJoin x = Sentences.inARow(0, 40);
        x.sweep();
        s.due("ahead of the first EVENT", x.add(1, 0, 0, 0, 0, 0), NONE);
        s.causes("ahead of the first EVENT", x, 8, 0);
        s.due("to a SIDE that is full", x.add(0, 0, 0, 99, 99, 0), NONE);
        s.causes("to a SIDE that is full", x, 8, 0);
        x.step(79);
        s.due("ahead of the last EVENT", x.add(1, 9, 99, 5, 4, 0), NONE);
        s.causes("ahead of the last EVENT", x, 8, 79);
        s.due("none came", x.look(3), 0);
        x.step(1);
        s.due("behind the last EVENT", x.add(1, 0, 0, 0, 0, 0), 0);
        x.sweep();
        x.leave();
        s.due("behind leave()", x.add(1, 0, 0, 0, 0, 0), 1);
    }

    // ---- promise 7

    private void troubleOfNone() {
        s.says(7, "i NONE: how many. NONE - 9999999 if there is none such, or another what.");
        TimedJoin x = Sentences.inARow(0, 1);
        x.batch(9, 9, 9, 9, 9);
        for (int count = 0; count <= 3; count++) {
            trouble(x, count);
            s.due("how many", x.trouble(NONE, 0), count);
            s.due("how many, what 1", x.trouble(NONE, 1), count);
            for (int what = 0; what < 2; what++) {
                for (int i : new int[] {LEAST, -2, count, count + 1, MOST}) {
                    s.due("trouble(" + i + ", " + what + ") of " + count, x.trouble(i, what), NO_SUCH);
                }
            }
            for (int i = 0; i < 4; i++) {
                for (int what : new int[] {LEAST, -1, 2, 3, MOST}) {
                    s.due("trouble(" + i + ", " + what + ") of " + count, x.trouble(i, what), NO_SUCH);
                }
            }
        }
        s.says(7, "(0: the nearest)");
        s.due("the nearest", x.trouble(0, 0), 1);
        s.due("the last", x.trouble(2, 0), 3);
    }

    /** So that it has as many causes. */
    private static void trouble(TimedJoin x, int count) {
        switch (count) {
            case 0: x.set(0, 1); break;
            case 1: x.set(0, 2); break;
            case 2: x.add(0, 9, 0, 0, 0, 0); break;
            default: x.load(0);
        }
    }

    private void troubleNumbers() {
        s.says(7, "8 SWEEPING (EVENTS that are gone), 9 SETTING (what).");
        TimedJoin x = new TimedJoin();
        for (int k = 0; k < 40; k++) {
            x.add(0, 0, 0, k, k, 0);
            x.add(1, 0, 0, k, k, 0);
        }
        x.sweep();
        x.add(0, 0, 0, 99, 99, 0);
        s.causes("none is gone", x, 8, 0);
        x.step(159);
        x.sweep();
        s.causes("all but one are gone", x, 8, 159);
        x.set(1, 0);
        s.causes("set() of KINDS", x, 9, 1, 8, 159);
        x.set(LEAST, 0);
        s.causes("set() of the least what", x, 9, LEAST);
        x.set(NONE, 0);
        s.causes("set() of what NONE", x, 9, NONE);
        x.set(MOST, 0);
        s.causes("set() of the greatest what", x, 9, MOST);
    }

    private void troubleOfThoseAlone() {
        s.says(7, "TROUBLE: why the latest add(), load(), sweep(), set() (those alone) was refused");
        TimedJoin x = new TimedJoin();
        x.set(5, 5);
        s.due("step()", x.step(0), NONE);
        s.due("leave()", x.leave(), false);
        s.due("net()", x.net(0, 0, 1), false);
        s.due("lay()", x.lay(0, 2), false);
        s.due("image()", x.image(false), false);
        s.due("row()", x.row(0, 0, 0), NO_SUCH);
        s.due("trouble()", x.trouble(5, 5), NO_SUCH);
        s.due("clear()", x.clear(), 0);
        s.due("batch()", x.batch(9, 9, 9, 9, 9), 1);
        s.due("look()", x.look(99), NONE);
        s.causes("as it was", x, 9, 5);
        x.image(true);
        s.causes("an image leaves it", x, 9, 5);
        s.says(7, "Without TROUBLE it has none.");
        TimedJoin y = new TimedJoin();
        y.set(5, 5);
        y.add(0, 0, 0, 0, 5, 0);
        s.causes("behind add()", y);
        y.set(5, 5);
        y.load(0);
        s.causes("behind load() of none", y);
        y.set(5, 5);
        y.batch(0, 0, 0, 5, 0);
        y.load(0);
        s.causes("behind load()", y);
        y.set(5, 5);
        y.set(0, 0);
        s.causes("behind set()", y);
        y.set(5, 5);
        y.sweep();
        s.causes("behind sweep()", y);
        y.sweep();
        s.says(7, "sweep(): 8.");
        s.causes("sweep() again", y, 8, 0);
        y.step(3);
        y.sweep();
        s.causes("sweep() once more", y, 8, 3);
        y.step(1);
        s.causes("step() leaves it", y, 8, 3);
    }
}
