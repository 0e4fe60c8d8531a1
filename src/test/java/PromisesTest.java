/**
 * Each promise of the document by its number, with answers worked out by hand: ordinary inputs, the
 * edges that the document names, wrong inputs.
 */
public final class PromisesTest {
    private static final int NONE = TimedJoin.NONE;
    private static final int NO_SUCH = -10000000;
    private static final int[] ODD = {Integer.MIN_VALUE, -2, 99, Integer.MAX_VALUE};

    private final Check check = new Check("PromisesTest");
    private String promise;

    public static void main(String[] args) {
        new PromisesTest().runAll();
    }

    private void runAll() {
        newObject();
        settings();
        batchAndClear();
        loading();
        adding();
        troubles();
        sweeping();
        sweepMeasures();
        sweepAndLaterRows();
        rowsAndKinds();
        thirteenKinds();
        pairsOfASweep();
        covers();
        allPartners();
        ofKeys();
        madeOne();
        stepsAndSplits();
        latestAndMatched();
        lanesAndChains();
        setsOfKinds();
        nets();
        layings();
        images();
        looks();
        check.end();
    }

    private void due(String call, long got, long want) {
        check.due("promise " + promise + ": " + call, got, want);
    }

    private void due(String call, boolean got, boolean want) {
        check.due("promise " + promise + ": " + call, got, want);
    }

    /**
     * LEFT: 0 [0, 10) key 1 value 5 run 0; 1 [5, 5] key 1 value 7 run 0; 2 [8, 20) key 1 value 5 run 1;
     * 3 [8, 12) key 2 value 1 run 0. RIGHT, all of key 1: 0 [2, 6) value 3 run 0; 1 [6, 9) value 4
     * run 0; 2 [10, 10] value 2 run 0; 3 [5, 30) value 9 run 1.
     */
    private static TimedJoin eight() {
        TimedJoin x = new TimedJoin();
        x.add(0, 0, 1, 0, 10, 5);
        x.add(0, 0, 1, 5, 5, 7);
        x.add(0, 1, 1, 8, 20, 5);
        x.add(0, 0, 2, 8, 12, 1);
        x.add(1, 0, 1, 2, 6, 3);
        x.add(1, 0, 1, 6, 9, 4);
        x.add(1, 0, 1, 10, 10, 2);
        x.add(1, 1, 1, 5, 30, 9);
        return x;
    }

    private static TimedJoin full(int side, int n) {
        TimedJoin x = new TimedJoin();
        for (int k = 0; k < n; k++) {
            x.add(side, 0, 0, k, k + 1, k);
        }
        return x;
    }

    private void newObject() {
        promise = "1";
        TimedJoin x = new TimedJoin();
        due("NONE", TimedJoin.NONE, -1);
        int[] first = {1, 2044, 0, 0, 0, 0, 0, 0, 0, 0};
        for (int what = 0; what < 10; what++) {
            due("look(" + what + ")", x.look(what), first[what]);
        }
        for (int what = 0; what < 8; what++) {
            due("swept(" + what + ")", x.swept(what), 0);
        }
        due("pair(NONE, 0)", x.pair(NONE, 0), 0);
        due("trouble(NONE, 0)", x.trouble(NONE, 0), 0);
        due("active(1, NONE)", x.active(1, NONE), 0);
        due("row(0, 0, 0)", x.row(0, 0, 0), NO_SUCH);
        due("image(false)", x.image(false), false);
    }

    private void settings() {
        promise = "2";
        TimedJoin x = eight();
        due("set(0, 0)", x.set(0, 0), true);
        due("KEYED is 0", x.look(0), 0);
        due("partners across keys", x.row(0, 3, 6), 3);
        due("set(0, 1)", x.set(0, 1), true);
        due("KEYED is 1", x.look(0), 1);
        due("set(1, 256)", x.set(1, 256), true);
        due("KINDS", x.look(1), 256);
        due("partners of kind 8", x.row(0, 0, 6), 2);
        due("set(1, 0)", x.set(1, 0), true);
        due("no kinds, no partners", x.row(0, 0, 6), 0);
        due("set(1, 2044)", x.set(1, 2044), true);
        int[] wrongSets = {1, 2, 2045, 2046, 2048, 4096, 8191, -1, Integer.MIN_VALUE};
        for (int v : wrongSets) {
            due("set(1, " + v + ")", x.set(1, v), false);
            due("one cause", x.trouble(NONE, 0), 1);
            due("SETTING", x.trouble(0, 0), 9);
            due("what", x.trouble(0, 1), 1);
        }
        due("KINDS stay", x.look(1), 2044);
        for (int v : ODD) {
            due("set(0, " + v + ")", x.set(0, v), false);
            due("set(" + v + ", 0)", x.set(v, 0), false);
            due("what", x.trouble(0, 1), v);
        }
        due("set(2, 1)", x.set(2, 1), false);
        due("set(-1, 1)", x.set(-1, 1), false);
        x.sweep();
        x.step(3);
        due("set(0, 0) in a sweep", x.set(0, 0), false);
        due("two causes", x.trouble(NONE, 0), 2);
        due("SETTING", x.trouble(0, 0), 9);
        due("SWEEPING", x.trouble(1, 0), 8);
        due("events gone", x.trouble(1, 1), 3);
        due("set(1, 1) in a sweep", x.set(1, 1), false);
        due("it could not be told else", x.trouble(NONE, 0), 1);
        due("KEYED stays", x.look(0), 1);
        x.leave();
        due("set(0, 0) behind the sweep", x.set(0, 0), true);
        due("no trouble", x.trouble(NONE, 0), 0);
    }

    private void batchAndClear() {
        promise = "3";
        TimedJoin x = new TimedJoin();
        for (int k = 1; k <= 40; k++) {
            due("batch of anything", x.batch(-k, 1000 * k, k, -k, k), k);
        }
        due("batch of 41", x.batch(0, 0, 0, 0, 0), NONE);
        due("in the batch", x.look(4), 40);
        promise = "4";
        due("clear()", x.clear(), 40);
        due("in the batch", x.look(4), 0);
        due("clear() again", x.clear(), 0);
        x.add(0, 0, 0, 0, 1, 0);
        x.sweep();
        promise = "3";
        due("batch in a sweep", x.batch(0, 0, 0, 0, 0), 1);
        promise = "4";
        due("clear in a sweep", x.clear(), 1);
        x.set(7, 0);
        x.batch(0, 0, 0, 0, 0);
        x.clear();
        promise = "7";
        due("batch and clear leave trouble as it is", x.trouble(0, 1), 7);
    }

    private void causes(TimedJoin x, int... pairs) {
        due("how many causes", x.trouble(NONE, 0), pairs.length / 2);
        for (int c = 0; c < pairs.length / 2; c++) {
            due("cause " + c, x.trouble(c, 0), pairs[2 * c]);
            due("number " + c, x.trouble(c, 1), pairs[2 * c + 1]);
        }
    }

    private void loading() {
        promise = "5";
        TimedJoin x = new TimedJoin();
        x.batch(0, 1, 5, 6, 10);
        x.batch(3, 9, -1000000, 1000000, Integer.MIN_VALUE);
        x.batch(0, 1, 5, 5, 11);
        due("load(2)", x.load(2), NONE - 1);
        due("no trouble", x.trouble(NONE, 0), 0);
        due("the batch stays", x.look(4), 3);
        due("load(1)", x.load(1), 3);
        due("the batch is empty", x.look(4), 0);
        due("rows", x.look(3), 3);
        due("value", x.row(1, 1, 4), Integer.MIN_VALUE);
        due("end", x.row(1, 1, 3), 1000000);
        due("load(1) of nothing", x.load(1), 0);
        x.batch(1, 1, 0, 1, 0);
        x.batch(0, 1, 4, 9, 0);
        due("behind the run's last", x.load(1), NONE);
        causes(x, 1, 2, 2, 1, 6, 1);
        due("none has come", x.look(3), 3);
        due("the batch stays", x.look(4), 2);
        due("the same for the other side", x.load(0), 2);
        x.batch(2, 1, 9, 9, 0);
        x.batch(2, 1, 2, 9, 0);
        due("order within the batch", x.load(0), NONE);
        causes(x, 1, 2, 2, 1, 6, 7);
        due("load(-1)", x.load(-1), NONE - 1);
        causes(x);
        x.clear();
        x.batch(4, 10, 5, 4, 0);
        due("the run is first", x.load(0), NONE);
        causes(x, 1, 1, 2, 0, 3, 4);
        x.sweep();
        x.step(1);
        due("load in a sweep", x.load(0), NONE);
        causes(x, 1, 1, 8, 1);
        due("load(9) in a sweep", x.load(9), NONE - 1);
        causes(x);
        loadingTooMany();
    }

    private void loadingTooMany() {
        TimedJoin x = full(0, 38);
        x.batch(0, 0, 50, 50, 0);
        x.batch(0, 0, 50, 50, 0);
        x.batch(9, 99, 50, 40, 0);
        due("one too many, whatever it is", x.load(0), NONE);
        causes(x, 1, 3, 2, 2, 7, 40);
        due("rows as before", x.look(2), 38);
        TimedJoin y = full(0, 38);
        y.batch(0, 0, 50, 50, 0);
        y.batch(0, 0, 50, 50, 0);
        due("just as many as there is room for", y.load(0), 2);
        due("rows", y.look(2), 40);
        y.batch(0, 0, 60, 60, 0);
        due("full", y.load(0), NONE);
        causes(y, 1, 1, 2, 0, 7, 40);
        due("the other side has room", y.load(1), 1);
    }

    private void adding() {
        promise = "6";
        TimedJoin x = new TimedJoin();
        due("first", x.add(0, 3, 9, 1000000, 1000000, 1), 0);
        due("second", x.add(0, 0, 0, -1000000, -1000000, 1), 1);
        due("other side", x.add(1, 0, 0, 0, 0, 1), 0);
        due("same start in the run", x.add(1, 0, 0, 0, 7, 1), 1);
        due("less in another run", x.add(1, 1, 0, -5, 7, 1), 2);
        due("less in the run", x.add(1, 0, 0, -5, 7, 1), NONE);
        causes(x, 2, 0, 6, 5);
        due("run -1", x.add(1, -1, 77, 5, 4, 1), NONE);
        causes(x, 2, 0, 3, -1);
        due("run 4", x.add(1, 4, 0, 5, 6, 1), NONE);
        causes(x, 2, 0, 3, 4);
        due("key 10", x.add(1, 0, 10, 5, 4, 1), NONE);
        causes(x, 2, 0, 4, 10);
        due("key -1", x.add(1, 0, -1, 5, 6, 1), NONE);
        causes(x, 2, 0, 4, -1);
        due("start too great", x.add(1, 0, 0, 1000001, 1000001, 1), NONE);
        causes(x, 2, 0, 5, 1);
        due("start too small", x.add(1, 0, 0, Integer.MIN_VALUE, 0, 1), NONE);
        causes(x, 2, 0, 5, 1);
        due("end too great", x.add(1, 0, 0, 0, 1000001, 1), NONE);
        causes(x, 2, 0, 5, 2);
        due("end too small", x.add(1, 0, 0, 0, -1000001, 1), NONE);
        causes(x, 2, 0, 5, 2);
        due("end less", x.add(1, 0, 0, -7, -8, 1), NONE);
        causes(x, 2, 0, 5, 3);
        due("no side", x.add(2, 9, 99, 5, 4, 1), NONE - 1);
        causes(x);
        due("no side", x.add(-1, 0, 0, 0, 0, 1), NONE - 1);
        due("rows", x.look(3), 3);
        TimedJoin y = full(1, 40);
        due("full", y.add(1, 77, 0, 100, 100, 1), NONE);
        causes(y, 2, 0, 7, 40);
        y.sweep();
        y.step(5);
        due("in a sweep", y.add(0, 77, 0, 0, 0, 0), NONE);
        causes(y, 8, 5);
        due("no side in a sweep", y.add(5, 0, 0, 0, 0, 0), NONE - 1);
        causes(y);
    }

    private void troubles() {
        promise = "7";
        TimedJoin x = new TimedJoin();
        x.add(0, 7, 0, 0, 0, 0);
        due("how many", x.trouble(NONE, 0), 2);
        due("beyond", x.trouble(2, 0), NO_SUCH);
        due("what 2", x.trouble(0, 2), NO_SUCH);
        due("what -1", x.trouble(0, -1), NO_SUCH);
        for (int odd : ODD) {
            due("i", x.trouble(odd, 0), NO_SUCH);
            due("what", x.trouble(0, odd), NO_SUCH);
        }
        x.step(1);
        x.leave();
        x.net(9, 9, 9);
        x.lay(0, 2);
        x.batch(0, 0, 0, 0, 0);
        due("others leave it", x.trouble(NONE, 0), 2);
        x.set(1, 4);
        due("set() took it away", x.trouble(NONE, 0), 0);
        x.set(1, 1);
        x.load(0);
        due("load() took it away", x.trouble(NONE, 0), 0);
        x.set(1, 1);
        x.add(0, 0, 0, 0, 0, 0);
        due("add() took it away", x.trouble(NONE, 0), 0);
        x.set(1, 1);
        x.sweep();
        due("sweep() took it away", x.trouble(NONE, 0), 0);
    }

    private void sweeping() {
        promise = "8";
        TimedJoin none = new TimedJoin();
        due("nothing to sweep", none.sweep(), 0);
        due("not sweeping", none.look(5), 0);
        TimedJoin x = eight();
        due("sweep()", x.sweep(), 16);
        due("sweeping", x.look(5), 1);
        x.step(2);
        due("sweep() again", x.sweep(), NONE);
        causes(x, 8, 2);
        promise = "9";
        for (int n : new int[] {0, -1, 161, Integer.MIN_VALUE, Integer.MAX_VALUE}) {
            due("step(" + n + ")", x.step(n), NONE);
        }
        due("step(1)", x.step(1), 1);
        due("step(160)", x.step(160), 13);
        due("all gone", x.look(5), 0);
        due("step(1) behind it", x.step(1), NONE);
        promise = "10";
        due("leave() behind it", x.leave(), false);
        promise = "8";
        due("sweep() anew", x.sweep(), 16);
        due("no pairs yet", x.pair(NONE, 0), 0);
        due("none active", x.active(0, NONE), 0);
        x.step(4);
        promise = "10";
        due("leave()", x.leave(), true);
        due("leave() again", x.leave(), false);
        due("not sweeping", x.look(5), 0);
        due("pairs stay", x.pair(NONE, 0), 4);
        due("active stays", x.active(0, 1), 1);
        promise = "9";
        due("step() of what is left", x.step(1), NONE);
        TimedJoin all = full(0, 40);
        for (int k = 0; k < 40; k++) {
            all.add(1, 0, 0, 0, 100, 0);
        }
        due("events", all.sweep(), 160);
        due("step(160) of all", all.step(160), 160);
        due("all gone", all.look(5), 0);
        due("pairs of all", all.look(6), 1600);
        due("the last pair", all.pair(1599, 0), 39);
    }

    private void sweepMeasures() {
        TimedJoin x = eight();
        x.sweep();
        // events by place: L0+ 0, R0+ 4, L1+ R3+ 10, L1- 11, R0- 12, R1+ 12, L2+ L3+ 16, R1- 18, L0- 20,
        // R2+ 20, R2- 21, L3- 24, L2- 40, R3- 60
        int[][] measures = {
            {0, 16, 4, 4, 4, 0, 0, 0}, {1, 15, 4, 5, 5, 1, 0, 0}, {2, 14, 4, 6, 6, 2, 0, 4}, {3, 13, 4, 7, 7, 3, 0, 10},
            {4, 12, 3, 7, 7, 4, 0, 10}, {5, 11, 3, 6, 7, 4, 0, 11}, {6, 10, 3, 5, 7, 4, 1, 12},
            {7, 9, 3, 6, 7, 4, 1, 12}, {8, 8, 2, 6, 7, 4, 1, 16}, {9, 7, 1, 6, 7, 5, 1, 16}, {10, 6, 1, 5, 7, 5, 1, 18},
            {11, 5, 1, 4, 7, 5, 2, 20}, {12, 4, 0, 4, 7, 5, 2, 20}, {13, 3, 0, 3, 7, 5, 2, 21}, {14, 2, 0, 2, 7, 5, 3, 24},
            {15, 1, 0, 1, 7, 5, 3, 40}, {16, 0, 0, 0, 7, 5, 3, 60}};
        int[][] lefts = {
            {}, {0}, {0}, {0, 1}, {0, 1}, {0}, {0}, {0}, {0, 2}, {0, 2, 3}, {0, 2, 3}, {3, 2}, {3, 2}, {3, 2}, {2}, {}, {}};
        int[][] rights = {
            {}, {}, {0}, {0}, {0, 3}, {0, 3}, {3}, {3, 1}, {3, 1}, {3, 1}, {3}, {3}, {3, 2}, {3}, {3}, {3}, {}};
        for (int e = 0; e <= 16; e++) {
            promise = "15";
            for (int what = 0; what < 8; what++) {
                due("swept(" + what + ") behind " + e, x.swept(what), measures[e][what]);
            }
            promise = "13";
            activeIs(x, 0, lefts[e]);
            activeIs(x, 1, rights[e]);
            x.step(1);
        }
        promise = "13";
        for (int odd : ODD) {
            due("active(0, i)", x.active(0, odd), NONE);
            due("active(side, 0)", x.active(odd, 0), NONE);
            due("active(side, NONE)", x.active(odd, NONE), NONE);
        }
        promise = "15";
        for (int what : new int[] {-1, 8, Integer.MIN_VALUE, Integer.MAX_VALUE}) {
            due("swept(" + what + ")", x.swept(what), NO_SUCH);
        }
    }

    private void activeIs(TimedJoin x, int side, int[] want) {
        due("active(" + side + ", NONE)", x.active(side, NONE), want.length);
        for (int i = 0; i < want.length; i++) {
            due("active(" + side + ", " + i + ")", x.active(side, i), want[i]);
        }
        due("active behind the last", x.active(side, want.length), NONE);
    }

    private void sweepAndLaterRows() {
        promise = "15";
        TimedJoin x = eight();
        x.sweep();
        x.step(4);
        x.leave();
        due("add() behind leave()", x.add(0, 3, 1, 100, 200, 0), 4);
        due("heads of the rows that were there", x.swept(2), 3);
        due("to come", x.swept(1), 12);
        due("held", x.swept(3), 7);
        x.set(1, 4);
        promise = "14";
        due("pairs stay when kinds change", x.pair(NONE, 0), 4);
        due("and what they are", x.pair(3, 2), 3);
        promise = "8";
        due("the next sweep has all", x.sweep(), 18);
        promise = "15";
        due("heads", x.swept(2), 5);
        due("latest place", x.swept(7), 0);
        promise = "14";
        due("no pairs", x.pair(NONE, 0), 0);
        x.step(160);
        due("pairs of kind 2", x.pair(NONE, 0), 1);
        due("left", x.pair(0, 0), 0);
        due("right", x.pair(0, 1), 3);
        promise = "15";
        x.sweep();
        int[] begun = {0, 18, 5, 5, 5, 0, 0, 0};
        for (int what = 0; what < 8; what++) {
            due("swept(" + what + ") of a later sweep", x.swept(what), begun[what]);
        }
    }

    private void rowsAndKinds() {
        promise = "11";
        TimedJoin x = eight();
        int[][] lefts = {
            {0, 1, 0, 10, 5, 10, 3, 2, 3, 1, 8}, {0, 1, 5, 5, 7, 0, 2, 2, 1, 0, 0},
            {1, 1, 8, 20, 5, 12, 3, 2, 1, 0, 12}, {0, 2, 8, 12, 1, 4, 0, 0, 1, 1, 0}};
        int[][] rights = {
            {0, 1, 2, 6, 3, 4, 2, 2, 1, 0, 4}, {0, 1, 6, 9, 4, 3, 2, 2, 1, 0, 3},
            {0, 1, 10, 10, 2, 0, 1, 1, 1, 0, 0}, {1, 1, 5, 30, 9, 25, 3, 2, 3, 1, 15}};
        for (int r = 0; r < 4; r++) {
            for (int what = 0; what < 11; what++) {
                due("row(0, " + r + ", " + what + ")", x.row(0, r, what), lefts[r][what]);
                due("row(1, " + r + ", " + what + ")", x.row(1, r, what), rights[r][what]);
            }
        }
        for (int odd : new int[] {-1, 4, Integer.MIN_VALUE, Integer.MAX_VALUE}) {
            due("row(0, odd, 0)", x.row(0, odd, 0), NO_SUCH);
            due("row(odd, 0, 0)", x.row(odd, 0, 0), NO_SUCH);
        }
        for (int odd : new int[] {-1, 11, Integer.MIN_VALUE, Integer.MAX_VALUE}) {
            due("row(0, 0, odd)", x.row(0, 0, odd), NO_SUCH);
        }
        promise = "12";
        int[][] kinds = {{8, 8, 1, 2}, {4, 0, 0, 3}, {12, 10, 8, 4}, {12, 10, 8, 4}};
        for (int l = 0; l < 4; l++) {
            for (int r = 0; r < 4; r++) {
                due("kind(0, " + l + ", 1, " + r + ")", x.kind(0, l, 1, r), kinds[l][r]);
                due("kind(1, " + r + ", 0, " + l + ")", x.kind(1, r, 0, l), 12 - kinds[l][r]);
            }
        }
        due("of one side", x.kind(0, 2, 0, 3), 9);
        due("of itself", x.kind(1, 2, 1, 2), 6);
        for (int odd : new int[] {-1, 4, Integer.MIN_VALUE, Integer.MAX_VALUE}) {
            due("no row", x.kind(0, odd, 1, 0), NONE);
            due("no other", x.kind(0, 0, 1, odd), NONE);
            due("no side", x.kind(odd, 0, 1, 0), NONE);
            due("no other side", x.kind(0, 0, odd, 0), NONE);
        }
    }

    private static int kindOf(int aStart, int aEnd, int bStart, int bEnd) {
        TimedJoin x = new TimedJoin();
        x.add(0, 0, 0, aStart, aEnd, 0);
        x.add(1, 0, 0, bStart, bEnd, 0);
        return x.kind(0, 0, 1, 0);
    }

    private void thirteenKinds() {
        promise = "12";
        int[][] spans = {
            {0, 2, 4, 8}, {0, 4, 4, 8}, {0, 6, 4, 8}, {4, 6, 4, 8}, {5, 6, 4, 8}, {5, 8, 4, 8}, {4, 8, 4, 8},
            {2, 8, 4, 8}, {2, 9, 4, 8}, {4, 9, 4, 8}, {6, 9, 4, 8}, {8, 9, 4, 8}, {9, 9, 4, 8}};
        for (int k = 0; k < 13; k++) {
            due("kind " + k, kindOf(spans[k][0], spans[k][1], spans[k][2], spans[k][3]), k);
            due("turned " + k, kindOf(spans[k][2], spans[k][3], spans[k][0], spans[k][1]), 12 - k);
            due("below 0 " + k, kindOf(spans[k][0] - 9, spans[k][1] - 9, spans[k][2] - 9, spans[k][3] - 9), k);
        }
        due("empty before its start", kindOf(3, 3, 4, 8), 0);
        due("empty at its start", kindOf(4, 4, 4, 8), 3);
        due("empty inside", kindOf(5, 5, 4, 8), 4);
        due("empty just inside", kindOf(7, 7, 4, 8), 4);
        due("empty at its end", kindOf(8, 8, 4, 8), 11);
        due("empty behind its end", kindOf(9, 9, 4, 8), 12);
        due("both empty alike", kindOf(4, 4, 4, 4), 6);
        due("both empty next to one another", kindOf(4, 4, 5, 5), 0);
        due("bounds", kindOf(-1000000, 1000000, 1000000, 1000000), 1);
    }

    private void pairsOfASweep() {
        promise = "14";
        TimedJoin x = eight();
        x.sweep();
        x.step(160);
        int[][] pairs = {
            {0, 0, 8, 2, 6, 4}, {1, 0, 4, 5, 5, 0}, {0, 3, 2, 5, 10, 5}, {1, 3, 3, 5, 5, 0}, {0, 1, 8, 6, 9, 3},
            {2, 3, 4, 8, 20, 12}, {2, 1, 10, 8, 9, 1}, {2, 2, 8, 10, 10, 0}};
        due("how many", x.pair(NONE, 0), 8);
        for (int p = 0; p < 8; p++) {
            for (int what = 0; what < 6; what++) {
                due("pair(" + p + ", " + what + ")", x.pair(p, what), pairs[p][what]);
            }
        }
        for (int odd : new int[] {-2, 8, Integer.MIN_VALUE, Integer.MAX_VALUE}) {
            due("no pair", x.pair(odd, 0), NO_SUCH);
            due("no what", x.pair(0, odd), NO_SUCH);
        }
        due("what 6", x.pair(0, 6), NO_SUCH);
        due("what -1", x.pair(0, -1), NO_SUCH);
        x.set(0, 0);
        x.set(1, 256 + 16);
        x.sweep();
        x.step(160);
        // as R2 starts, LEFT 3 has come to where LEFT 0 was
        int[] lefts = {0, 1, 0, 2, 3, 3, 2};
        int[] rights = {0, 0, 1, 3, 3, 2, 2};
        due("of kinds 4, 8 across keys", x.pair(NONE, 0), 7);
        for (int p = 0; p < 7; p++) {
            due("left of " + p, x.pair(p, 0), lefts[p]);
            due("right of " + p, x.pair(p, 1), rights[p]);
        }
    }

    private void pieceIs(TimedJoin x, int side, int row, int[]... pieces) {
        due("how many pieces", x.row(side, row, 8), pieces.length);
        for (int p = 0; p < pieces.length; p++) {
            for (int what = 0; what < 3; what++) {
                due("piece(" + side + ", " + row + ", " + p + ", " + what + ")", x.piece(side, row, p, what), pieces[p][what]);
            }
        }
        due("piece behind the last", x.piece(side, row, pieces.length, 0), NO_SUCH);
    }

    private void covers() {
        promise = "16";
        TimedJoin x = eight();
        pieceIs(x, 0, 0, new int[] {0, 2, NONE}, new int[] {2, 6, 0}, new int[] {6, 10, 3});
        pieceIs(x, 0, 1, new int[] {5, 5, 3});
        pieceIs(x, 0, 2, new int[] {8, 20, 3});
        pieceIs(x, 0, 3, new int[] {8, 12, NONE});
        pieceIs(x, 1, 3, new int[] {5, 10, 0}, new int[] {10, 20, 2}, new int[] {20, 30, NONE});
        for (int odd : new int[] {-1, 3, Integer.MIN_VALUE, Integer.MAX_VALUE}) {
            due("no piece", x.piece(0, 0, odd, 0), NO_SUCH);
            due("no what", x.piece(0, 0, 0, odd), NO_SUCH);
            due("no side", x.piece(odd, 0, 0, 0), NO_SUCH);
        }
        due("no row", x.piece(0, 4, 0, 0), NO_SUCH);
        promise = "17";
        int[][] lefts = {{0, 0, 2}, {3, 8, 12}};
        due("left(0, NONE)", x.left(0, NONE, 0), 2);
        due("left(1, NONE)", x.left(1, NONE, 0), 1);
        for (int i = 0; i < 2; i++) {
            for (int what = 0; what < 3; what++) {
                due("left(0, " + i + ", " + what + ")", x.left(0, i, what), lefts[i][what]);
            }
        }
        due("row of the right", x.left(1, 0, 0), 3);
        due("from", x.left(1, 0, 1), 20);
        due("to", x.left(1, 0, 2), 30);
        for (int odd : new int[] {-2, 3, Integer.MIN_VALUE, Integer.MAX_VALUE}) {
            due("no such", x.left(0, odd, 0), NO_SUCH);
            due("no what", x.left(0, 0, odd), NO_SUCH);
            due("no side", x.left(odd, 0, 0), NO_SUCH);
            due("no side, how many", x.left(odd, NONE, 0), NO_SUCH);
        }
        coverOfEmpties();
    }

    private void coverOfEmpties() {
        promise = "16";
        TimedJoin x = new TimedJoin();
        x.add(0, 0, 0, 0, 10, 0);
        x.add(1, 0, 0, 0, 0, 0);
        x.add(1, 0, 0, 5, 5, 0);
        x.add(1, 0, 0, 5, 5, 0);
        x.add(1, 0, 0, 6, 10, 0);
        x.add(1, 0, 0, 6, 10, 0);
        x.add(1, 0, 0, 10, 10, 0);
        pieceIs(x, 0, 0, new int[] {0, 0, 0}, new int[] {0, 5, NONE}, new int[] {5, 5, 1}, new int[] {5, 6, NONE},
            new int[] {6, 10, 3});
        due("long by partners", x.row(0, 0, 10), 4);
        due("depth", x.row(0, 0, 7), 2);
        x.set(1, 2044 - 128);
        pieceIs(x, 0, 0, new int[] {0, 0, 0}, new int[] {0, 5, NONE}, new int[] {5, 5, 1}, new int[] {5, 10, NONE});
        TimedJoin y = new TimedJoin();
        y.add(0, 0, 0, 0, 1000, 0);
        for (int k = 0; k < 40; k++) {
            y.add(1, 0, 0, 10 * k + 5, 10 * k + 8, 0);
        }
        due("partners, all of the other side", y.row(0, 0, 6), 40);
        due("one at once", y.row(0, 0, 7), 1);
        due("the most pieces", y.row(0, 0, 8), 81);
        due("the last of them", y.piece(0, 0, 80, 1), 1000);
        due("the last but one", y.piece(0, 0, 79, 2), 39);
        promise = "17";
        due("left over of all", y.left(0, NONE, 0), 41);
        promise = "25";
        due("the most parts", y.split(0, 0, NONE, 0), 81);
        promise = "17";
        due("left over of all", x.left(0, NONE, 0), 2);
        due("the second from", x.left(0, 1, 1), 5);
        due("the second to", x.left(0, 1, 2), 10);
    }

    private void allPartners() {
        promise = "18";
        TimedJoin x = eight();
        int[] keyed = {2, 1, 1, 1, 2, 0, 0, 0, 3, 0, 1, 0, 1};
        int[] across = {2, 1, 1, 1, 3, 0, 0, 0, 4, 0, 2, 0, 2};
        for (int k = 0; k < 13; k++) {
            due("kinds(" + k + ")", x.kinds(k), keyed[k]);
        }
        for (int odd : new int[] {-1, 13, Integer.MIN_VALUE, Integer.MAX_VALUE}) {
            due("kinds(" + odd + ")", x.kinds(odd), NONE);
        }
        promise = "19";
        due("shared(1)", x.shared(1), 25);
        due("shared(2)", x.shared(2), 0);
        due("shared(NONE)", x.shared(NONE), 25);
        due("shared(10)", x.shared(10), NONE);
        due("shared(-2)", x.shared(-2), NONE);
        x.set(0, 0);
        due("shared(2) across keys", x.shared(2), 5);
        due("shared(NONE) across keys", x.shared(NONE), 30);
        x.set(1, 256);
        due("shared(1) of kind 8", x.shared(1), 7);
        promise = "18";
        for (int k = 0; k < 13; k++) {
            due("kinds(" + k + ") across keys, KINDS aside", x.kinds(k), across[k]);
        }
        promise = "19";
        TimedJoin y = new TimedJoin();
        for (int k = 0; k < 40; k++) {
            y.add(0, 0, 0, -1000000, 1000000, Integer.MIN_VALUE);
            y.add(1, 0, 0, -1000000, 1000000, Integer.MAX_VALUE);
        }
        due("more than an int", y.shared(0), 1600L * 2000000L);
        promise = "20";
        due("weight(0, 0)", y.weight(0, 0), 40L * 2000000L * Integer.MIN_VALUE);
        due("weight(1, 0)", y.weight(1, 0), 40L * 2000000L * Integer.MAX_VALUE);
    }

    private void ofKeys() {
        promise = "20";
        TimedJoin x = eight();
        due("weight(0, 1)", x.weight(0, 1), 110);
        due("weight(0, 2)", x.weight(0, 2), 4);
        due("weight(1, 1)", x.weight(1, 1), 249);
        due("weight(1, 9)", x.weight(1, 9), 0);
        due("weight(0, NONE)", x.weight(0, NONE), NONE);
        due("weight(0, 10)", x.weight(0, 10), NONE);
        due("weight(2, 1)", x.weight(2, 1), NONE);
        promise = "21";
        due("live at an empty one", x.live(0, 1, 5), 2);
        due("live(0, NONE, 9)", x.live(0, NONE, 9), 3);
        due("live(0, 1, 9)", x.live(0, 1, 9), 2);
        due("at an END no more", x.live(0, 1, 10), 1);
        due("live(1, 1, 10)", x.live(1, 1, 10), 2);
        due("live(1, 1, 11)", x.live(1, 1, 11), 1);
        due("the bounds", x.live(1, 1, 1000000), 0);
        due("the bounds", x.live(1, 1, -1000000), 0);
        due("out of bounds", x.live(1, 1, 1000001), NONE);
        due("out of bounds", x.live(1, 1, -1000001), NONE);
        due("no key", x.live(1, 10, 0), NONE);
        due("no key", x.live(1, -2, 0), NONE);
        due("no side", x.live(2, 1, 0), NONE);
        promise = "22";
        due("crowd(1, 0)", x.crowd(1, 0), 4);
        due("crowd(1, 1)", x.crowd(1, 1), 5);
        due("crowd(2, 0)", x.crowd(2, 0), 1);
        due("crowd(2, 1)", x.crowd(2, 1), 8);
        due("crowd(3, 0)", x.crowd(3, 0), 0);
        due("crowd(3, 1)", x.crowd(3, 1), 0);
        due("crowd(NONE, 0)", x.crowd(NONE, 0), NO_SUCH);
        due("crowd(10, 0)", x.crowd(10, 0), NO_SUCH);
        due("crowd(1, 2)", x.crowd(1, 2), NO_SUCH);
        due("crowd(1, -1)", x.crowd(1, -1), NO_SUCH);
        x.add(1, 2, 1, -7, -7, 0);
        x.add(1, 2, 3, -7, -7, 0);
        due("not the first of all", x.crowd(1, 1), 5);
        due("below 0", x.crowd(3, 1), -7);
        x.add(1, 2, 4, 9, 10, 0);
        x.add(0, 2, 4, 15, 16, 0);
        x.add(1, 3, 4, 3, 4, 0);
        x.add(1, 3, 4, 13, 14, 0);
        due("as many at several times", x.crowd(4, 0), 1);
        due("the first of them", x.crowd(4, 1), 3);
    }

    private void oneIs(TimedJoin x, int side, int[]... spans) {
        due("how many spans", x.one(side, NONE, 0), spans.length);
        for (int i = 0; i < spans.length; i++) {
            for (int what = 0; what < 5; what++) {
                due("one(" + side + ", " + i + ", " + what + ")", x.one(side, i, what), spans[i][what]);
            }
        }
        due("one behind the last", x.one(side, spans.length, 0), NO_SUCH);
    }

    private void madeOne() {
        promise = "23";
        TimedJoin x = eight();
        oneIs(x, 0, new int[] {1, 0, 20, 5, 2}, new int[] {1, 5, 5, 7, 1}, new int[] {2, 8, 12, 1, 1});
        for (int odd : new int[] {-2, 5, Integer.MIN_VALUE, Integer.MAX_VALUE}) {
            due("no such", x.one(0, odd, 0), NO_SUCH);
            due("no what", x.one(0, 0, odd), NO_SUCH);
            due("no side", x.one(odd, 0, 0), NO_SUCH);
            due("no side, how many", x.one(odd, NONE, 0), NO_SUCH);
        }
        due("what -1", x.one(0, 0, -1), NO_SUCH);
        TimedJoin y = new TimedJoin();
        y.add(1, 3, 4, 0, 9, -1);
        y.add(1, 0, 4, 0, 2, -2);
        y.add(1, 0, 4, 2, 4, -2);
        y.add(1, 0, 4, 4, 4, -2);
        y.add(1, 0, 4, 5, 5, -2);
        y.add(1, 1, 4, 6, 8, -2);
        y.add(1, 0, 4, 6, 7, -2);
        y.add(1, 0, 3, 7, 7, Integer.MAX_VALUE);
        y.add(1, 0, 3, 7, 7, Integer.MIN_VALUE);
        y.add(1, 0, 4, 8, 9, -2);
        oneIs(y, 1, new int[] {3, 7, 7, Integer.MIN_VALUE, 1}, new int[] {3, 7, 7, Integer.MAX_VALUE, 1},
            new int[] {4, 0, 4, -2, 3}, new int[] {4, 0, 9, -1, 1}, new int[] {4, 5, 5, -2, 1}, new int[] {4, 6, 9, -2, 3});
        y.add(0, 0, 0, -9, -9, NO_SUCH);
        y.add(0, 0, 0, -7, -7, NO_SUCH);
        oneIs(y, 0, new int[] {0, -9, -9, NO_SUCH, 1}, new int[] {0, -7, -7, NO_SUCH, 1});
    }

    private void stepsAndSplits() {
        promise = "24";
        TimedJoin x = eight();
        int[][] steps = {
            {0, 2, 1, 5}, {2, 5, 2, 8}, {5, 5, 4, 24}, {5, 6, 3, 17}, {6, 8, 3, 18}, {8, 9, 4, 23}, {9, 10, 3, 19},
            {10, 10, 3, 16}, {10, 20, 2, 14}, {20, 30, 1, 9}};
        due("how many", x.steps(1, NONE, 0), 10);
        for (int i = 0; i < 10; i++) {
            for (int what = 0; what < 4; what++) {
                due("steps(1, " + i + ", " + what + ")", x.steps(1, i, what), steps[i][what]);
            }
        }
        for (int odd : new int[] {-2, 10, Integer.MIN_VALUE, Integer.MAX_VALUE}) {
            due("no such", x.steps(1, odd, 0), NO_SUCH);
            due("no what", x.steps(1, 0, odd), NO_SUCH);
            due("no key", x.steps(odd, 0, 0), NO_SUCH);
            due("no key, how many", x.steps(odd, NONE, 0), NO_SUCH);
        }
        due("what 4", x.steps(1, 0, 4), NO_SUCH);
        due("key NONE", x.steps(NONE, NONE, 0), NO_SUCH);
        x.add(0, 2, 3, 0, 1, Integer.MAX_VALUE);
        x.add(1, 2, 3, 0, 1, 1);
        x.add(1, 2, 3, 3, 3, 1);
        due("a gap is none of them", x.steps(3, NONE, 0), 2);
        due("values wrap", x.steps(3, 0, 3), Integer.MIN_VALUE);
        due("behind the gap", x.steps(3, 1, 0), 3);
        promise = "25";
        TimedJoin y = eight();
        int[][] parts = {{0, 2, 0}, {2, 5, 1}, {5, 6, 2}, {6, 9, 2}, {9, 10, 1}};
        due("how many", y.split(0, 0, NONE, 0), 5);
        for (int i = 0; i < 5; i++) {
            for (int what = 0; what < 3; what++) {
                due("split(0, 0, " + i + ", " + what + ")", y.split(0, 0, i, what), parts[i][what]);
            }
        }
        due("empty: one part", y.split(0, 1, NONE, 0), 1);
        due("empty: partners", y.split(0, 1, 0, 2), 2);
        due("alone: one part", y.split(0, 3, NONE, 0), 1);
        due("alone: partners", y.split(0, 3, 0, 2), 0);
        due("around an empty one", y.split(0, 2, NONE, 0), 4);
        due("the empty one's part from", y.split(0, 2, 2, 0), 10);
        due("the empty one's part to", y.split(0, 2, 2, 1), 10);
        due("the empty one's part", y.split(0, 2, 2, 2), 2);
        for (int odd : new int[] {-2, 5, Integer.MIN_VALUE, Integer.MAX_VALUE}) {
            due("no such", y.split(0, 0, odd, 0), NO_SUCH);
            due("no what", y.split(0, 0, 0, odd), NO_SUCH);
            due("no row", y.split(0, odd, NONE, 0), NO_SUCH);
            due("no side", y.split(odd, 0, NONE, 0), NO_SUCH);
        }
        due("what 3", y.split(0, 0, 0, 3), NO_SUCH);
    }

    private void latestAndMatched() {
        promise = "26";
        TimedJoin x = eight();
        int[] ofLeft = {NONE, 3, 1, NONE};
        int[] ofRight = {0, 1, 2, 1};
        for (int r = 0; r < 4; r++) {
            due("latest(0, " + r + ")", x.latest(0, r), ofLeft[r]);
            due("latest(1, " + r + ")", x.latest(1, r), ofRight[r]);
        }
        for (int odd : new int[] {-1, 4, Integer.MIN_VALUE, Integer.MAX_VALUE}) {
            due("no row", x.latest(0, odd), NONE);
            due("no side", x.latest(odd, 0), NONE);
        }
        x.set(0, 0);
        due("across keys", x.latest(0, 3), 1);
        due("of several the least", x.latest(1, 2), 2);
        x.set(1, 0);
        due("kinds are nothing to it", x.latest(0, 3), 1);
        x.set(1, 2044);
        x.set(0, 1);
        promise = "27";
        due("matched(0, true)", x.matched(0, true), 7);
        due("matched(0, false)", x.matched(0, false), 8);
        due("matched(1, true)", x.matched(1, true), 15);
        due("matched(1, false)", x.matched(1, false), 0);
        due("matched(2, true)", x.matched(2, true), NONE);
        due("matched(-1, false)", x.matched(-1, false), NONE);
        due("all 40", full(0, 40).matched(0, false), (1L << 40) - 1);
        x.add(1, 1, 2, 9, 9, 0);
        due("of a row that came later", x.matched(0, true), 15);
        due("of a row that came later", x.matched(1, true), 31);
        x.set(1, 4);
        due("of kind 2", x.matched(0, true), 1);
        due("of kind 2", x.matched(1, true), 8);
    }

    private void lanesAndChains() {
        promise = "28";
        TimedJoin x = eight();
        int[] ofLeft = {0, 1, 1, 0};
        int[] ofRight = {0, 0, 0, 1};
        for (int r = 0; r < 4; r++) {
            due("lane(0, " + r + ")", x.lane(0, r), ofLeft[r]);
            due("lane(1, " + r + ")", x.lane(1, r), ofRight[r]);
        }
        for (int odd : new int[] {-1, 4, Integer.MIN_VALUE, Integer.MAX_VALUE}) {
            due("no row", x.lane(0, odd), NONE);
            due("no side", x.lane(odd, 0), NONE);
        }
        x.add(1, 0, 4, 15, 20, 0);
        x.add(1, 2, 4, 10, 16, 0);
        x.add(1, 2, 4, 16, 18, 0);
        due("by their starts, not by their numbers", x.lane(1, 5), 0);
        due("by their starts, not by their numbers", x.lane(1, 4), 1);
        due("next to one that has ended", x.lane(1, 6), 0);
        TimedJoin many = new TimedJoin();
        for (int k = 0; k < 40; k++) {
            many.add(0, 0, 0, 7, 7, 0);
        }
        due("each in its own", many.lane(0, 39), 39);
        promise = "29";
        int[][] chains = {{1, 2}, {0, 1, 2}};
        for (int side = 0; side < 2; side++) {
            due("how many", x.chain(side, 1, NONE), chains[side].length);
            for (int i = 0; i < chains[side].length; i++) {
                due("chain(" + side + ", 1, " + i + ")", x.chain(side, 1, i), chains[side][i]);
            }
            due("behind the last", x.chain(side, 1, chains[side].length), NONE);
        }
        due("of no rows", x.chain(0, 5, NONE), 0);
        due("of no rows", x.chain(0, 5, 0), NONE);
        for (int odd : new int[] {-2, 10, Integer.MIN_VALUE, Integer.MAX_VALUE}) {
            due("no such", x.chain(0, 1, odd), NONE);
            due("no key", x.chain(0, odd, NONE), NONE);
            due("no side", x.chain(odd, 1, NONE), NONE);
        }
        due("key NONE", x.chain(0, NONE, NONE), NONE);
        due("of several that are alike one", many.chain(0, 0, NONE), 1);
        due("the least number", many.chain(0, 0, 0), 0);
        due("all next to one another", full(1, 40).chain(1, 0, NONE), 40);
    }

    private void setsOfKinds() {
        promise = "30";
        TimedJoin x = new TimedJoin();
        for (int k = 0; k < 13; k++) {
            due("converse of " + k, x.converse(1 << k), 1 << 12 - k);
        }
        due("converse(0)", x.converse(0), 0);
        due("converse(8191)", x.converse(8191), 8191);
        due("converse(7)", x.converse(7), 4096 + 2048 + 1024);
        for (int odd : new int[] {-1, 8192, Integer.MIN_VALUE, Integer.MAX_VALUE}) {
            due("converse(" + odd + ")", x.converse(odd), NONE);
            promise = "31";
            due("compose(" + odd + ", 1)", x.compose(odd, 1), NONE);
            due("compose(1, " + odd + ")", x.compose(1, odd), NONE);
            promise = "30";
        }
        promise = "31";
        due("compose(0, 8191)", x.compose(0, 8191), 0);
        due("compose(8191, 0)", x.compose(8191, 0), 0);
        due("before, before", x.compose(1, 1), 1);
        due("before, after", x.compose(1, 4096), 8191);
        due("meets, met by", x.compose(2, 2048), 224);
        due("met by, meets", x.compose(2048, 2), 8 + 64 + 512);
        due("meets, meets", x.compose(2, 2), 1);
        due("overlaps, overlaps", x.compose(4, 4), 7);
        due("overlaps, overlapped by", x.compose(4, 1024), 2044);
        due("during, contains", x.compose(16, 256), 8191);
        due("contains, during", x.compose(256, 16), 2044);
        due("of two", x.compose(2 + 64, 2 + 4096), 1 + 2 + 7936);
        for (int k = 0; k < 13; k++) {
            // nothing is promised behind an object's 512th call
            x = new TimedJoin();
            due("same, " + k, x.compose(64, 1 << k), 1 << k);
            due(k + ", same", x.compose(1 << k, 64), 1 << k);
            for (int o = 0; o < 13; o++) {
                int turned = x.compose(x.converse(1 << o), x.converse(1 << k));
                due("the other way round " + k + ", " + o, x.converse(x.compose(1 << k, 1 << o)), turned);
            }
        }
    }

    private void nets() {
        promise = "32";
        TimedJoin x = new TimedJoin();
        due("net(0, 1, 1)", x.net(0, 1, 1), true);
        due("net(2, 1, 4096)", x.net(2, 1, 4096), true);
        due("net(3, 3, 64)", x.net(3, 3, 64), false);
        for (int odd : new int[] {-1, 6, Integer.MIN_VALUE, Integer.MAX_VALUE}) {
            due("no name", x.net(odd, 1, 1), false);
            due("no name", x.net(1, odd, 1), false);
            promise = "33";
            due("no name", x.between(odd, 1, false), NONE);
            due("no name", x.between(1, odd, true), NONE);
            promise = "32";
        }
        due("no set", x.net(0, 1, -1), false);
        due("no set", x.net(0, 1, 8192), false);
        promise = "33";
        due("as told", x.between(0, 1, false), 1);
        due("the other way round", x.between(1, 0, false), 4096);
        due("the other way round", x.between(1, 2, false), 1);
        due("not told", x.between(0, 2, false), 8191);
        due("of itself", x.between(4, 4, false), 64);
        due("of itself, tight", x.between(4, 4, true), 64);
        due("tight", x.between(0, 2, true), 1);
        due("tight, the other way round", x.between(2, 0, true), 4096);
        due("still not told", x.between(0, 2, false), 8191);
        promise = "34";
        due("sound", x.sound(), 1);
        x.net(2, 0, 1);
        due("a ring", x.sound(), 0);
        promise = "33";
        due("tight of a ring", x.between(4, 5, true), 0);
        due("told of a ring", x.between(4, 5, false), 8191);
        promise = "32";
        due("told anew", x.net(2, 0, 4096 + 1), true);
        promise = "34";
        due("sound again", x.sound(), 1);
        x.net(3, 4, 0);
        due("an empty set", x.sound(), 0);
        promise = "33";
        TimedJoin y = new TimedJoin();
        y.net(0, 1, 16);
        y.net(1, 2, 16);
        y.net(2, 3, 2);
        y.net(3, 4, 2 + 4);
        due("through three", y.between(0, 3, true), 1);
        due("through four", y.between(0, 4, true), 1);
        due("through two", y.between(0, 2, true), 16);
        due("the next", y.between(2, 4, true), 1);
        due("free", y.between(0, 5, true), 8191);
        promise = "34";
        due("sound", y.sound(), 1);
        promise = "33";
        TimedJoin z = new TimedJoin();
        z.net(0, 5, 1);
        for (int name = 5; name > 1; name--) {
            z.net(name, name - 1, 1);
        }
        due("through all", z.between(0, 1, true), 1);
        due("through all, the other way round", z.between(1, 0, true), 4096);
    }

    private void layings() {
        promise = "35";
        TimedJoin x = eight();
        x.net(0, 5, 1);
        due("lay(0, 4)", x.lay(0, 4), true);
        int[][] kinds = {{6, 8, 2, 2}, {4, 6, 0, 0}, {10, 12, 6, 9}, {10, 12, 3, 6}};
        for (int i = 0; i < 4; i++) {
            for (int k = 0; k < 4; k++) {
                due("between(" + i + ", " + k + ")", x.between(i, k, false), 1 << kinds[i][k]);
                due("tight", x.between(i, k, true), 1 << kinds[i][k]);
            }
        }
        due("names behind", x.between(0, 5, false), 8191);
        due("names behind", x.between(4, 3, false), 8191);
        due("names behind", x.between(5, 5, false), 64);
        due("sound", x.sound(), 1);
        due("lay(1, 2)", x.lay(1, 2), true);
        due("between(0, 1)", x.between(0, 1, false), 2);
        due("between(0, 2)", x.between(0, 2, false), 8191);
        due("not so many", x.lay(0, 5), false);
        for (int odd : new int[] {-1, 0, 1, 7, Integer.MIN_VALUE, Integer.MAX_VALUE}) {
            due("lay(0, " + odd + ")", full(0, 40).lay(0, odd), false);
        }
        due("lay(2, 2)", x.lay(2, 2), false);
        due("lay(-1, 2)", x.lay(-1, 2), false);
        due("the net stays", x.between(0, 1, false), 2);
        due("lay of six", full(0, 6).lay(0, 6), true);
    }

    private void images() {
        promise = "36";
        TimedJoin x = eight();
        due("none yet", x.image(false), false);
        x.batch(7, 7, 7, 7, 7);
        x.net(0, 1, 1);
        x.sweep();
        x.step(4);
        x.add(0, 0, 0, 0, 0, 0);
        due("taken", x.image(true), true);
        for (int round = 0; round < 2; round++) {
            x.step(160);
            x.set(0, 0);
            x.set(1, 4);
            x.add(0, 2, 3, -50, 60, 0);
            x.add(1, 2, 3, -50, 60, 0);
            x.clear();
            x.batch(8, 8, 8, 8, 8);
            x.net(1, 2, 1);
            x.sound();
            x.set(1, 2044);
            x.sweep();
            x.step(160);
            x.set(8, round);
            due("a row more", x.look(2), 5);
            due("gone back", x.image(false), true);
            int[] look = {1, 2044, 4, 4, 1, 1, 4, 3, 2, 2};
            for (int what = 0; what < 10; what++) {
                due("look(" + what + ")", x.look(what), look[what]);
            }
            causes(x, 8, 4);
            int[] swept = {4, 12, 3, 7, 7, 4, 0, 10};
            for (int what = 0; what < 8; what++) {
                due("swept(" + what + ")", x.swept(what), swept[what]);
            }
            activeIs(x, 0, new int[] {0, 1});
            activeIs(x, 1, new int[] {0, 3});
            due("the net", x.between(0, 1, false), 1);
            due("the net", x.between(1, 2, false), 8191);
            due("the net, tight", x.between(0, 2, true), 8191);
            due("a pair", x.pair(2, 1), 3);
        }
        due("goes on", x.step(160), 12);
        due("to its end", x.pair(NONE, 0), 8);
        due("the last pair", x.pair(7, 1), 2);
        due("the batch as told", x.load(0), NONE);
        causes(x, 1, 1, 2, 0, 3, 7);
        due("taken anew", x.image(true), true);
        x.clear();
        x.image(false);
        due("of the later one", x.look(4), 1);
        due("pairs of the later one", x.look(6), 8);
    }

    private void looks() {
        promise = "37";
        TimedJoin x = eight();
        x.batch(0, 0, 0, 0, 0);
        x.batch(0, 0, 0, 0, 0);
        x.add(1, 3, 5, 0, 0, 0);
        x.sweep();
        x.step(4);
        int[] look = {1, 2044, 4, 5, 2, 1, 1, 3, 2, 3};
        for (int what = 0; what < 10; what++) {
            due("look(" + what + ")", x.look(what), look[what]);
        }
        x.leave();
        due("not sweeping", x.look(5), 0);
        for (int odd : new int[] {-1, 10, Integer.MIN_VALUE, Integer.MAX_VALUE}) {
            due("look(" + odd + ")", x.look(odd), NONE);
        }
        x.set(0, 0);
        due("the most partners across keys", x.look(7), 4);
        for (int k = 0; k < 9; k++) {
            x.add(1, 1, 7, 5, 9, 0);
        }
        due("the most partners, of the left", x.look(7), 13);
        for (int k = 0; k < 20; k++) {
            x.add(0, 2, 7, 6, 7, 0);
        }
        due("the most partners, of the right", x.look(7), 24);
    }
}
