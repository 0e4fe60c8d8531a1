import java.util.Random;

/** Many runs of calls, the same on TimedJoin and on Model: each answer is held against the model's. */
public final class RunsTest {
    private final Check check = new Check("RunsTest");
    private final Random dice;
    private final int seed;
    private final TimedJoin x = new TimedJoin();
    private final Model m = new Model();
    private final int[][] last = new int[2][4];
    private final int wide;
    private final int keys;
    private final boolean crowded;
    private final boolean far;

    private RunsTest(int seed) {
        this.seed = seed;
        dice = new Random(seed);
        wide = 1 + dice.nextInt(8);
        keys = 1 + dice.nextInt(4);
        crowded = seed % 4 == 0;
        far = seed % 5 == 0;
        for (int[] of : last) {
            java.util.Arrays.fill(of, far ? -1000000 : -3);
        }
    }

    public static void main(String[] args) {
        int calls = 0;
        for (int seed = 0; seed < 3000; seed++) {
            RunsTest run = new RunsTest(seed);
            calls += run.play();
            if (run.check.isWrong()) {
                run.check.end();
            }
        }
        System.out.println("RunsTest: " + calls + " answers, 0 not as due");
    }

    /** Up to 512 calls, behind which nothing is promised; a turn has one or two of them. */
    private int play() {
        int opening = crowded ? 100 : 5 + dice.nextInt(40);
        for (int turn = 0; check.asked() < 511 && !check.isWrong(); turn++) {
            if (turn < opening) {
                tell();
            } else if (dice.nextInt(5) == 0) {
                change();
            } else {
                ask();
            }
        }
        if (check.isWrong()) {
            System.out.println("seed " + seed + ", call " + check.asked());
        }
        return check.asked();
    }

    private int from(int least, int most) {
        return least + dice.nextInt(most - least + 1);
    }

    /** Mostly inside, at times just outside, seldom far outside. */
    private int near(int least, int most) {
        int kind = dice.nextInt(40);
        if (kind == 0) {
            return dice.nextInt();
        }
        if (kind == 1) {
            int[] odd = {Integer.MIN_VALUE, Integer.MAX_VALUE, -2, most + 1, least - 1, 64, 8192};
            return odd[dice.nextInt(odd.length)];
        }
        return from(least, most);
    }

    private int side() {
        return near(0, 1);
    }

    private int row(int side) {
        return near(0, Math.max(0, m.look(side == 1 ? 3 : 2) - 1));
    }

    private void tell() {
        int side = side();
        int run = near(0, 3);
        int at = side >= 0 && side < 2 && run >= 0 && run < 4 ? last[side][run] : 0;
        int key = near(0, keys - 1);
        int start = dice.nextInt(30) == 0 ? near(-1000000, 1000000) : at + from(dice.nextInt(12) == 0 ? -1 : 0, crowded ? 1 : 3);
        int end = dice.nextInt(30) == 0 ? near(-1000000, 1000000) : start + from(dice.nextInt(20) == 0 ? -1 : 0, wide);
        int value = dice.nextInt(20) == 0 ? dice.nextInt() : from(-1, 1);
        boolean some = Math.abs((long) start) < 1000000 && Math.abs((long) end) <= 1000000 && end >= start;
        if (some && (long) end - start > 1000) {
            end = start + 1000;
        }
        if (dice.nextInt(3) == 0) {
            String call = "batch(" + run + ", " + key + ", " + start + ", " + end + ", " + value + ")";
            check.due(call, x.batch(run, key, start, end, value), m.batch(run, key, start, end, value));
            if (dice.nextInt(3) == 0) {
                int to = side();
                check.due("load(" + to + ")", x.load(to), m.load(to));
            }
            return;
        }
        String call = "add(" + side + ", " + run + ", " + key + ", " + start + ", " + end + ", " + value + ")";
        int got = x.add(side, run, key, start, end, value);
        check.due(call, got, m.add(side, run, key, start, end, value));
        if (got >= 0) {
            last[side][run] = start;
        }
    }

    private void change() {
        int a = dice.nextInt(2);
        switch (dice.nextInt(14)) {
            case 0: {
                int v = near(0, 1);
                check.due("set(0, " + v + ")", x.set(0, v), m.set(0, v));
                break;
            }
            case 1: {
                int v = dice.nextInt(3) == 0 ? near(0, 8191) : dice.nextInt(512) << 2;
                check.due("set(1, " + v + ")", x.set(1, v), m.set(1, v));
                break;
            }
            case 2: {
                int what = near(0, 1);
                check.due("set(" + what + ", " + a + ")", x.set(what, a), m.set(what, a));
                break;
            }
            case 3:
                check.due("clear()", x.clear(), m.clear());
                break;
            case 4: {
                int side = side();
                check.due("load(" + side + ")", x.load(side), m.load(side));
                break;
            }
            case 5:
            case 6:
                check.due("sweep()", x.sweep(), m.sweep());
                break;
            case 7:
            case 8: {
                int n = dice.nextInt(3) == 0 ? near(1, 160) : near(1, 9);
                check.due("step(" + n + ")", x.step(n), m.step(n));
                break;
            }
            case 9:
                check.due("leave()", x.leave(), m.leave());
                break;
            case 10: {
                boolean taken = dice.nextInt(3) == 0;
                check.due("image(" + taken + ")", x.image(taken), m.image(taken));
                break;
            }
            case 11: {
                int side = side();
                int n = near(2, 6);
                check.due("lay(" + side + ", " + n + ")", x.lay(side, n), m.lay(side, n));
                break;
            }
            case 12: {
                int i = near(0, 5);
                int k = near(0, 5);
                int set = dice.nextInt(8) == 0 ? near(0, 8191) : (1 << dice.nextInt(13) | 1 << dice.nextInt(13) | 1 << dice.nextInt(13));
                check.due("net(" + i + ", " + k + ", " + set + ")", x.net(i, k, set), m.net(i, k, set));
                break;
            }
            default:
                tell();
        }
    }

    private void ask() {
        int what = near(0, 11);
        int side = side();
        int row = row(side);
        int i = near(-1, 6);
        int key = near(-1, keys);
        switch (dice.nextInt(26)) {
            case 0:
                check.due("trouble(" + i + ", " + what + ")", x.trouble(i, what), m.trouble(i, what));
                what = near(0, 1);
                i = near(-1, 2);
                check.due("trouble(" + i + ", " + what + ")", x.trouble(i, what), m.trouble(i, what));
                break;
            case 1:
            case 2:
                check.due("row(" + side + ", " + row + ", " + what + ")", x.row(side, row, what), m.row(side, row, what));
                break;
            case 3: {
                int otherSide = side();
                int other = row(otherSide);
                check.due("kind(" + side + ", " + row + ", " + otherSide + ", " + other + ")",
                    x.kind(side, row, otherSide, other), m.kind(side, row, otherSide, other));
                break;
            }
            case 4:
                check.due("active(" + side + ", " + i + ")", x.active(side, i), m.active(side, i));
                break;
            case 5: {
                int p = near(-1, Math.max(0, m.look(6) - 1));
                int w = near(0, 5);
                check.due("pair(" + p + ", " + w + ")", x.pair(p, w), m.pair(p, w));
                break;
            }
            case 6: {
                int w = near(0, 7);
                check.due("swept(" + w + ")", x.swept(w), m.swept(w));
                break;
            }
            case 7: {
                int w = near(0, 2);
                check.due("piece(" + side + ", " + row + ", " + i + ", " + w + ")", x.piece(side, row, i, w), m.piece(side, row, i, w));
                break;
            }
            case 8: {
                int p = near(-1, Math.max(0, m.left(side, -1, 0) - 1));
                int w = near(0, 2);
                check.due("left(" + side + ", " + p + ", " + w + ")", x.left(side, p, w), m.left(side, p, w));
                break;
            }
            case 9: {
                int kind = near(0, 12);
                check.due("kinds(" + kind + ")", x.kinds(kind), m.kinds(kind));
                break;
            }
            case 10:
                check.due("shared(" + key + ")", x.shared(key), m.shared(key));
                break;
            case 11:
                check.due("weight(" + side + ", " + key + ")", x.weight(side, key), m.weight(side, key));
                break;
            case 12: {
                int t = (far ? -1000000 : 0) + near(-3, 20);
                check.due("live(" + side + ", " + key + ", " + t + ")", x.live(side, key, t), m.live(side, key, t));
                break;
            }
            case 13: {
                int w = near(0, 1);
                check.due("crowd(" + key + ", " + w + ")", x.crowd(key, w), m.crowd(key, w));
                break;
            }
            default:
                askMore(side, row, key);
        }
    }

    private void askMore(int side, int row, int key) {
        int i = near(-1, 6);
        int a = near(0, 5);
        int b = near(0, 5);
        switch (dice.nextInt(12)) {
            case 0: {
                int p = near(-1, Math.max(0, m.one(side, -1, 0) - 1));
                int w = near(0, 4);
                check.due("one(" + side + ", " + p + ", " + w + ")", x.one(side, p, w), m.one(side, p, w));
                break;
            }
            case 1: {
                int p = near(-1, Math.max(0, m.steps(key, -1, 0) - 1));
                int w = near(0, 3);
                check.due("steps(" + key + ", " + p + ", " + w + ")", x.steps(key, p, w), m.steps(key, p, w));
                break;
            }
            case 2: {
                int w = near(0, 2);
                check.due("split(" + side + ", " + row + ", " + i + ", " + w + ")", x.split(side, row, i, w), m.split(side, row, i, w));
                break;
            }
            case 3:
                check.due("latest(" + side + ", " + row + ")", x.latest(side, row), m.latest(side, row));
                break;
            case 4: {
                boolean has = dice.nextBoolean();
                check.due("matched(" + side + ", " + has + ")", x.matched(side, has), m.matched(side, has));
                break;
            }
            case 5:
                check.due("lane(" + side + ", " + row + ")", x.lane(side, row), m.lane(side, row));
                break;
            case 6:
                check.due("chain(" + side + ", " + key + ", " + i + ")", x.chain(side, key, i), m.chain(side, key, i));
                break;
            case 7: {
                int set = near(0, 8191);
                check.due("converse(" + set + ")", x.converse(set), m.converse(set));
                break;
            }
            case 8: {
                int set = dice.nextBoolean() ? near(0, 8191) : 1 << dice.nextInt(13);
                int other = dice.nextBoolean() ? near(0, 8191) : 1 << dice.nextInt(13);
                check.due("compose(" + set + ", " + other + ")", x.compose(set, other), m.compose(set, other));
                break;
            }
            case 9: {
                boolean tight = dice.nextInt(3) != 0;
                check.due("between(" + a + ", " + b + ", " + tight + ")", x.between(a, b, tight), m.between(a, b, tight));
                break;
            }
            case 10:
                check.due("sound()", x.sound(), m.sound());
                break;
            default: {
                int w = near(0, 9);
                check.due("look(" + w + ")", x.look(w), m.look(w));
            }
        }
    }
}
