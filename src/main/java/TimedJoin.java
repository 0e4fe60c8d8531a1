/**
 * Rows of two sides that hold for a span of time, joined where they hold together.
 * DOC.md says what each call answers; the words in capitals are its terms.
 */
public final class TimedJoin {
    public static final int NONE = -1;

    private static final int NO_SUCH = NONE - 9999999;
    private static final int NO_SIDE = NONE - 1;

    private static final int SIDES = 2;
    private static final int LEFT = 0;
    private static final int RIGHT = 1;
    private static final int RUNS = 4;
    private static final int KEYS = 10;
    private static final int NAMES = 6;
    private static final int TIME_BOUND = 1000000;

    private static final int MOST_ROWS = 40;
    private static final int MOST_EVENTS = 160;
    private static final int MOST_PAIRS = 1600;
    private static final int MOST_CAUSES = 3;

    private static final int KIND_COUNT = 13;
    private static final int SAME = 6;
    private static final int EVERY_KIND = 8191;
    private static final int SHARING_KINDS = 2044;

    private static final int LOAD_CAUSE = 1;
    private static final int ROW_CAUSE = 2;
    private static final int RUN_CAUSE = 3;
    private static final int KEY_CAUSE = 4;
    private static final int SPAN_CAUSE = 5;
    private static final int ORDER_CAUSE = 6;
    private static final int FULL_CAUSE = 7;
    private static final int SWEEPING_CAUSE = 8;
    private static final int SETTING_CAUSE = 9;

    /** Makes every place positive, so that codes built from places sort as the places do. */
    private static final int PLACE_SHIFT = 2 * TIME_BOUND;
    /** The same for VALUES: the least of them comes to 0. */
    private static final long VALUE_SHIFT = 2147483648L;

    /** COMPOSED of single KINDS: the set of a, c stands at (kind of a, b) * 13 + (kind of b, c). */
    private static final int[] COMPOSED = {
        1, 1, 1, 1, 31, 31, 1, 1, 1, 1, 31, 31, 8191,
        1, 1, 1, 2, 28, 28, 2, 1, 1, 2, 28, 224, 7936,
        1, 1, 7, 4, 28, 28, 4, 7, 391, 388, 2044, 1792, 7936,
        1, 1, 7, 8, 16, 16, 8, 7, 391, 584, 1072, 2048, 4096,
        1, 1, 31, 16, 16, 16, 16, 31, 8191, 7216, 7216, 4096, 4096,
        1, 2, 28, 16, 16, 32, 32, 224, 7936, 7168, 7168, 4096, 4096,
        1, 2, 4, 8, 16, 32, 64, 128, 256, 512, 1024, 2048, 4096,
        1, 2, 4, 4, 28, 224, 128, 128, 256, 256, 1792, 1792, 7936,
        391, 388, 388, 388, 2044, 1792, 256, 256, 256, 256, 1792, 1792, 7936,
        391, 388, 388, 584, 1072, 1024, 512, 256, 256, 512, 1024, 2048, 4096,
        391, 388, 2044, 1072, 1072, 1024, 1024, 1792, 7936, 7168, 7168, 4096, 4096,
        391, 584, 1072, 1072, 1072, 2048, 2048, 2048, 4096, 4096, 4096, 4096, 4096,
        8191, 7216, 7216, 7216, 7216, 4096, 4096, 4096, 4096, 4096, 4096, 4096, 4096,
    };

    private final State now = new State();
    /** THE IMAGE; made when it is first taken, so that an object without one stays small. */
    private State kept;

    // Room to work in, used again by every call: nothing of it is told or kept.
    private final Codes codes = new Codes();
    private final Parts parts = new Parts();
    private final Mates mates = new Mates();
    private final int[] lanes = new int[MOST_ROWS];

    public TimedJoin() {
    }

    // ---- settings, THE BATCH, ROWS, TROUBLE

    public boolean set(int what, int v) {
        now.why.forget();
        if (!canBeSet(what, v)) {
            now.why.because(SETTING_CAUSE, what);
            return false;
        }
        if (now.course.running) {
            now.why.because(SETTING_CAUSE, what);
            now.why.because(SWEEPING_CAUSE, now.course.gone);
            return false;
        }
        if (what == 0) {
            now.keyed = v == 1;
        } else {
            now.wanted = v;
        }
        return true;
    }

    private static boolean canBeSet(int what, int v) {
        if (what == 0) {
            return v == 0 || v == 1;
        }
        return what == 1 && (v & ~SHARING_KINDS) == 0;
    }

    public int batch(int run, int key, int start, int end, int value) {
        return now.told.append(run, key, start, end, value) ? now.told.count : NONE;
    }

    public int clear() {
        int were = now.told.count;
        now.told.count = 0;
        return were;
    }

    public int load(int side) {
        now.why.forget();
        if (!isSide(side)) {
            return NO_SIDE;
        }
        Rows told = now.told;
        if (now.course.running) {
            now.why.because(LOAD_CAUSE, told.count);
            now.why.because(SWEEPING_CAUSE, now.course.gone);
            return NONE;
        }
        Rows rows = now.rowsOf(side);
        int before = rows.count;
        for (int i = 0; i < told.count; i++) {
            int fault = rows.faultOf(told.run[i], told.key[i], told.start[i], told.end[i]);
            if (fault != 0) {
                now.why.because(LOAD_CAUSE, told.count);
                now.why.because(ROW_CAUSE, i);
                now.why.because(fault, rows.measureOf(fault, told.run[i], told.key[i], told.start[i], told.end[i]));
                rows.count = before;
                return NONE;
            }
            rows.append(told.run[i], told.key[i], told.start[i], told.end[i], told.value[i]);
        }
        told.count = 0;
        return rows.count - before;
    }

    public int add(int side, int run, int key, int start, int end, int value) {
        now.why.forget();
        if (!isSide(side)) {
            return NO_SIDE;
        }
        if (now.course.running) {
            now.why.because(SWEEPING_CAUSE, now.course.gone);
            return NONE;
        }
        Rows rows = now.rowsOf(side);
        int fault = rows.faultOf(run, key, start, end);
        if (fault != 0) {
            now.why.because(ROW_CAUSE, 0);
            now.why.because(fault, rows.measureOf(fault, run, key, start, end));
            return NONE;
        }
        rows.append(run, key, start, end, value);
        return rows.count - 1;
    }

    public int trouble(int i, int what) {
        Trouble why = now.why;
        if (i == NONE) {
            return why.count;
        }
        if (i < 0 || i >= why.count) {
            return NO_SUCH;
        }
        switch (what) {
            case 0: return why.causes[i];
            case 1: return why.numbers[i];
            default: return NO_SUCH;
        }
    }

    // ---- THE SWEEP

    public int sweep() {
        now.why.forget();
        if (now.course.running) {
            now.why.because(SWEEPING_CAUSE, now.course.gone);
            return NONE;
        }
        now.course.begin(now, codes);
        return now.course.total;
    }

    public int step(int n) {
        Course course = now.course;
        if (n < 1 || n > MOST_EVENTS || !course.running) {
            return NONE;
        }
        int done = 0;
        for (int k = 0; k < n && course.running; k++) {
            course.takeEvent(now);
            done++;
        }
        return done;
    }

    public boolean leave() {
        boolean was = now.course.running;
        now.course.running = false;
        return was;
    }

    public int active(int side, int i) {
        if (!isSide(side)) {
            return NONE;
        }
        int count = now.course.activeCount[side];
        if (i == NONE) {
            return count;
        }
        return i >= 0 && i < count ? now.course.active[side * MOST_ROWS + i] : NONE;
    }

    public int pair(int i, int what) {
        Course course = now.course;
        if (i == NONE) {
            return course.pairCount;
        }
        if (i < 0 || i >= course.pairCount) {
            return NO_SUCH;
        }
        int left = course.pairs[i] / MOST_ROWS;
        int right = course.pairs[i] % MOST_ROWS;
        switch (what) {
            case 0: return left;
            case 1: return right;
            case 2: return now.kindOf(LEFT, left, RIGHT, right);
            case 3: return timeOf(now.sharedFrom(left, right));
            case 4: return timeOf(now.sharedTo(left, right));
            case 5: return now.sharedLong(left, right);
            default: return NO_SUCH;
        }
    }

    public int swept(int what) {
        Course course = now.course;
        switch (what) {
            case 0: return course.gone;
            case 1: return course.total - course.gone;
            case 2: return course.heads();
            case 3: return course.held();
            case 4: return course.mostHeld;
            case 5: return course.mostActive;
            case 6: return course.moves;
            case 7: return course.latestPlace;
            default: return NO_SUCH;
        }
    }

    // ---- a ROW and its PARTNERS

    public int row(int side, int row, int what) {
        if (!isRow(side, row)) {
            return NO_SUCH;
        }
        Rows rows = now.rowsOf(side);
        switch (what) {
            case 0: return rows.run[row];
            case 1: return rows.key[row];
            case 2: return rows.start[row];
            case 3: return rows.end[row];
            case 4: return rows.value[row];
            case 5: return rows.longOf(row);
            default: return ofMates(side, row, what);
        }
    }

    private int ofMates(int side, int row, int what) {
        if (what < 6 || what > 10) {
            return NO_SUCH;
        }
        mates.gather(now, side, row);
        if (what == 6) {
            return mates.count;
        }
        if (what == 7) {
            return mates.depth();
        }
        mates.layCover(parts);
        switch (what) {
            case 8: return parts.count;
            case 9: return countLeftOver();
            default: return longCovered();
        }
    }

    private int countLeftOver() {
        int count = 0;
        for (int i = 0; i < parts.count; i++) {
            if (parts.cell(i, 2) == NONE) {
                count++;
            }
        }
        return count;
    }

    private int longCovered() {
        int sum = 0;
        for (int i = 0; i < parts.count; i++) {
            if (parts.cell(i, 2) != NONE) {
                sum += parts.cell(i, 1) - parts.cell(i, 0);
            }
        }
        return sum;
    }

    public int kind(int side, int row, int otherSide, int other) {
        if (!isRow(side, row) || !isRow(otherSide, other)) {
            return NONE;
        }
        return now.kindOf(side, row, otherSide, other);
    }

    public int piece(int side, int row, int i, int what) {
        if (!isRow(side, row)) {
            return NO_SUCH;
        }
        mates.gather(now, side, row);
        mates.layCover(parts);
        return parts.answer(i, what, 3);
    }

    public int left(int side, int i, int what) {
        if (!isSide(side)) {
            return NO_SUCH;
        }
        int seen = 0;
        int rowCount = now.rowsOf(side).count;
        for (int row = 0; row < rowCount; row++) {
            mates.gather(now, side, row);
            mates.layCover(parts);
            int here = countLeftOver();
            if (i >= seen && i < seen + here) {
                return leftOver(row, i - seen, what);
            }
            seen += here;
        }
        return i == NONE ? seen : NO_SUCH;
    }

    /** The n-th PIECE by nobody of the COVER that is laid out now, which is the ROW's. */
    private int leftOver(int row, int n, int what) {
        if (what == 0) {
            return row;
        }
        if (what != 1 && what != 2) {
            return NO_SUCH;
        }
        int seen = 0;
        for (int i = 0; i < parts.count; i++) {
            if (parts.cell(i, 2) == NONE) {
                if (seen == n) {
                    return parts.cell(i, what - 1);
                }
                seen++;
            }
        }
        return NO_SUCH;
    }

    public int split(int side, int row, int i, int what) {
        if (!isRow(side, row)) {
            return NO_SUCH;
        }
        mates.gather(now, side, row);
        mates.layParts(codes, parts);
        return i == NONE ? parts.count : parts.answer(i, what, 3);
    }

    public int latest(int side, int row) {
        if (!isRow(side, row)) {
            return NONE;
        }
        int place = now.rowsOf(side).startPlace(row);
        Rows others = now.rowsOf(1 - side);
        int best = NONE;
        for (int k = 0; k < others.count; k++) {
            boolean fits = now.keysFit(side, row, k) && others.startPlace(k) <= place;
            if (fits && (best == NONE || others.startPlace(k) > others.startPlace(best))) {
                best = k;
            }
        }
        return best;
    }

    public long matched(int side, boolean has) {
        if (!isSide(side)) {
            return NONE;
        }
        long set = 0L;
        int rowCount = now.rowsOf(side).count;
        for (int row = 0; row < rowCount; row++) {
            if (now.hasPartner(side, row) == has) {
                set |= 1L << row;
            }
        }
        return set;
    }

    // ---- all PARTNERS

    public int kinds(int kind) {
        if (kind < 0 || kind >= KIND_COUNT) {
            return NONE;
        }
        int count = 0;
        for (int l = 0; l < now.ofLeft.count; l++) {
            for (int r = 0; r < now.ofRight.count; r++) {
                if (now.keysFit(LEFT, l, r) && now.kindOf(LEFT, l, RIGHT, r) == kind) {
                    count++;
                }
            }
        }
        return count;
    }

    public long shared(int key) {
        if (key != NONE && !isKey(key)) {
            return NONE;
        }
        long sum = 0L;
        for (int l = 0; l < now.ofLeft.count; l++) {
            if (key == NONE || now.ofLeft.key[l] == key) {
                sum += sharedBy(l);
            }
        }
        return sum;
    }

    private long sharedBy(int left) {
        long sum = 0L;
        for (int r = 0; r < now.ofRight.count; r++) {
            if (now.arePartners(LEFT, left, r)) {
                sum += now.sharedLong(left, r);
            }
        }
        return sum;
    }

    private int mostPartners() {
        int most = 0;
        for (int side = 0; side < SIDES; side++) {
            int rowCount = now.rowsOf(side).count;
            for (int row = 0; row < rowCount; row++) {
                most = Math.max(most, now.countPartners(side, row));
            }
        }
        return most;
    }

    // ---- ROWS of a KEY

    public long weight(int side, int key) {
        if (!isSide(side) || !isKey(key)) {
            return NONE;
        }
        Rows rows = now.rowsOf(side);
        long sum = 0L;
        for (int k = 0; k < rows.count; k++) {
            if (rows.key[k] == key) {
                sum += (long) rows.value[k] * rows.longOf(k);
            }
        }
        return sum;
    }

    public int live(int side, int key, int time) {
        boolean known = isSide(side) && (key == NONE || isKey(key));
        if (!known || time < -TIME_BOUND || time > TIME_BOUND) {
            return NONE;
        }
        return now.rowsOf(side).countThere(key, 2 * time);
    }

    public int crowd(int key, int what) {
        if (!isKey(key) || what < 0 || what > 1) {
            return NO_SUCH;
        }
        int most = 0;
        int time = 0;
        for (int side = 0; side < SIDES; side++) {
            Rows rows = now.rowsOf(side);
            for (int k = 0; k < rows.count; k++) {
                if (rows.key[k] == key) {
                    int count = countThere(key, rows.startPlace(k));
                    if (count > most || count == most && rows.start[k] < time) {
                        most = count;
                        time = rows.start[k];
                    }
                }
            }
        }
        return what == 0 ? most : time;
    }

    private int countThere(int key, int place) {
        return now.ofLeft.countThere(key, place) + now.ofRight.countThere(key, place);
    }

    public int one(int side, int i, int what) {
        if (!isSide(side)) {
            return NO_SUCH;
        }
        parts.empty();
        Rows rows = now.rowsOf(side);
        for (int key = 0; key < KEYS; key++) {
            makeOne(rows, key);
        }
        return i == NONE ? parts.count : parts.answer(i, what, 5);
    }

    /** ROWS come by START, then VALUE, so that the SPANS that they begin are made in their order. */
    private void makeOne(Rows rows, int key) {
        codes.empty();
        for (int k = 0; k < rows.count; k++) {
            if (rows.key[k] == key) {
                long value = rows.value[k] + VALUE_SHIFT;
                codes.put(((long) (rows.startPlace(k) + PLACE_SHIFT) << 38) + (value << 6) + k);
            }
        }
        codes.sort();
        int first = parts.count;
        for (int c = 0; c < codes.count; c++) {
            joinSpan(rows, (int) (codes.at(c) & 63), first);
        }
    }

    /** The ROW widens the SPAN of its VALUE that reaches its START, or begins a new one. */
    private void joinSpan(Rows rows, int row, int first) {
        int value = rows.valueOf(row);
        for (int p = first; p < parts.count; p++) {
            if (parts.cell(p, 3) == value && parts.reach(p) >= rows.startPlace(row)) {
                parts.widen(p, rows.endPlace(row));
                return;
            }
        }
        parts.put(rows.keyOf(row), timeOf(rows.startPlace(row)), timeOf(rows.endPlace(row)), value, 1);
        parts.setReach(rows.endPlace(row));
    }

    public int steps(int key, int i, int what) {
        if (!isKey(key)) {
            return NO_SUCH;
        }
        codes.empty();
        now.ofLeft.putEnds(key, codes);
        now.ofRight.putEnds(key, codes);
        codes.sort();
        parts.empty();
        for (int c = 1; c < codes.count; c++) {
            int from = (int) codes.at(c - 1);
            int to = (int) codes.at(c);
            int count = from < to ? countThere(key, from) : 0;
            if (count > 0) {
                int sum = now.ofLeft.valuesThere(key, from) + now.ofRight.valuesThere(key, from);
                parts.put(timeOf(from), timeOf(to), count, sum, 0);
            }
        }
        return i == NONE ? parts.count : parts.answer(i, what, 4);
    }

    public int lane(int side, int row) {
        if (!isRow(side, row)) {
            return NONE;
        }
        Rows rows = now.rowsOf(side);
        codes.empty();
        for (int k = 0; k < rows.count; k++) {
            if (rows.key[k] == rows.key[row]) {
                codes.put(((long) (rows.startPlace(k) + PLACE_SHIFT) << 6) + k);
            }
        }
        codes.sort();
        for (int c = 0; c < codes.count; c++) {
            int k = (int) (codes.at(c) & 63);
            int found = leastLane(rows, k, c);
            if (k == row) {
                return found;
            }
            if (k < MOST_ROWS) {
                lanes[k] = found;
            }
        }
        return NONE;
    }

    /** The LANES that hold a ROW with which this one SHARES are taken; of the others the least. */
    private int leastLane(Rows rows, int row, int ahead) {
        long taken = 0L;
        for (int c = 0; c < ahead; c++) {
            int k = (int) (codes.at(c) & 63);
            if (k < MOST_ROWS && rows.doShare(row, k)) {
                taken |= 1L << lanes[k];
            }
        }
        int found = 0;
        while (found < MOST_ROWS && (taken >> found & 1L) != 0L) {
            found++;
        }
        return found;
    }

    public int chain(int side, int key, int i) {
        if (!isSide(side) || !isKey(key)) {
            return NONE;
        }
        Rows rows = now.rowsOf(side);
        codes.empty();
        for (int k = 0; k < rows.count; k++) {
            if (rows.key[k] == key) {
                codes.put(((long) (rows.endPlace(k) + PLACE_SHIFT) << 6) + k);
            }
        }
        codes.sort();
        int count = 0;
        int reach = -PLACE_SHIFT;
        for (int c = 0; c < codes.count; c++) {
            int k = (int) (codes.at(c) & 63);
            // Those ahead end no later than this one: it SHARES with none if it starts behind the last.
            if (rows.startPlace(k) >= reach) {
                if (count == i) {
                    return k;
                }
                count++;
                reach = rows.endPlace(k);
            }
        }
        return i == NONE ? count : NONE;
    }

    // ---- sets of KINDS, THE NET

    public int converse(int kinds) {
        return isSet(kinds) ? turned(kinds) : NONE;
    }

    public int compose(int kinds, int others) {
        return isSet(kinds) && isSet(others) ? composed(kinds, others) : NONE;
    }

    public boolean net(int i, int k, int kinds) {
        if (!isName(i) || !isName(k) || i == k || !isSet(kinds)) {
            return false;
        }
        now.web.tell(i, k, kinds);
        return true;
    }

    public int between(int i, int k, boolean tight) {
        if (!isName(i) || !isName(k)) {
            return NONE;
        }
        if (!tight) {
            return now.web.told[i * NAMES + k];
        }
        now.web.draw();
        return now.web.tight[i * NAMES + k];
    }

    public int sound() {
        now.web.draw();
        return now.web.hasEmpty() ? 0 : 1;
    }

    public boolean lay(int side, int n) {
        if (!isSide(side) || n < 2 || n > NAMES || n > now.rowsOf(side).count) {
            return false;
        }
        now.web.loosen();
        for (int i = 0; i < n; i++) {
            for (int k = i + 1; k < n; k++) {
                now.web.tell(i, k, 1 << now.kindOf(side, i, side, k));
            }
        }
        return true;
    }

    // ---- THE IMAGE, a look

    public boolean image(boolean taken) {
        if (taken) {
            if (kept == null) {
                kept = new State();
            }
            kept.copyFrom(now);
            return true;
        }
        if (kept == null) {
            return false;
        }
        now.copyFrom(kept);
        return true;
    }

    public int look(int what) {
        switch (what) {
            case 0: return now.keyed ? 1 : 0;
            case 1: return now.wanted;
            case 2: return now.ofLeft.count;
            case 3: return now.ofRight.count;
            case 4: return now.told.count;
            case 5: return now.course.running ? 1 : 0;
            case 6: return now.course.pairCount;
            case 7: return mostPartners();
            case 8: return now.ofLeft.countRuns();
            case 9: return now.ofRight.countRuns();
            default: return NONE;
        }
    }

    // ---- what can be

    private static boolean isSide(int side) {
        return side == LEFT || side == RIGHT;
    }

    private boolean isRow(int side, int row) {
        return isSide(side) && now.rowsOf(side).has(row);
    }

    private static boolean isKey(int key) {
        return key >= 0 && key < KEYS;
    }

    private static boolean isName(int name) {
        return name >= 0 && name < NAMES;
    }

    private static boolean isSet(int kinds) {
        return kinds >= 0 && kinds <= EVERY_KIND;
    }

    // ---- places and KINDS

    /** The shift rounds down, also below 0. */
    private static int timeOf(int place) {
        return place >> 1;
    }

    private static int kindByPlaces(int aStart, int aEnd, int bStart, int bEnd) {
        if (aEnd <= bStart) {
            return aEnd < bStart ? 0 : 1;
        }
        if (bEnd <= aStart) {
            return bEnd < aStart ? 12 : 11;
        }
        if (aStart < bStart) {
            return byEnds(aEnd, bEnd, 2, 7, 8);
        }
        if (aStart == bStart) {
            return byEnds(aEnd, bEnd, 3, 6, 9);
        }
        return byEnds(aEnd, bEnd, 4, 5, 10);
    }

    private static int byEnds(int aEnd, int bEnd, int less, int alike, int greater) {
        if (aEnd == bEnd) {
            return alike;
        }
        return aEnd < bEnd ? less : greater;
    }

    private static boolean holds(int kinds, int kind) {
        return (kinds >> kind & 1) != 0;
    }

    /** KINDS are numbered so that kind k of a, b is kind 12 - k of b, a. */
    private static int turned(int kinds) {
        int set = 0;
        for (int k = 0; k < KIND_COUNT; k++) {
            if (holds(kinds, k)) {
                set |= 1 << (KIND_COUNT - 1 - k);
            }
        }
        return set;
    }

    private static int composed(int kinds, int others) {
        int set = 0;
        for (int k = 0; k < KIND_COUNT; k++) {
            if (holds(kinds, k)) {
                set |= composedOfOne(k, others);
            }
        }
        return set;
    }

    private static int composedOfOne(int kind, int others) {
        int set = 0;
        for (int o = 0; o < KIND_COUNT; o++) {
            if (holds(others, o)) {
                set |= COMPOSED[kind * KIND_COUNT + o];
            }
        }
        return set;
    }

    // ---- what an object holds

    /** All that is and was told: THE IMAGE is one more of these. */
    private static final class State {
        final Rows ofLeft = new Rows();
        final Rows ofRight = new Rows();
        final Rows told = new Rows();
        final Trouble why = new Trouble();
        final Course course = new Course();
        final Web web = new Web();
        boolean keyed = true;
        int wanted = SHARING_KINDS;

        void copyFrom(State from) {
            ofLeft.copyFrom(from.ofLeft);
            ofRight.copyFrom(from.ofRight);
            told.copyFrom(from.told);
            why.copyFrom(from.why);
            course.copyFrom(from.course);
            web.copyFrom(from.web);
            keyed = from.keyed;
            wanted = from.wanted;
        }

        Rows rowsOf(int side) {
            return side == LEFT ? ofLeft : ofRight;
        }

        int kindOf(int side, int row, int otherSide, int other) {
            Rows a = rowsOf(side);
            Rows b = rowsOf(otherSide);
            return kindByPlaces(a.startPlace(row), a.endPlace(row), b.startPlace(other), b.endPlace(other));
        }

        /** Whether a ROW of a SIDE and one of the other SIDE have KEYS with which they may be PARTNERS. */
        boolean keysFit(int side, int row, int other) {
            return !keyed || rowsOf(side).keyOf(row) == rowsOf(1 - side).keyOf(other);
        }

        boolean arePartners(int side, int row, int other) {
            if (!keysFit(side, row, other)) {
                return false;
            }
            int kind = side == LEFT ? kindOf(LEFT, row, RIGHT, other) : kindOf(LEFT, other, RIGHT, row);
            return holds(wanted, kind);
        }

        boolean hasPartner(int side, int row) {
            int others = rowsOf(1 - side).count;
            for (int k = 0; k < others; k++) {
                if (arePartners(side, row, k)) {
                    return true;
                }
            }
            return false;
        }

        int countPartners(int side, int row) {
            int count = 0;
            int others = rowsOf(1 - side).count;
            for (int k = 0; k < others; k++) {
                if (arePartners(side, row, k)) {
                    count++;
                }
            }
            return count;
        }

        int sharedFrom(int left, int right) {
            return Math.max(ofLeft.startPlace(left), ofRight.startPlace(right));
        }

        int sharedTo(int left, int right) {
            return Math.min(ofLeft.endPlace(left), ofRight.endPlace(right));
        }

        /** Where one is EMPTY both places are of one time, so it is 0 without being asked. */
        int sharedLong(int left, int right) {
            return timeOf(sharedTo(left, right)) - timeOf(sharedFrom(left, right));
        }
    }

    /** ROWS by their numbers: those of a SIDE, or those of THE BATCH, which may be anything. */
    private static final class Rows {
        final int[] run = new int[MOST_ROWS];
        final int[] key = new int[MOST_ROWS];
        final int[] start = new int[MOST_ROWS];
        final int[] end = new int[MOST_ROWS];
        final int[] value = new int[MOST_ROWS];
        int count;

        void copyFrom(Rows from) {
            count = from.count;
            System.arraycopy(from.run, 0, run, 0, MOST_ROWS);
            System.arraycopy(from.key, 0, key, 0, MOST_ROWS);
            System.arraycopy(from.start, 0, start, 0, MOST_ROWS);
            System.arraycopy(from.end, 0, end, 0, MOST_ROWS);
            System.arraycopy(from.value, 0, value, 0, MOST_ROWS);
        }

        boolean has(int row) {
            return row >= 0 && row < count;
        }

        boolean append(int itsRun, int itsKey, int itsStart, int itsEnd, int itsValue) {
            if (count >= MOST_ROWS) {
                return false;
            }
            run[count] = itsRun;
            key[count] = itsKey;
            start[count] = itsStart;
            end[count] = itsEnd;
            value[count] = itsValue;
            count++;
            return true;
        }

        /** Why such a ROW can't come next (a cause of TROUBLE), or 0. */
        int faultOf(int itsRun, int itsKey, int itsStart, int itsEnd) {
            if (count >= MOST_ROWS) {
                return FULL_CAUSE;
            }
            if (itsRun < 0 || itsRun >= RUNS) {
                return RUN_CAUSE;
            }
            if (!isKey(itsKey)) {
                return KEY_CAUSE;
            }
            if (spanFault(itsStart, itsEnd) != 0) {
                return SPAN_CAUSE;
            }
            return itsStart < lastStart(itsRun) ? ORDER_CAUSE : 0;
        }

        /** The number that goes with the cause. */
        int measureOf(int fault, int itsRun, int itsKey, int itsStart, int itsEnd) {
            switch (fault) {
                case FULL_CAUSE: return count;
                case RUN_CAUSE: return itsRun;
                case KEY_CAUSE: return itsKey;
                case SPAN_CAUSE: return spanFault(itsStart, itsEnd);
                default: return lastStart(itsRun) - itsStart;
            }
        }

        static int spanFault(int itsStart, int itsEnd) {
            if (itsStart < -TIME_BOUND || itsStart > TIME_BOUND) {
                return 1;
            }
            if (itsEnd < -TIME_BOUND || itsEnd > TIME_BOUND) {
                return 2;
            }
            return itsEnd < itsStart ? 3 : 0;
        }

        /** START of the last ROW of the RUN; of a RUN without ROWS the least that any START can be. */
        int lastStart(int ofRun) {
            for (int k = count - 1; k >= 0; k--) {
                if (run[k] == ofRun) {
                    return start[k];
                }
            }
            return -TIME_BOUND;
        }

        int keyOf(int row) {
            return has(row) ? key[row] : NONE;
        }

        int valueOf(int row) {
            return has(row) ? value[row] : 0;
        }

        int startPlace(int row) {
            return has(row) ? 2 * start[row] : 0;
        }

        int endPlace(int row) {
            if (!has(row)) {
                return 0;
            }
            return start[row] == end[row] ? 2 * end[row] + 1 : 2 * end[row];
        }

        int longOf(int row) {
            return has(row) ? end[row] - start[row] : 0;
        }

        boolean doShare(int row, int other) {
            return startPlace(row) < endPlace(other) && startPlace(other) < endPlace(row);
        }

        private boolean isThere(int row, int place) {
            return startPlace(row) <= place && place < endPlace(row);
        }

        /** How many ROWS of the KEY (NONE: of all) are LIVE at the place. */
        int countThere(int ofKey, int place) {
            int found = 0;
            for (int k = 0; k < count; k++) {
                if ((ofKey == NONE || key[k] == ofKey) && isThere(k, place)) {
                    found++;
                }
            }
            return found;
        }

        int valuesThere(int ofKey, int place) {
            int sum = 0;
            for (int k = 0; k < count; k++) {
                if (key[k] == ofKey && isThere(k, place)) {
                    sum += value[k];
                }
            }
            return sum;
        }

        void putEnds(int ofKey, Codes codes) {
            for (int k = 0; k < count; k++) {
                if (key[k] == ofKey) {
                    codes.put(startPlace(k));
                    codes.put(endPlace(k));
                }
            }
        }

        int countInRun(int ofRun) {
            int found = 0;
            for (int k = 0; k < count; k++) {
                if (run[k] == ofRun) {
                    found++;
                }
            }
            return found;
        }

        int countRuns() {
            int found = 0;
            for (int r = 0; r < RUNS; r++) {
                if (countInRun(r) > 0) {
                    found++;
                }
            }
            return found;
        }
    }

    /** Why a call was refused: causes, the nearest ahead. */
    private static final class Trouble {
        final int[] causes = new int[MOST_CAUSES];
        final int[] numbers = new int[MOST_CAUSES];
        int count;

        void copyFrom(Trouble from) {
            count = from.count;
            System.arraycopy(from.causes, 0, causes, 0, MOST_CAUSES);
            System.arraycopy(from.numbers, 0, numbers, 0, MOST_CAUSES);
        }

        void forget() {
            count = 0;
        }

        void because(int cause, int number) {
            if (count < MOST_CAUSES) {
                causes[count] = cause;
                numbers[count] = number;
                count++;
            }
        }
    }

    /** THE SWEEP: it keeps its own EVENTS, as ROWS may come once it is left. */
    private static final class Course {
        /** From the high bits down: place, END (0) or START (1), SIDE, number: so they sort as they come. */
        final int[] events = new int[MOST_EVENTS];
        int total;
        int gone;
        boolean running;
        /** ACTIVE of a SIDE stands from side * 40 on. */
        final int[] active = new int[SIDES * MOST_ROWS];
        final int[] activeCount = new int[SIDES];
        /** Of a RUN of a SIDE (at side * 4 + run) how many STARTS have not come. */
        final int[] startsToCome = new int[SIDES * RUNS];
        /** The ROW of the LEFT times 40, and that of the RIGHT. */
        final int[] pairs = new int[MOST_PAIRS];
        int pairCount;
        int mostHeld;
        int mostActive;
        int moves;
        int latestPlace;

        void copyFrom(Course from) {
            System.arraycopy(from.events, 0, events, 0, MOST_EVENTS);
            System.arraycopy(from.active, 0, active, 0, SIDES * MOST_ROWS);
            System.arraycopy(from.activeCount, 0, activeCount, 0, SIDES);
            System.arraycopy(from.startsToCome, 0, startsToCome, 0, SIDES * RUNS);
            System.arraycopy(from.pairs, 0, pairs, 0, MOST_PAIRS);
            total = from.total;
            gone = from.gone;
            running = from.running;
            pairCount = from.pairCount;
            mostHeld = from.mostHeld;
            mostActive = from.mostActive;
            moves = from.moves;
            latestPlace = from.latestPlace;
        }

        void begin(State state, Codes codes) {
            codes.empty();
            for (int side = 0; side < SIDES; side++) {
                Rows rows = state.rowsOf(side);
                activeCount[side] = 0;
                for (int run = 0; run < RUNS; run++) {
                    startsToCome[side * RUNS + run] = rows.countInRun(run);
                }
                for (int row = 0; row < rows.count; row++) {
                    codes.put(eventCode(rows.startPlace(row), 1, side, row));
                    codes.put(eventCode(rows.endPlace(row), 0, side, row));
                }
            }
            codes.sort();
            total = Math.min(codes.count, MOST_EVENTS);
            for (int e = 0; e < total; e++) {
                events[e] = (int) codes.at(e);
            }
            gone = 0;
            running = total > 0;
            pairCount = 0;
            mostHeld = held();
            mostActive = 0;
            moves = 0;
            latestPlace = 0;
        }

        private static int eventCode(int place, int begins, int side, int row) {
            return (place + PLACE_SHIFT << 8) + (begins << 7) + (side << 6) + row;
        }

        void takeEvent(State state) {
            if (gone >= total) {
                running = false;
                return;
            }
            int code = events[gone];
            int side = code >> 6 & 1;
            int row = code & 63;
            if ((code >> 7 & 1) == 1) {
                takeStart(state, side, row);
            } else {
                takeEnd(side, row);
            }
            latestPlace = (code >> 8) - PLACE_SHIFT;
            gone++;
            running = gone < total;
            mostHeld = Math.max(mostHeld, held());
            mostActive = Math.max(mostActive, activeTogether());
        }

        private void takeStart(State state, int side, int row) {
            int base = (1 - side) * MOST_ROWS;
            for (int i = 0; i < activeCount[1 - side]; i++) {
                int other = active[base + i];
                if (state.arePartners(side, row, other)) {
                    putPair(side == LEFT ? row : other, side == LEFT ? other : row);
                }
            }
            if (activeCount[side] < MOST_ROWS) {
                active[side * MOST_ROWS + activeCount[side]] = row;
                activeCount[side]++;
            }
            Rows rows = state.rowsOf(side);
            if (rows.has(row) && rows.run[row] >= 0 && rows.run[row] < RUNS) {
                startsToCome[side * RUNS + rows.run[row]]--;
            }
        }

        private void putPair(int left, int right) {
            if (pairCount < MOST_PAIRS) {
                pairs[pairCount] = left * MOST_ROWS + right;
                pairCount++;
            }
        }

        private void takeEnd(int side, int row) {
            int base = side * MOST_ROWS;
            int last = activeCount[side] - 1;
            for (int i = 0; i <= last; i++) {
                if (active[base + i] == row) {
                    if (i < last) {
                        active[base + i] = active[base + last];
                        moves++;
                    }
                    activeCount[side] = last;
                    return;
                }
            }
        }

        private int activeTogether() {
            return activeCount[LEFT] + activeCount[RIGHT];
        }

        int heads() {
            int count = 0;
            for (int r = 0; r < SIDES * RUNS; r++) {
                if (startsToCome[r] > 0) {
                    count++;
                }
            }
            return count;
        }

        int held() {
            return activeTogether() + heads();
        }
    }

    /** THE NET, the set between i and k at i * 6 + k; drawn TIGHT only when that is asked for. */
    private static final class Web {
        final int[] told = new int[NAMES * NAMES];
        final int[] tight = new int[NAMES * NAMES];
        boolean drawn;

        Web() {
            loosen();
        }

        void copyFrom(Web from) {
            System.arraycopy(from.told, 0, told, 0, NAMES * NAMES);
            System.arraycopy(from.tight, 0, tight, 0, NAMES * NAMES);
            drawn = from.drawn;
        }

        void loosen() {
            for (int i = 0; i < NAMES; i++) {
                for (int k = 0; k < NAMES; k++) {
                    told[i * NAMES + k] = i == k ? 1 << SAME : EVERY_KIND;
                }
            }
            drawn = false;
        }

        void tell(int i, int k, int kinds) {
            if (isName(i) && isName(k)) {
                told[i * NAMES + k] = kinds;
                told[k * NAMES + i] = turned(kinds);
                drawn = false;
            }
        }

        /** Each round but the last takes a KIND from one of 15 sets of 13, so 256 rounds are enough. */
        void draw() {
            if (drawn) {
                return;
            }
            System.arraycopy(told, 0, tight, 0, NAMES * NAMES);
            boolean smaller = true;
            for (int round = 0; round < 256 && smaller; round++) {
                smaller = false;
                for (int i = 0; i < NAMES; i++) {
                    for (int k = i + 1; k < NAMES; k++) {
                        if (narrow(i, k)) {
                            smaller = true;
                        }
                    }
                }
            }
            drawn = true;
        }

        private boolean narrow(int i, int k) {
            int before = tight[i * NAMES + k];
            int set = before;
            for (int j = 0; j < NAMES; j++) {
                if (j != i && j != k) {
                    set &= composed(tight[i * NAMES + j], tight[j * NAMES + k]);
                }
            }
            tight[i * NAMES + k] = set;
            tight[k * NAMES + i] = turned(set);
            return set != before;
        }

        boolean hasEmpty() {
            for (int s = 0; s < NAMES * NAMES; s++) {
                if (tight[s] == 0) {
                    return true;
                }
            }
            return false;
        }
    }

    // ---- room to work in

    /** Numbers to be sorted; what is behind the order can be packed into their low bits. */
    private static final class Codes {
        final long[] codes = new long[MOST_EVENTS];
        int count;

        void empty() {
            count = 0;
        }

        void put(long code) {
            if (count < MOST_EVENTS) {
                codes[count] = code;
                count++;
            }
        }

        long at(int i) {
            return i >= 0 && i < count ? codes[i] : 0L;
        }

        void sort() {
            for (int c = 1; c < count; c++) {
                long code = codes[c];
                int to = c;
                while (to > 0 && codes[to - 1] > code) {
                    codes[to] = codes[to - 1];
                    to--;
                }
                codes[to] = code;
            }
        }
    }

    /** What a call lays out to answer of: PIECES, parts, STEPS or SPANS, up to five numbers of each. */
    private static final class Parts {
        static final int COLUMNS = 5;

        final int[] cells = new int[MOST_EVENTS * COLUMNS];
        /** Of SPANS: the places of their ENDS. */
        final int[] reaches = new int[MOST_EVENTS];
        int count;

        void empty() {
            count = 0;
        }

        void put(int a, int b, int c, int d, int e) {
            if (count < MOST_EVENTS) {
                int base = count * COLUMNS;
                cells[base] = a;
                cells[base + 1] = b;
                cells[base + 2] = c;
                cells[base + 3] = d;
                cells[base + 4] = e;
                count++;
            }
        }

        int cell(int i, int what) {
            boolean known = i >= 0 && i < count && what >= 0 && what < COLUMNS;
            return known ? cells[i * COLUMNS + what] : NO_SUCH;
        }

        int answer(int i, int what, int columns) {
            return what < columns ? cell(i, what) : NO_SUCH;
        }

        int reach(int i) {
            return i >= 0 && i < count ? reaches[i] : 0;
        }

        /** Of the SPAN that came last. */
        void setReach(int place) {
            if (count > 0) {
                reaches[count - 1] = place;
            }
        }

        void widen(int i, int place) {
            if (i >= 0 && i < count) {
                reaches[i] = Math.max(reaches[i], place);
                cells[i * COLUMNS + 2] = timeOf(reaches[i]);
                cells[i * COLUMNS + 4]++;
            }
        }
    }

    /** A ROW from place to place, and its PARTNERS by their numbers. */
    private static final class Mates {
        final int[] numbers = new int[MOST_ROWS];
        final int[] starts = new int[MOST_ROWS];
        final int[] ends = new int[MOST_ROWS];
        int count;
        int from;
        int to;

        void gather(State state, int side, int row) {
            Rows rows = state.rowsOf(side);
            Rows others = state.rowsOf(1 - side);
            from = rows.startPlace(row);
            to = rows.endPlace(row);
            count = 0;
            for (int k = 0; k < others.count && k < MOST_ROWS; k++) {
                if (state.arePartners(side, row, k)) {
                    numbers[count] = k;
                    starts[count] = others.startPlace(k);
                    ends[count] = others.endPlace(k);
                    count++;
                }
            }
        }

        private int countAt(int place) {
            int found = 0;
            for (int m = 0; m < count; m++) {
                if (starts[m] <= place && place < ends[m]) {
                    found++;
                }
            }
            return found;
        }

        /** The most are there where the ROW or one of them begins. */
        int depth() {
            int most = countAt(from);
            for (int m = 0; m < count; m++) {
                if (starts[m] > from) {
                    most = Math.max(most, countAt(starts[m]));
                }
            }
            return most;
        }

        /** Each PARTNER has one PIECE at most, with one by nobody ahead of it, and one at the end. */
        void layCover(Parts pieces) {
            pieces.empty();
            int at = from;
            for (int guard = 0; guard < 2 * MOST_ROWS + 1 && at < to; guard++) {
                int best = longestAt(at);
                int next = best == NONE ? nextStart(at) : Math.min(ends[best], to);
                pieces.put(timeOf(at), timeOf(next), best == NONE ? NONE : numbers[best], 0, 0);
                at = next;
            }
        }

        private int longestAt(int place) {
            int best = NONE;
            for (int m = 0; m < count; m++) {
                boolean there = starts[m] <= place && place < ends[m];
                if (there && (best == NONE || ends[m] > ends[best])) {
                    best = m;
                }
            }
            return best;
        }

        private int nextStart(int place) {
            int next = to;
            for (int m = 0; m < count; m++) {
                if (starts[m] > place) {
                    next = Math.min(next, starts[m]);
                }
            }
            return next;
        }

        void layParts(Codes codes, Parts parts) {
            codes.empty();
            codes.put(from);
            codes.put(to);
            for (int m = 0; m < count; m++) {
                putInside(codes, starts[m]);
                putInside(codes, ends[m]);
            }
            codes.sort();
            parts.empty();
            for (int c = 1; c < codes.count; c++) {
                int begin = (int) codes.at(c - 1);
                int end = (int) codes.at(c);
                if (begin < end) {
                    parts.put(timeOf(begin), timeOf(end), countAt(begin), 0, 0);
                }
            }
        }

        private void putInside(Codes codes, int place) {
            if (place > from && place < to) {
                codes.put(place);
            }
        }
    }
}
