import java.util.ArrayList;
import java.util.Arrays;
import java.util.Comparator;
import java.util.List;
import java.util.TreeMap;
import java.util.TreeSet;

/**
 * The document once more, as plainly as it goes and without a thought of cost: places are walked one
 * by one, everything is worked out anew at each call. RunsTest holds TimedJoin against it.
 */
final class Model {
    static final int NONE = -1;
    static final int NO_SUCH = NONE - 9999999;

    record Row(int run, int key, int start, int end, int value) {
        boolean empty() {
            return start == end;
        }

        int from() {
            return 2 * start;
        }

        int to() {
            return empty() ? 2 * end + 1 : 2 * end;
        }

        boolean covers(int place) {
            return from() <= place && place < to();
        }
    }

    record Event(int place, boolean begins, int side, int row) {
    }

    record Piece(int row, int from, int to, int by) {
    }

    record Span(int key, int from, int to, int value, int rows) {
    }

    private List<List<Row>> rows = List.of(new ArrayList<>(), new ArrayList<>());
    private List<Row> batch = new ArrayList<>();
    private List<int[]> trouble = new ArrayList<>();
    private int keyed = 1;
    private TreeSet<Integer> kinds = new TreeSet<>(List.of(2, 3, 4, 5, 6, 7, 8, 9, 10));
    private int[][] net = loose();
    private boolean sweeping;
    private List<Event> events = new ArrayList<>();
    private List<List<Row>> sweptRows = List.of(new ArrayList<>(), new ArrayList<>());
    private int gone;
    private List<List<Integer>> active = List.of(new ArrayList<>(), new ArrayList<>());
    private List<int[]> pairs = new ArrayList<>();
    private int mostHeld;
    private int mostActive;
    private int moves;
    private Model kept;

    private static <T> List<List<T>> copyOfTwo(List<List<T>> two) {
        return List.of(new ArrayList<>(two.get(0)), new ArrayList<>(two.get(1)));
    }

    private void takeOver(Model m) {
        rows = copyOfTwo(m.rows);
        batch = new ArrayList<>(m.batch);
        trouble = new ArrayList<>(m.trouble);
        keyed = m.keyed;
        kinds = new TreeSet<>(m.kinds);
        net = new int[6][];
        for (int i = 0; i < 6; i++) {
            net[i] = m.net[i].clone();
        }
        sweeping = m.sweeping;
        events = new ArrayList<>(m.events);
        sweptRows = copyOfTwo(m.sweptRows);
        gone = m.gone;
        active = copyOfTwo(m.active);
        pairs = new ArrayList<>(m.pairs);
        mostHeld = m.mostHeld;
        mostActive = m.mostActive;
        moves = m.moves;
    }

    boolean image(boolean taken) {
        if (taken) {
            kept = new Model();
            kept.takeOver(this);
            return true;
        }
        if (kept == null) {
            return false;
        }
        takeOver(kept);
        return true;
    }

    private static boolean side(int s) {
        return s == 0 || s == 1;
    }

    private boolean row(int s, int r) {
        return side(s) && r >= 0 && r < rows.get(s).size();
    }

    private static boolean key(int k) {
        return k >= 0 && k <= 9;
    }

    // ---- told

    boolean set(int what, int v) {
        trouble.clear();
        boolean can = what == 0 && (v == 0 || v == 1) || what == 1 && v >= 0 && v < 2048 && v % 4 == 0;
        if (!can || sweeping) {
            trouble.add(new int[] {9, what});
            if (can) {
                trouble.add(new int[] {8, gone});
            }
            return false;
        }
        if (what == 0) {
            keyed = v;
        } else {
            kinds.clear();
            for (int k = 0; k < 13; k++) {
                if ((v & 1 << k) != 0) {
                    kinds.add(k);
                }
            }
        }
        return true;
    }

    int batch(int run, int key, int start, int end, int value) {
        if (batch.size() == 40) {
            return NONE;
        }
        batch.add(new Row(run, key, start, end, value));
        return batch.size();
    }

    int clear() {
        int n = batch.size();
        batch.clear();
        return n;
    }

    private static int[] fault(List<Row> there, Row r) {
        if (there.size() == 40) {
            return new int[] {7, 40};
        }
        if (r.run < 0 || r.run > 3) {
            return new int[] {3, r.run};
        }
        if (!key(r.key)) {
            return new int[] {4, r.key};
        }
        if (Math.abs((long) r.start) > 1000000) {
            return new int[] {5, 1};
        }
        if (Math.abs((long) r.end) > 1000000) {
            return new int[] {5, 2};
        }
        if (r.end < r.start) {
            return new int[] {5, 3};
        }
        int ahead = there.stream().filter(o -> o.run == r.run).mapToInt(Row::start).max().orElse(r.start);
        return ahead > r.start ? new int[] {6, ahead - r.start} : null;
    }

    int load(int side) {
        trouble.clear();
        if (!side(side)) {
            return NONE - 1;
        }
        int n = batch.size();
        if (sweeping) {
            trouble.add(new int[] {1, n});
            trouble.add(new int[] {8, gone});
            return NONE;
        }
        List<Row> would = new ArrayList<>(rows.get(side));
        for (int i = 0; i < n; i++) {
            int[] fault = fault(would, batch.get(i));
            if (fault != null) {
                trouble.add(new int[] {1, n});
                trouble.add(new int[] {2, i});
                trouble.add(fault);
                return NONE;
            }
            would.add(batch.get(i));
        }
        rows.get(side).addAll(batch);
        batch.clear();
        return n;
    }

    int add(int side, int run, int key, int start, int end, int value) {
        trouble.clear();
        if (!side(side)) {
            return NONE - 1;
        }
        if (sweeping) {
            trouble.add(new int[] {8, gone});
            return NONE;
        }
        Row r = new Row(run, key, start, end, value);
        int[] fault = fault(rows.get(side), r);
        if (fault != null) {
            trouble.add(new int[] {2, 0});
            trouble.add(fault);
            return NONE;
        }
        rows.get(side).add(r);
        return rows.get(side).size() - 1;
    }

    int trouble(int i, int what) {
        if (i == NONE) {
            return trouble.size();
        }
        if (i < 0 || i >= trouble.size() || what < 0 || what > 1) {
            return NO_SUCH;
        }
        return trouble.get(i)[what];
    }

    // ---- kinds

    static int kindOfPlaces(int as, int ae, int bs, int be) {
        boolean[] is = {
            ae < bs, ae == bs, as < bs && bs < ae && ae < be, as == bs && ae < be, as > bs && ae < be,
            as > bs && ae == be, as == bs && ae == be, as < bs && ae == be, as < bs && ae > be, as == bs && ae > be,
            bs < as && as < be && be < ae, be == as, be < as};
        int found = NONE;
        for (int k = 0; k < 13; k++) {
            if (is[k]) {
                if (found != NONE) {
                    throw new IllegalStateException("two kinds");
                }
                found = k;
            }
        }
        return found;
    }

    private static int kind(Row a, Row b) {
        return kindOfPlaces(a.from(), a.to(), b.from(), b.to());
    }

    private static boolean share(Row a, Row b) {
        return kind(a, b) >= 2 && kind(a, b) <= 10;
    }

    int kind(int side, int row, int otherSide, int other) {
        if (!row(side, row) || !row(otherSide, other)) {
            return NONE;
        }
        return kind(rows.get(side).get(row), rows.get(otherSide).get(other));
    }

    private boolean keysFit(Row a, Row b) {
        return keyed == 0 || a.key == b.key;
    }

    private boolean partners(int l, int r) {
        Row a = rows.get(0).get(l);
        Row b = rows.get(1).get(r);
        return keysFit(a, b) && kinds.contains(kind(a, b));
    }

    private List<Integer> partnersOf(int side, int row) {
        List<Integer> list = new ArrayList<>();
        for (int k = 0; k < rows.get(1 - side).size(); k++) {
            if (side == 0 ? partners(row, k) : partners(k, row)) {
                list.add(k);
            }
        }
        return list;
    }

    // ---- the sweep

    int sweep() {
        trouble.clear();
        if (sweeping) {
            trouble.add(new int[] {8, gone});
            return NONE;
        }
        events.clear();
        for (int s = 0; s < 2; s++) {
            for (int r = 0; r < rows.get(s).size(); r++) {
                events.add(new Event(rows.get(s).get(r).from(), true, s, r));
                events.add(new Event(rows.get(s).get(r).to(), false, s, r));
            }
        }
        events.sort(Comparator.comparingInt(Event::place).thenComparing(Event::begins)
            .thenComparingInt(Event::side).thenComparingInt(Event::row));
        sweptRows = copyOfTwo(rows);
        gone = 0;
        pairs.clear();
        active.get(0).clear();
        active.get(1).clear();
        mostHeld = held();
        mostActive = 0;
        moves = 0;
        sweeping = !events.isEmpty();
        return events.size();
    }

    private void event() {
        Event e = events.get(gone);
        List<Integer> own = active.get(e.side);
        if (e.begins) {
            for (int other : active.get(1 - e.side)) {
                int l = e.side == 0 ? e.row : other;
                int r = e.side == 0 ? other : e.row;
                if (partners(l, r)) {
                    pairs.add(new int[] {l, r});
                }
            }
            own.add(e.row);
        } else {
            int was = own.indexOf(e.row);
            int last = own.remove(own.size() - 1);
            if (was < own.size()) {
                own.set(was, last);
                moves++;
            }
        }
        gone++;
        mostHeld = Math.max(mostHeld, held());
        mostActive = Math.max(mostActive, active.get(0).size() + active.get(1).size());
        sweeping = gone < events.size();
    }

    int step(int n) {
        if (n < 1 || n > 160 || !sweeping) {
            return NONE;
        }
        int done = 0;
        while (done < n && sweeping) {
            event();
            done++;
        }
        return done;
    }

    boolean leave() {
        boolean was = sweeping;
        sweeping = false;
        return was;
    }

    private int heads() {
        TreeSet<Integer> runs = new TreeSet<>();
        for (Event e : events.subList(gone, events.size())) {
            if (e.begins) {
                runs.add(e.side * 4 + sweptRows.get(e.side).get(e.row).run);
            }
        }
        return runs.size();
    }

    private int held() {
        return active.get(0).size() + active.get(1).size() + heads();
    }

    int active(int side, int i) {
        if (!side(side)) {
            return NONE;
        }
        if (i == NONE) {
            return active.get(side).size();
        }
        return i >= 0 && i < active.get(side).size() ? active.get(side).get(i) : NONE;
    }

    private static int time(int place) {
        return Math.floorDiv(place, 2);
    }

    private int sharedLong(Row a, Row b) {
        return a.empty() || b.empty() ? 0 : Math.min(a.end, b.end) - Math.max(a.start, b.start);
    }

    int pair(int i, int what) {
        if (i == NONE) {
            return pairs.size();
        }
        if (i < 0 || i >= pairs.size() || what < 0 || what > 5) {
            return NO_SUCH;
        }
        Row a = rows.get(0).get(pairs.get(i)[0]);
        Row b = rows.get(1).get(pairs.get(i)[1]);
        int[] all = {pairs.get(i)[0], pairs.get(i)[1], kind(a, b), time(Math.max(a.from(), b.from())),
            time(Math.min(a.to(), b.to())), sharedLong(a, b)};
        return all[what];
    }

    int swept(int what) {
        if (what < 0 || what > 7) {
            return NO_SUCH;
        }
        int place = gone == 0 ? 0 : events.get(gone - 1).place;
        int[] all = {gone, events.size() - gone, heads(), held(), mostHeld, mostActive, moves, place};
        return all[what];
    }

    // ---- cover

    private List<Piece> cover(int side, int row) {
        Row me = rows.get(side).get(row);
        List<Row> others = rows.get(1 - side);
        List<Integer> mine = partnersOf(side, row);
        List<Piece> pieces = new ArrayList<>();
        int at = me.from();
        while (at < me.to()) {
            int begin = at;
            int by = NONE;
            for (int p : mine) {
                if (others.get(p).covers(at) && (by == NONE || others.get(p).to() > others.get(by).to())) {
                    by = p;
                }
            }
            boolean goesOn = true;
            while (goesOn) {
                at++;
                goesOn = at < me.to();
                for (int p : mine) {
                    boolean cut = by == NONE ? others.get(p).from() == at : p == by && others.get(p).to() == at;
                    goesOn &= !cut;
                }
            }
            pieces.add(new Piece(row, time(begin), time(at), by));
        }
        return pieces;
    }

    int row(int side, int row, int what) {
        if (!row(side, row) || what < 0 || what > 10) {
            return NO_SUCH;
        }
        Row me = rows.get(side).get(row);
        List<Integer> mine = partnersOf(side, row);
        List<Piece> cover = what >= 8 ? cover(side, row) : List.of();
        switch (what) {
            case 0: return me.run;
            case 1: return me.key;
            case 2: return me.start;
            case 3: return me.end;
            case 4: return me.value;
            case 5: return me.end - me.start;
            case 6: return mine.size();
            case 7: {
                int most = 0;
                for (int place = me.from(); place < me.to(); place++) {
                    int p = place;
                    most = Math.max(most, (int) mine.stream().filter(o -> rows.get(1 - side).get(o).covers(p)).count());
                }
                return most;
            }
            case 8: return cover.size();
            case 9: return (int) cover.stream().filter(p -> p.by == NONE).count();
            default: return cover.stream().filter(p -> p.by != NONE).mapToInt(p -> p.to - p.from).sum();
        }
    }

    int piece(int side, int row, int i, int what) {
        if (!row(side, row) || what < 0 || what > 2) {
            return NO_SUCH;
        }
        List<Piece> cover = cover(side, row);
        if (i < 0 || i >= cover.size()) {
            return NO_SUCH;
        }
        Piece p = cover.get(i);
        return new int[] {p.from, p.to, p.by}[what];
    }

    int left(int side, int i, int what) {
        if (!side(side)) {
            return NO_SUCH;
        }
        List<Piece> all = new ArrayList<>();
        for (int r = 0; r < rows.get(side).size(); r++) {
            cover(side, r).stream().filter(p -> p.by == NONE).forEach(all::add);
        }
        if (i == NONE) {
            return all.size();
        }
        if (i < 0 || i >= all.size() || what < 0 || what > 2) {
            return NO_SUCH;
        }
        Piece p = all.get(i);
        return new int[] {p.row, p.from, p.to}[what];
    }

    // ---- all partners

    int kinds(int kind) {
        if (kind < 0 || kind > 12) {
            return NONE;
        }
        int n = 0;
        for (Row a : rows.get(0)) {
            for (Row b : rows.get(1)) {
                n += keysFit(a, b) && kind(a, b) == kind ? 1 : 0;
            }
        }
        return n;
    }

    long shared(int key) {
        if (key != NONE && !key(key)) {
            return NONE;
        }
        long sum = 0;
        for (int l = 0; l < rows.get(0).size(); l++) {
            for (int r : partnersOf(0, l)) {
                Row a = rows.get(0).get(l);
                sum += key == NONE || a.key == key ? sharedLong(a, rows.get(1).get(r)) : 0;
            }
        }
        return sum;
    }

    long weight(int side, int key) {
        if (!side(side) || !key(key)) {
            return NONE;
        }
        return rows.get(side).stream().filter(r -> r.key == key)
            .mapToLong(r -> (long) r.value * ((long) r.end - r.start)).sum();
    }

    int live(int side, int key, int time) {
        if (!side(side) || key != NONE && !key(key) || Math.abs((long) time) > 1000000) {
            return NONE;
        }
        return (int) rows.get(side).stream().filter(r -> (key == NONE || r.key == key) && r.covers(2 * time)).count();
    }

    private List<Row> both(int key) {
        List<Row> all = new ArrayList<>();
        for (List<Row> s : rows) {
            s.stream().filter(r -> r.key == key).forEach(all::add);
        }
        return all;
    }

    int crowd(int key, int what) {
        if (!key(key) || what < 0 || what > 1) {
            return NO_SUCH;
        }
        TreeMap<Integer, Integer> counts = new TreeMap<>();
        for (Row r : both(key)) {
            counts.put(r.start, live(0, key, r.start) + live(1, key, r.start));
        }
        int[] best = {0, 0};
        counts.forEach((t, n) -> {
            if (n > best[0]) {
                best[0] = n;
                best[1] = t;
            }
        });
        return best[what];
    }

    int one(int side, int i, int what) {
        if (!side(side)) {
            return NO_SUCH;
        }
        List<Row> all = rows.get(side);
        int[] group = new int[all.size()];
        Arrays.setAll(group, k -> k);
        for (int round = 0; round < all.size(); round++) {
            for (int a = 0; a < all.size(); a++) {
                for (int b = 0; b < all.size(); b++) {
                    Row x = all.get(a);
                    Row y = all.get(b);
                    if (x.key == y.key && x.value == y.value && kind(x, y) >= 1 && kind(x, y) <= 11) {
                        group[a] = Math.min(group[a], group[b]);
                    }
                }
            }
        }
        List<Span> spans = new ArrayList<>();
        for (int g = 0; g < all.size(); g++) {
            List<Row> members = new ArrayList<>();
            for (int a = 0; a < all.size(); a++) {
                if (group[a] == g) {
                    members.add(all.get(a));
                }
            }
            if (!members.isEmpty()) {
                spans.add(new Span(all.get(g).key, members.stream().mapToInt(Row::from).min().getAsInt(),
                    members.stream().mapToInt(Row::to).max().getAsInt(), all.get(g).value, members.size()));
            }
        }
        spans.sort(Comparator.comparingInt(Span::key).thenComparingInt(Span::from).thenComparingInt(Span::value));
        if (i == NONE) {
            return spans.size();
        }
        if (i < 0 || i >= spans.size() || what < 0 || what > 4) {
            return NO_SUCH;
        }
        Span s = spans.get(i);
        return new int[] {s.key, time(s.from), time(s.to), s.value, s.rows}[what];
    }

    int steps(int key, int i, int what) {
        if (!key(key)) {
            return NO_SUCH;
        }
        List<Row> all = both(key);
        TreeSet<Integer> cuts = new TreeSet<>();
        all.forEach(r -> cuts.addAll(List.of(r.from(), r.to())));
        List<int[]> found = new ArrayList<>();
        for (int from : cuts) {
            Integer to = cuts.higher(from);
            List<Row> live = all.stream().filter(r -> r.covers(from)).toList();
            if (to != null && !live.isEmpty()) {
                found.add(new int[] {time(from), time(to), live.size(), live.stream().mapToInt(Row::value).sum()});
            }
        }
        return ofList(found, i, what, 3);
    }

    private static int ofList(List<int[]> list, int i, int what, int last) {
        if (i == NONE) {
            return list.size();
        }
        return i >= 0 && i < list.size() && what >= 0 && what <= last ? list.get(i)[what] : NO_SUCH;
    }

    int split(int side, int row, int i, int what) {
        if (!row(side, row)) {
            return NO_SUCH;
        }
        Row me = rows.get(side).get(row);
        List<Row> mine = partnersOf(side, row).stream().map(p -> rows.get(1 - side).get(p)).toList();
        List<int[]> found = new ArrayList<>();
        int begin = me.from();
        for (int place = me.from() + 1; place <= me.to(); place++) {
            int p = place;
            int b = begin;
            if (p == me.to() || mine.stream().anyMatch(r -> r.from() == p || r.to() == p)) {
                found.add(new int[] {time(begin), time(place), (int) mine.stream().filter(r -> r.covers(b)).count()});
                begin = place;
            }
        }
        return ofList(found, i, what, 2);
    }

    int latest(int side, int row) {
        if (!row(side, row)) {
            return NONE;
        }
        Row me = rows.get(side).get(row);
        List<Row> others = rows.get(1 - side);
        List<Integer> fit = new ArrayList<>();
        for (int k = 0; k < others.size(); k++) {
            if (keysFit(me, others.get(k)) && others.get(k).from() <= me.from()) {
                fit.add(k);
            }
        }
        fit.sort(Comparator.comparingInt((Integer k) -> -others.get(k).from()).thenComparingInt(k -> k));
        return fit.isEmpty() ? NONE : fit.get(0);
    }

    long matched(int side, boolean has) {
        if (!side(side)) {
            return NONE;
        }
        long set = 0;
        for (int r = 0; r < rows.get(side).size(); r++) {
            set += partnersOf(side, r).isEmpty() != has ? 1L << r : 0;
        }
        return set;
    }

    private List<Integer> ofKey(int side, int key, Comparator<Row> order) {
        List<Row> all = rows.get(side);
        List<Integer> numbers = new ArrayList<>();
        for (int k = 0; k < all.size(); k++) {
            if (all.get(k).key == key) {
                numbers.add(k);
            }
        }
        numbers.sort((a, b) -> order.compare(all.get(a), all.get(b)) != 0
            ? order.compare(all.get(a), all.get(b)) : Integer.compare(a, b));
        return numbers;
    }

    int lane(int side, int row) {
        if (!row(side, row)) {
            return NONE;
        }
        List<Row> all = rows.get(side);
        List<List<Row>> lanes = new ArrayList<>();
        for (int k : ofKey(side, all.get(row).key, Comparator.comparingInt(Row::from))) {
            int lane = 0;
            while (lane < lanes.size() && lanes.get(lane).stream().anyMatch(o -> share(o, all.get(k)))) {
                lane++;
            }
            if (lane == lanes.size()) {
                lanes.add(new ArrayList<>());
            }
            lanes.get(lane).add(all.get(k));
            if (k == row) {
                return lane;
            }
        }
        throw new IllegalStateException("no lane");
    }

    int chain(int side, int key, int i) {
        if (!side(side) || !key(key)) {
            return NONE;
        }
        List<Integer> taken = new ArrayList<>();
        for (int k : ofKey(side, key, Comparator.comparingInt(Row::to))) {
            if (taken.stream().noneMatch(o -> share(rows.get(side).get(o), rows.get(side).get(k)))) {
                taken.add(k);
            }
        }
        if (taken.size() != mostApart(ofKey(side, key, Comparator.comparingInt(Row::to)), rows.get(side))) {
            throw new IllegalStateException("not the most");
        }
        if (i == NONE) {
            return taken.size();
        }
        return i >= 0 && i < taken.size() ? taken.get(i) : NONE;
    }

    /** The most of the rows (by their ends) of which no two share, by the best that each can be the last of. */
    private static int mostApart(List<Integer> byEnd, List<Row> all) {
        int[] best = new int[byEnd.size()];
        int most = 0;
        for (int a = 0; a < byEnd.size(); a++) {
            best[a] = 1;
            for (int b = 0; b < a; b++) {
                if (!share(all.get(byEnd.get(a)), all.get(byEnd.get(b)))) {
                    best[a] = Math.max(best[a], best[b] + 1);
                }
            }
            most = Math.max(most, best[a]);
        }
        return most;
    }

    // ---- sets of kinds

    private static final int[][] COMPOSED = composedByTrying();

    /** Three spans have six ends: six places are enough for every way in which they can lie. */
    private static int[][] composedByTrying() {
        int[][] table = new int[13][13];
        List<int[]> spans = new ArrayList<>();
        for (int s = 0; s < 6; s++) {
            for (int e = s + 1; e < 6; e++) {
                spans.add(new int[] {s, e});
            }
        }
        for (int[] a : spans) {
            for (int[] b : spans) {
                for (int[] c : spans) {
                    int ab = kindOfPlaces(a[0], a[1], b[0], b[1]);
                    int bc = kindOfPlaces(b[0], b[1], c[0], c[1]);
                    table[ab][bc] |= 1 << kindOfPlaces(a[0], a[1], c[0], c[1]);
                }
            }
        }
        return table;
    }

    private static boolean isSet(int kinds) {
        return kinds >= 0 && kinds < 8192;
    }

    int converse(int kinds) {
        if (!isSet(kinds)) {
            return NONE;
        }
        int[] other = {12, 11, 10, 9, 8, 7, 6, 5, 4, 3, 2, 1, 0};
        int set = 0;
        for (int k = 0; k < 13; k++) {
            set += (kinds & 1 << k) != 0 ? 1 << other[k] : 0;
        }
        return set;
    }

    int compose(int kinds, int others) {
        if (!isSet(kinds) || !isSet(others)) {
            return NONE;
        }
        int set = 0;
        for (int a = 0; a < 13; a++) {
            for (int b = 0; b < 13; b++) {
                set |= (kinds & 1 << a) != 0 && (others & 1 << b) != 0 ? COMPOSED[a][b] : 0;
            }
        }
        return set;
    }

    private static int[][] loose() {
        int[][] net = new int[6][6];
        for (int i = 0; i < 6; i++) {
            Arrays.fill(net[i], 8191);
            net[i][i] = 64;
        }
        return net;
    }

    private static boolean name(int i) {
        return i >= 0 && i < 6;
    }

    boolean net(int i, int k, int kinds) {
        if (!name(i) || !name(k) || i == k || !isSet(kinds)) {
            return false;
        }
        net[i][k] = kinds;
        net[k][i] = converse(kinds);
        return true;
    }

    private int[][] tight() {
        int[][] t = new int[6][];
        for (int i = 0; i < 6; i++) {
            t[i] = net[i].clone();
        }
        boolean smaller = true;
        while (smaller) {
            smaller = false;
            for (int i = 0; i < 6; i++) {
                for (int j = 0; j < 6; j++) {
                    for (int k = 0; k < 6; k++) {
                        int set = t[i][k] & compose(t[i][j], t[j][k]);
                        if (i != j && j != k && i != k && set != t[i][k]) {
                            t[i][k] = set;
                            smaller = true;
                        }
                    }
                }
            }
        }
        return t;
    }

    int between(int i, int k, boolean tight) {
        if (!name(i) || !name(k)) {
            return NONE;
        }
        return tight ? tight()[i][k] : net[i][k];
    }

    int sound() {
        for (int[] of : tight()) {
            for (int set : of) {
                if (set == 0) {
                    return 0;
                }
            }
        }
        return 1;
    }

    boolean lay(int side, int n) {
        if (!side(side) || n < 2 || n > 6 || rows.get(side).size() < n) {
            return false;
        }
        net = loose();
        for (int i = 0; i < n; i++) {
            for (int k = 0; k < n; k++) {
                net[i][k] = 1 << kind(side, i, side, k);
            }
        }
        return true;
    }

    int look(int what) {
        switch (what) {
            case 0: return keyed;
            case 1: return kinds.stream().mapToInt(k -> 1 << k).sum();
            case 2: return rows.get(0).size();
            case 3: return rows.get(1).size();
            case 4: return batch.size();
            case 5: return sweeping ? 1 : 0;
            case 6: return pairs.size();
            case 7: {
                int most = 0;
                for (int s = 0; s < 2; s++) {
                    for (int r = 0; r < rows.get(s).size(); r++) {
                        most = Math.max(most, partnersOf(s, r).size());
                    }
                }
                return most;
            }
            case 8:
            case 9: return (int) rows.get(what - 8).stream().mapToInt(Row::run).distinct().count();
            default: return NONE;
        }
    }
}
