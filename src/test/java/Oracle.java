import java.lang.reflect.Array;
import java.util.ArrayDeque;
import java.util.ArrayList;
import java.util.Deque;
import java.util.HashMap;
import java.util.List;
import java.util.Map;
import java.util.TreeMap;

/** The document once more, written plainly and slowly with the Java library: what RandomTest holds the class against. */
final class Oracle {
    private static final int BAD = -1;
    private static final int NOT = -2;
    private static final int FULL = -3;
    private static final int STATE = -5;

    private int rows = 5;
    private int columns = 5;
    private int[] soil = filled(25, 3);
    private int[] cost = filled(25, 10);
    private final int[] rest = {0, 0, 5, 3};
    private int paid;

    private static final class Bell {
        private int cell;
        private int note;
        private int depth;
        private boolean isFalse;
        private boolean found;
    }

    private record Hearing(int nc, int cell, int v) {
    }

    private record Change(int number, int what, int was, int v) {
    }

    private record Image(List<Hearing> hearings, List<Boolean> found, int paid) {
    }

    private final List<Bell> bells = new ArrayList<>();
    private List<Hearing> hearings = new ArrayList<>();
    private final Deque<Change> done = new ArrayDeque<>();
    private final Deque<Change> undone = new ArrayDeque<>();
    private Image image;
    private final StringBuilder tape = new StringBuilder();
    private String text;
    private final String[] tunes = {"0000", "0000", "0000", "0000", "0000", "0000"};
    private final List<OracleBody.Bell> bodies = new ArrayList<>();
    private List<Integer> trace = new ArrayList<>();
    private final Object[] shelves = new Object[6];

    private static int[] filled(int size, int v) {
        int[] all = new int[size];
        java.util.Arrays.fill(all, v);
        return all;
    }

    private static boolean in(int v, int least, int most) {
        return least <= v && v <= most;
    }

    private int cells() {
        return rows * columns;
    }

    private boolean isCell(int c) {
        return in(c, 0, cells() - 1);
    }

    private boolean isStrike(int nc) {
        return in(nc, 0, 999) && isCell(nc % 100);
    }

    private boolean isBell(int b) {
        return in(b, 0, bells.size() - 1);
    }

    // ---- the land, bells

    int land(int rc) {
        if (!in(rc, 11, 55) || !in(rc / 10, 1, 5) || !in(rc % 10, 1, 5)) {
            return BAD;
        }
        if (!bells.isEmpty()) {
            return STATE;
        }
        int had = 10 * rows + columns;
        rows = rc / 10;
        columns = rc % 10;
        soil = filled(25, 3);
        cost = filled(25, 10);
        hearings.clear();
        done.clear();
        undone.clear();
        image = null;
        return had;
    }

    int bell(int cell, int nzk) {
        return in(nzk, 0, 999) ? bury(cell, nzk / 100, nzk / 10 % 10, nzk % 10) : BAD;
    }

    private int bury(int cell, int note, int depth, int kind) {
        if (!isCell(cell) || !in(note, 0, 9) || !in(depth, 0, 9) || !in(kind, 0, 1)
                || bells.stream().anyMatch(b -> b.cell == cell)) {
            return BAD;
        }
        if (bells.size() == 6) {
            return FULL;
        }
        Bell b = new Bell();
        b.cell = cell;
        b.note = note;
        b.depth = depth;
        b.isFalse = kind == 1;
        bells.add(b);
        return bells.size() - 1;
    }

    int bells(int shelf, int i, int n) {
        if (!in(shelf, 0, 5) || !in(n, 1, 6)) {
            return BAD;
        }
        if (shelves[shelf] != null && !(shelves[shelf] instanceof byte[])) {
            return -12;
        }
        int came = 0;
        try {
            byte[] row = (byte[]) shelves[shelf];
            for (int k = 0; k < n; k++) {
                int[] four = new int[4];
                for (int m = 0; m < 4; m++) {
                    four[m] = row[i + 4 * k + m];
                }
                if (bury(four[0], four[1], four[2], four[3]) < 0) {
                    break;
                }
                came++;
            }
        } catch (NullPointerException | ArrayIndexOutOfBoundsException e) {
            return came;
        }
        return came;
    }

    int mend(int number, int what, int v) {
        int[] most = {9, 99, 9, 9, 1, 99, 9};
        if (!in(what, 0, 6) || !in(v, 0, most[what])
                || !(what < 2 ? isCell(number) : what == 2 ? isBell(number) : number == 0)) {
            return BAD;
        }
        int was = number(number, what);
        if (was != v) {
            undone.clear();
            done.addLast(new Change(number, what, was, v));
            if (done.size() > 40) {
                done.removeFirst();
            }
            set(number, what, v);
        }
        return was;
    }

    private int number(int number, int what) {
        return what == 0 ? soil[number] : what == 1 ? cost[number] : what == 2 ? bells.get(number).depth
                : rest[what - 3];
    }

    private void set(int number, int what, int v) {
        if (what == 0) {
            soil[number] = v;
        } else if (what == 1) {
            cost[number] = v;
        } else if (what == 2) {
            bells.get(number).depth = v;
        } else {
            rest[what - 3] = v;
        }
    }

    int of(int number, int what) {
        if (in(what, 0, 1)) {
            return isCell(number) ? number(number, what) : BAD;
        }
        if (in(what, 10, 14) && isBell(number)) {
            Bell b = bells.get(number);
            return new int[] {b.cell, b.note, b.depth, b.isFalse ? 1 : 0, b.found ? 1 : 0}[what - 10];
        }
        if (in(what, 20, 24) && number == 0) {
            return what == 24 ? paid : rest[what - 20];
        }
        if (in(what, 30, 32) && in(number, 0, hearings.size() - 1)) {
            Hearing h = hearings.get(number);
            return new int[] {h.nc, h.cell, h.v}[what - 30];
        }
        return BAD;
    }

    int feed(int letter) {
        if (!in(letter, 0, 255)) {
            return BAD;
        }
        if (tape.length() == 120) {
            return FULL;
        }
        tape.append((char) letter);
        return tape.length();
    }

    int law() {
        String told = tape.toString();
        tape.setLength(0);
        int fault = OracleText.faultOf(told);
        if (fault < 0) {
            text = told;
        }
        return fault < 0 ? 1 : -100 - fault;
    }

    // ---- hums

    private int far(int a, int b) {
        return Math.abs(a / columns - b / columns) + Math.abs(a % columns - b % columns);
    }

    private int trueHum(int nc, int cell, int note, int depth, int listens) {
        int[] v = {far(nc % 100, cell), far(cell, listens), Math.abs(nc / 100 - note), depth, soil[cell], rest[0],
            rest[1]};
        int loud = text != null ? OracleText.worth(text, v)
                : 40 + 5 * v[6] - 2 * v[0] - 3 * v[1] - 6 * v[2] - v[3] - v[4] - v[5];
        return loud < 0 ? 0 : loud > 99 ? 99 : loud;
    }

    private int humOf(Bell b, int nc, int listens) {
        int loud = trueHum(nc, b.cell, b.note, b.depth, listens);
        return b.isFalse ? loud / 2 : loud;
    }

    private int eared(int sum) {
        int hum = sum > 99 ? 99 : sum;
        return hum < rest[2] ? 0 : hum;
    }

    int hum(int bell, int nc, int cell) {
        return isBell(bell) && isStrike(nc) && isCell(cell) ? humOf(bells.get(bell), nc, cell) : BAD;
    }

    int heard(int nc, int cell) {
        if (!isStrike(nc) || !isCell(cell)) {
            return BAD;
        }
        return eared(bells.stream().filter(b -> !b.found).mapToInt(b -> humOf(b, nc, cell)).sum());
    }

    /** What would be heard of true bells (10 times the cell and the note) of the guessed depth. */
    int heardOf(int[] set, int nc, int cell) {
        for (int p : set) {
            if (!isCell(p / 10)) {
                return 0;
            }
        }
        return heardBy(set, new Hearing(nc, cell, 0), new HashMap<>());
    }

    int hearing(int nc, int cell, int v) {
        if (!isStrike(nc) || !isCell(cell) || !in(v, 0, 99)) {
            return BAD;
        }
        if (hearings.size() == 10) {
            return FULL;
        }
        hearings.add(new Hearing(nc, cell, v));
        return hearings.size() - 1;
    }

    int forget() {
        if (hearings.isEmpty()) {
            return STATE;
        }
        hearings.remove(hearings.size() - 1);
        return hearings.size();
    }

    // ---- ways

    /** What a set of bells, 10 times the cell and the note each, would have one hear; hums are kept by their places. */
    private int heardBy(int[] set, Hearing h, Map<Long, Integer> hums) {
        int sum = 0;
        for (int p : set) {
            long key = (long) h.nc * 1_000_000 + h.cell * 1000 + p;
            sum += hums.computeIfAbsent(key, k -> trueHum(h.nc, p / 10, p % 10, rest[3], h.cell));
        }
        return eared(sum);
    }

    private List<int[]> sets(int n) {
        List<int[]> sets = new ArrayList<>();
        for (int p = 0; p < 10 * cells(); p++) {
            if (n == 1) {
                sets.add(new int[] {p});
            } else {
                for (int r = p + 1; r < 10 * cells(); r++) {
                    if (p / 10 != r / 10) {
                        sets.add(new int[] {p, r});
                    }
                }
            }
        }
        return sets;
    }

    private List<int[]> waysBy(int n, List<Hearing> told) {
        Map<Long, Integer> hums = new HashMap<>();
        List<int[]> all = new ArrayList<>();
        for (int[] set : sets(n)) {
            if (told.stream().allMatch(h -> heardBy(set, h, hums) == h.v)) {
                all.add(set);
            }
        }
        return all;
    }

    private int with(List<int[]> ways, int cell) {
        int with = 0;
        for (int[] set : ways) {
            for (int p : set) {
                with += p / 10 == cell ? 1 : 0;
            }
        }
        return with;
    }

    int ways(int n, int k) {
        if (!in(n, 1, 2) || !in(k, -1, n - 1)) {
            return BAD;
        }
        List<int[]> ways = waysBy(n, hearings);
        return k < 0 ? ways.size() : ways.isEmpty() ? NOT : ways.get(0)[k];
    }

    int sure(int n, int what) {
        if (!in(n, 1, 2) || !in(what, 0, 1)) {
            return BAD;
        }
        List<int[]> ways = waysBy(n, hearings);
        int bits = 0;
        for (int c = 0; c < cells() && !ways.isEmpty(); c++) {
            bits |= with(ways, c) == (what == 0 ? ways.size() : 0) ? 1 << c : 0;
        }
        return bits;
    }

    int chance(int n, int cell, int part) {
        if (!in(n, 1, 2) || !isCell(cell) || !in(part, 0, 1)) {
            return BAD;
        }
        List<int[]> ways = waysBy(n, hearings);
        if (ways.isEmpty()) {
            return part;
        }
        int above = with(ways, cell);
        int gcd = java.math.BigInteger.valueOf(above).gcd(java.math.BigInteger.valueOf(ways.size())).intValue();
        return (part == 0 ? above : ways.size()) / gcd;
    }

    int dig(int n) {
        if (!in(n, 1, 2)) {
            return BAD;
        }
        List<int[]> ways = waysBy(n, hearings);
        if (ways.isEmpty()) {
            return NOT;
        }
        int best = -1;
        for (int c = cells() - 1; c >= 0; c--) {
            if (best < 0 || (long) with(ways, c) * (cost[best] + 1) >= (long) with(ways, best) * (cost[c] + 1)) {
                best = c;
            }
        }
        return best;
    }

    int next(int cell, int what) {
        if (!isCell(cell) || !in(what, 0, 1)) {
            return BAD;
        }
        List<int[]> ways = waysBy(1, hearings);
        if (ways.isEmpty()) {
            return NOT;
        }
        int best = -1;
        int least = Integer.MAX_VALUE;
        Map<Integer, Integer> known = new HashMap<>();
        for (int note = 0; note < 10; note++) {
            for (int c = 0; c < cells(); c++) {
                Map<Integer, Integer> parts = new TreeMap<>();
                for (int[] set : ways) {
                    int nc = 100 * note + c;
                    // notes count by how much they differ alone
                    int key = (set[0] / 10 * 25 + c) * 10 + Math.abs(note - set[0] % 10);
                    parts.merge(known.computeIfAbsent(key,
                            k -> eared(trueHum(nc, set[0] / 10, set[0] % 10, rest[3], cell))), 1, Integer::sum);
                }
                int greatest = parts.values().stream().max(Integer::compare).get();
                if (greatest < least) {
                    least = greatest;
                    best = 100 * note + c;
                }
            }
        }
        return what == 0 ? best : least;
    }

    int told(int n, int hearing) {
        if (!in(n, 1, 2) || !in(hearing, 0, hearings.size() - 1)) {
            return BAD;
        }
        List<Hearing> others = new ArrayList<>(hearings);
        others.remove(hearing);
        return waysBy(n, others).size() - waysBy(n, hearings).size();
    }

    int liars(int n) {
        if (!in(n, 1, 2)) {
            return BAD;
        }
        if (cells() < n) {
            return NOT;
        }
        Map<Long, Integer> hums = new HashMap<>();
        java.util.Set<Integer> liars = new java.util.TreeSet<>();
        for (int[] set : sets(n)) {
            int bits = 0;
            for (int h = 0; h < hearings.size(); h++) {
                bits |= heardBy(set, hearings.get(h), hums) == hearings.get(h).v ? 0 : 1 << h;
            }
            liars.add(bits);
        }
        return liars.stream().min(java.util.Comparator.comparingInt(Integer::bitCount)).get();
    }

    // ---- chains, villages, years

    private boolean showsBell(int a, int b) {
        Bell struck = bells.get(a);
        return eared(humOf(bells.get(b), 100 * struck.note + struck.cell, bells.get(b).cell)) > 0;
    }

    int shows(int ab) {
        if (!in(ab, 0, 99) || !isBell(ab / 10) || !isBell(ab % 10) || ab / 10 == ab % 10) {
            return BAD;
        }
        return showsBell(ab / 10, ab % 10) ? 1 : 0;
    }

    private int shownBy(int a) {
        int bits = 0;
        for (int b = 0; b < bells.size(); b++) {
            bits |= a != b && showsBell(a, b) ? 1 << b : 0;
        }
        return bits;
    }

    private int chainFrom(int set) {
        int more = set;
        for (int a = 0; a < bells.size(); a++) {
            more |= (set >> a & 1) != 0 ? shownBy(a) : 0;
        }
        return more == set ? set : chainFrom(more);
    }

    int chain(int set) {
        return in(set, 0, (1 << bells.size()) - 1) ? chainFrom(set) : BAD;
    }

    /** All rows of strikes, the shorter ahead, like ones by their numbers, until one shows the whole chain. */
    int strikes(int set, int what) {
        if (!in(set, 0, (1 << bells.size()) - 1) || !in(what, 0, 1)) {
            return BAD;
        }
        int whole = chainFrom(set);
        List<int[]> rowsSoFar = List.of(new int[] {0, set});
        for (int strikes = 0; ; strikes++) {
            List<int[]> longer = new ArrayList<>();
            for (int[] row : rowsSoFar) {
                if (row[1] == whole) {
                    return what == 0 ? strikes : row[0];
                }
                for (int a = 0; a < bells.size(); a++) {
                    if ((row[1] >> a & 1) != 0) {
                        longer.add(new int[] {10 * row[0] + a + 1, row[1] | shownBy(a)});
                    }
                }
            }
            rowsSoFar = longer;
        }
    }

    int source() {
        if (bells.isEmpty()) {
            return STATE;
        }
        int all = (1 << bells.size()) - 1;
        for (int size = 1; ; size++) {
            for (int set = 1; set <= all; set++) {
                if (Integer.bitCount(set) == size && chainFrom(set) == all) {
                    return set;
                }
            }
        }
    }

    int tune(int village, int v) {
        if (!in(village, 0, 5) || !in(v, 0, 9999)) {
            return BAD;
        }
        int was = Integer.parseInt(tunes[village]);
        tunes[village] = String.format("%04d", v);
        return was;
    }

    int whose(int shelf, int what) {
        if (!in(shelf, 0, 5) || !in(what, 0, 1)) {
            return BAD;
        }
        if (shelves[shelf] == null) {
            return -11;
        }
        if (!(shelves[shelf] instanceof byte[])) {
            return -12;
        }
        byte[] row = (byte[]) shelves[shelf];
        int best = NOT;
        int least = Integer.MAX_VALUE;
        for (int v = 0; v < 6; v++) {
            for (int i = 0; i + 4 <= row.length; i++) {
                int sum = 0;
                for (int k = 0; k < 4; k++) {
                    sum += Math.abs(row[i + k] - (tunes[v].charAt(k) - '0'));
                }
                if (sum < least) {
                    least = sum;
                    best = v;
                }
            }
        }
        return best == NOT ? NOT : what == 0 ? best : least;
    }

    int years(int seed, int n) {
        if (!in(n, 1, 30)) {
            return BAD;
        }
        int z = seed;
        for (int year = 0; year < n; year++) {
            for (Bell b : bells) {
                z = z * 1103515245 + 12345;
                int lot = (int) ((z & 0xffffffffL) / 256 % 12);
                b.depth = lot < rest[0] ? Math.min(b.depth + 1, 9) : lot > 10 ? Math.max(b.depth - 1, 0) : b.depth;
            }
            for (int c = 0; c < cells(); c++) {
                z = z * 1103515245 + 12345;
                soil[c] = (z & 0xffffffffL) / 256 % 12 < rest[0] ? Math.min(soil[c] + 1, 9) : soil[c];
            }
        }
        return bells.stream().mapToInt(b -> b.depth).sum();
    }

    int dug(int cell, int deep) {
        if (!isCell(cell) || !in(deep, 0, 9)) {
            return BAD;
        }
        paid += cost[cell];
        for (int b = 0; b < bells.size(); b++) {
            Bell bell = bells.get(b);
            if (bell.cell == cell && bell.depth <= deep && !bell.found) {
                bell.found = true;
                return b;
            }
        }
        return NOT;
    }

    int judge(int what) {
        if (!in(what, 0, 1)) {
            return BAD;
        }
        int honest = 0;
        for (int h = 0; h < hearings.size(); h++) {
            Hearing one = hearings.get(h);
            honest |= heard(one.nc, one.cell) == one.v ? 1 << h : 0;
        }
        int lying = (1 << hearings.size()) - 1 - honest;
        return what == 1 ? honest : lying == 0 ? NOT : Integer.numberOfTrailingZeros(lying);
    }

    int image() {
        image = new Image(List.copyOf(hearings), bells.stream().map(b -> b.found).toList(), paid);
        return hearings.size();
    }

    int back() {
        if (image == null) {
            return STATE;
        }
        hearings = new ArrayList<>(image.hearings);
        for (int b = 0; b < bells.size(); b++) {
            bells.get(b).found = b < image.found.size() && image.found.get(b);
        }
        paid = image.paid;
        return hearings.size();
    }

    int undo() {
        if (done.isEmpty()) {
            return STATE;
        }
        Change latest = done.removeLast();
        undone.addLast(latest);
        set(latest.number, latest.what, latest.was);
        return done.size();
    }

    int redo() {
        if (undone.isEmpty()) {
            return STATE;
        }
        Change latest = undone.removeLast();
        done.addLast(latest);
        set(latest.number, latest.what, latest.v);
        return undone.size();
    }

    // ---- acts, shelves

    int body(int kind) {
        if (!in(kind, 0, 7)) {
            return BAD;
        }
        if (bodies.size() == 50) {
            return FULL;
        }
        bodies.add(OracleBody.of(kind, bodies.size()));
        return bodies.size() - 1;
    }

    int act(int body, int act, int x) {
        trace = new ArrayList<>();
        if (!in(body, 0, bodies.size() - 1) || !in(act, 0, 3)) {
            return 0;
        }
        int answer = bodies.get(body).does(act, x);
        trace.addAll(OracleBody.TRACE);
        return answer;
    }

    int trace(int i) {
        return in(i, 0, Math.min(trace.size(), 24) - 1) ? trace.get(i) : BAD;
    }

    int keep(int shelf, int body) {
        if (!in(shelf, 0, 5) || !in(body, -1, bodies.size() - 1)) {
            return BAD;
        }
        shelves[shelf] = body < 0 ? null : bodies.get(body);
        return 1;
    }

    private static final Class<?>[] SORTS = {byte.class, short.class, int.class, long.class, boolean.class};

    int row(int shelf, int sort, int n) {
        if (!in(shelf, 0, 5) || !in(sort, 0, 4) || n > 60) {
            return BAD;
        }
        try {
            shelves[shelf] = Array.newInstance(SORTS[sort], n);
            return 1;
        } catch (NegativeArraySizeException e) {
            return -14;
        }
    }

    int put(int shelf, int i, long v) {
        if (!in(shelf, 0, 5)) {
            return BAD;
        }
        Object row = shelves[shelf];
        try {
            if (row instanceof boolean[]) {
                Array.setBoolean(row, i, v != 0);
            } else if (row instanceof byte[]) {
                Array.setByte(row, i, (byte) v);
            } else if (row instanceof short[]) {
                Array.setShort(row, i, (short) v);
            } else if (row instanceof int[]) {
                Array.setInt(row, i, (int) v);
            } else {
                Array.setLong(row, i, v);
            }
            return 1;
        } catch (NullPointerException e) {
            return -11;
        } catch (IllegalArgumentException e) {
            return -12;
        } catch (ArrayIndexOutOfBoundsException e) {
            return -13;
        }
    }

    long element(int shelf, int i) {
        try {
            Object row = shelves[shelf];
            return row instanceof boolean[] ? Array.getBoolean(row, i) ? 1 : 0 : Array.getLong(row, i);
        } catch (NullPointerException | IllegalArgumentException | ArrayIndexOutOfBoundsException e) {
            return Long.MIN_VALUE;
        }
    }

    int shift(int shelf, int i, int other, int j, int n) {
        if (!in(shelf, 0, 5) || !in(other, 0, 5)) {
            return BAD;
        }
        try {
            System.arraycopy(shelves[shelf], i, shelves[other], j, n);
            return n;
        } catch (NullPointerException e) {
            return -11;
        } catch (ArrayStoreException e) {
            return -12;
        } catch (IndexOutOfBoundsException e) {
            return -13;
        }
    }

    int taken(int shelf, int k) {
        if (!in(shelf, 0, 5) || !in(k, 0, 7)) {
            return BAD;
        }
        try {
            Object taken = OracleBody.KINDS[k].cast(shelves[shelf]);
            return ((OracleBody.Bell) taken).kind();
        } catch (ClassCastException e) {
            return -12;
        } catch (NullPointerException e) {
            return -11;
        }
    }

    int count(int what) {
        if (!in(what, 0, 7)) {
            return BAD;
        }
        return new int[] {bells.size(), cells(), hearings.size(), (int) bells.stream().filter(b -> b.found).count(),
            tape.length(), done.size(), bodies.size(), trace.size()}[what];
    }
}
