import java.util.Arrays;

/** Bells in the ground, as ../shared/DOC.md promises; words in capitals are its terms. */
public final class BellGround {
    public static final int BAD = -1, NOT = -2, FULL = -3, STATE = -5, VOID = -2000000000;

    private static final int NOTHING_THERE = -11, OTHER_KIND = -12, NO_PLACE = -13, SIZE_BELOW = -14;

    private static final int MOST_SIDE = 5, MOST_CELLS = 25, MOST_BELLS = 6, MOST_HEARINGS = 10;
    private static final int NOTES = 10, LOUDEST = 99, DEEPEST = 9, RICHEST = 9, WETTEST = 9, DEAREST = 99;

    private static final int SOIL = 0, COST = 1, DEPTH = 2, WET = 3, FROST = 4, EAR = 5, GUESS = 6;
    private static final int[] MOST_OF = {RICHEST, DEAREST, DEEPEST, WETTEST, 1, LOUDEST, DEEPEST};

    private final Land land = new Land();
    private final Tape tape = new Tape();
    private final Law ruling = new Law(land);
    private final Buried buried = new Buried(land, ruling);
    private final Hearings hearings = new Hearings();
    private final Search search = new Search(land, ruling, hearings);
    private final Links links = new Links(ruling, buried);
    private final Changes changes = new Changes();
    private final Villages villages = new Villages();
    private final Bodies bodies = new Bodies();
    private final Shelves shelves = new Shelves();

    private final Hearings imageHearings = new Hearings();
    private int imageFound;
    private int imagePaid;
    private boolean imageKept;

    public BellGround() {
    }

    // ---- the land, bells

    public int land(int rc) {
        int rows = rc / 10;
        int columns = rc % 10;
        if (rc < 0 || !isSide(rows) || !isSide(columns)) {
            return BAD;
        }
        if (buried.count > 0) {
            return STATE;
        }
        int had = 10 * land.rows + land.columns;
        land.lay(rows, columns);
        hearings.clear();
        changes.clear();
        imageKept = false;
        return had;
    }

    private static boolean isSide(int n) {
        return n >= 1 && n <= MOST_SIDE;
    }

    public int bell(int cell, int nzk) {
        if (nzk < 0 || nzk >= 1000) {
            return BAD;
        }
        return buried.bury(cell, nzk / 100, nzk / 10 % 10, nzk % 10);
    }

    public int bells(int shelf, int i, int n) {
        if (!shelves.isShelf(shelf) || n < 1 || n > MOST_BELLS) {
            return BAD;
        }
        if (shelves.sort[shelf] != Shelves.NOTHING && shelves.sort[shelf] != Shelves.BYTES) {
            return OTHER_KIND;
        }
        int came = 0;
        while (came < n && comesFrom(shelf, i, came)) {
            came++;
        }
        return came;
    }

    /** Whether the four that lies so many fours behind place i is whole, and came as a BELL. */
    private boolean comesFrom(int shelf, int i, int fours) {
        if (!shelves.hasPlace(shelf, i) || !shelves.hasPlace(shelf, i + 4 * fours + 3)) {
            return false;
        }
        int at = i + 4 * fours;
        return buried.bury((int) shelves.get(shelf, at), (int) shelves.get(shelf, at + 1),
                (int) shelves.get(shelf, at + 2), (int) shelves.get(shelf, at + 3)) >= 0;
    }

    public int mend(int number, int what, int v) {
        if (!isMendable(number, what) || v < 0 || v > MOST_OF[what]) {
            return BAD;
        }
        int was = valueOf(number, what);
        if (v != was) {
            changes.add(number, what, was, v);
            setValue(number, what, v);
        }
        return was;
    }

    private boolean isMendable(int number, int what) {
        switch (what) {
            case SOIL:
            case COST:
                return land.has(number);
            case DEPTH:
                return buried.has(number);
            case WET:
            case FROST:
            case EAR:
            case GUESS:
                return number == 0;
            default:
                return false;
        }
    }

    private int valueOf(int number, int what) {
        switch (what) {
            case SOIL:
                return land.soil[number];
            case COST:
                return land.cost[number];
            case DEPTH:
                return buried.depth[number];
            case WET:
                return land.wet;
            case FROST:
                return land.frost;
            case EAR:
                return land.ear;
            default:
                return land.guess;
        }
    }

    private void setValue(int number, int what, int v) {
        switch (what) {
            case SOIL:
                land.soil[number] = v;
                break;
            case COST:
                land.cost[number] = v;
                break;
            case DEPTH:
                buried.depth[number] = v;
                break;
            case WET:
                land.wet = v;
                break;
            case FROST:
                land.frost = v;
                break;
            case EAR:
                land.ear = v;
                break;
            default:
                land.guess = v;
                break;
        }
    }

    public int of(int number, int what) {
        if (what >= 0 && what < 10) {
            return ofCell(number, what);
        }
        if (what >= 10 && what < 20) {
            return ofBell(number, what);
        }
        if (what >= 20 && what < 30) {
            return number == 0 ? ofAll(what) : BAD;
        }
        return ofHearing(number, what);
    }

    private int ofCell(int cell, int what) {
        if (!land.has(cell)) {
            return BAD;
        }
        switch (what) {
            case 0:
                return land.soil[cell];
            case 1:
                return land.cost[cell];
            default:
                return BAD;
        }
    }

    private int ofBell(int bell, int what) {
        if (!buried.has(bell)) {
            return BAD;
        }
        switch (what) {
            case 10:
                return buried.cell[bell];
            case 11:
                return buried.note[bell];
            case 12:
                return buried.depth[bell];
            case 13:
                return buried.kind[bell];
            case 14:
                return buried.isFound(bell) ? 1 : 0;
            default:
                return BAD;
        }
    }

    private int ofAll(int what) {
        switch (what) {
            case 20:
                return land.wet;
            case 21:
                return land.frost;
            case 22:
                return land.ear;
            case 23:
                return land.guess;
            case 24:
                return buried.paid;
            default:
                return BAD;
        }
    }

    private int ofHearing(int number, int what) {
        if (!hearings.has(number)) {
            return BAD;
        }
        switch (what) {
            case 30:
                return hearings.strike[number];
            case 31:
                return hearings.cell[number];
            case 32:
                return hearings.value[number];
            default:
                return BAD;
        }
    }

    public int feed(int letter) {
        if (letter < 0 || letter > 255) {
            return BAD;
        }
        return tape.add(letter) ? tape.length : FULL;
    }

    public int law() {
        int fault = tape.readText();
        if (fault < 0) {
            ruling.become(tape.code, tape.codeLength);
        }
        tape.length = 0;
        return fault < 0 ? 1 : -100 - fault;
    }

    // ---- hums (nc: 100 NOTE and CELL of a STRIKE)

    public int hum(int bell, int nc, int cell) {
        if (!buried.has(bell) || !land.isStrike(nc) || !land.has(cell)) {
            return BAD;
        }
        return buried.humOf(bell, nc, cell);
    }

    public int heard(int nc, int cell) {
        if (!land.isStrike(nc) || !land.has(cell)) {
            return BAD;
        }
        return buried.heardOfAll(nc, cell);
    }

    public int hearing(int nc, int cell, int v) {
        if (!land.isStrike(nc) || !land.has(cell) || v < 0 || v > LOUDEST) {
            return BAD;
        }
        return hearings.add(nc, cell, v) ? hearings.count - 1 : FULL;
    }

    public int forget() {
        if (hearings.count == 0) {
            return STATE;
        }
        hearings.count--;
        return hearings.count;
    }

    // ---- ways

    private static boolean isSize(int n) {
        return n == 1 || n == 2;
    }

    public int ways(int n, int k) {
        if (!isSize(n) || k < -1 || k >= n) {
            return BAD;
        }
        search.goThrough(n, Search.NONE);
        if (k == -1) {
            return search.total;
        }
        if (search.total == 0) {
            return NOT;
        }
        return k == 0 ? search.first : search.second;
    }

    public int sure(int n, int what) {
        if (!isSize(n) || what < 0 || what > 1) {
            return BAD;
        }
        search.goThrough(n, Search.NONE);
        return search.total == 0 ? 0 : search.cellsIn(what == 0 ? search.total : 0);
    }

    public int chance(int n, int cell, int part) {
        if (!isSize(n) || !land.has(cell) || part < 0 || part > 1) {
            return BAD;
        }
        search.goThrough(n, Search.NONE);
        int above = search.inCell[cell];
        int shared = commonDivisor(above, search.total);
        if (above == 0 || shared == 0) {
            return part;
        }
        return (part == 0 ? above : search.total) / shared;
    }

    private static int commonDivisor(int a, int b) {
        int x = a;
        int y = b;
        // Euclid's steps halve the numbers in two turns: 64 are more than any int needs
        for (int turn = 0; turn < 64 && y != 0; turn++) {
            int rest = x % y;
            x = y;
            y = rest;
        }
        return x;
    }

    public int dig(int n) {
        if (!isSize(n)) {
            return BAD;
        }
        search.goThrough(n, Search.NONE);
        return search.total == 0 ? NOT : search.bestCell();
    }

    public int next(int cell, int what) {
        if (!land.has(cell) || what < 0 || what > 1) {
            return BAD;
        }
        search.gatherFitting();
        if (search.fittingCount == 0) {
            return NOT;
        }
        search.partBest(cell);
        return what == 0 ? search.bestStrike : search.leastPart;
    }

    public int told(int n, int hearing) {
        if (!isSize(n) || !hearings.has(hearing)) {
            return BAD;
        }
        search.goThrough(n, hearing);
        int without = search.total;
        search.goThrough(n, Search.NONE);
        return without - search.total;
    }

    public int liars(int n) {
        if (!isSize(n)) {
            return BAD;
        }
        return land.cells() < n ? NOT : search.fewestFalse(n);
    }

    // ---- chains, villages, years

    public int shows(int ab) {
        int a = ab / 10;
        int b = ab % 10;
        if (ab < 0 || !buried.has(a) || !buried.has(b) || a == b) {
            return BAD;
        }
        return links.doesShow(a, b) ? 1 : 0;
    }

    private boolean isBellSet(int set) {
        return set >= 0 && set <= buried.allBits();
    }

    public int chain(int set) {
        if (!isBellSet(set)) {
            return BAD;
        }
        links.lookAtAll();
        return links.chainOf(set);
    }

    public int strikes(int set, int what) {
        if (!isBellSet(set) || what < 0 || what > 1) {
            return BAD;
        }
        links.lookAtAll();
        links.planFor(links.chainOf(set));
        return what == 0 ? links.need[set] : links.firstRow(set);
    }

    public int source() {
        if (buried.count == 0) {
            return STATE;
        }
        links.lookAtAll();
        return links.fewestForAll();
    }

    public int tune(int village, int v) {
        if (village < 0 || village >= Villages.MOST || v < 0 || v > 9999) {
            return BAD;
        }
        int was = villages.tunes[village];
        villages.tunes[village] = v;
        return was;
    }

    public int whose(int shelf, int what) {
        if (!shelves.isShelf(shelf) || what < 0 || what > 1) {
            return BAD;
        }
        if (shelves.sort[shelf] == Shelves.NOTHING) {
            return NOTHING_THERE;
        }
        if (shelves.sort[shelf] != Shelves.BYTES) {
            return OTHER_KIND;
        }
        if (shelves.length[shelf] < Villages.TUNE) {
            return NOT;
        }
        villages.findOwner(shelves, shelf);
        return what == 0 ? villages.owner : villages.leastSum;
    }

    public int years(int seed, int n) {
        if (n < 1 || n > 30) {
            return BAD;
        }
        int z = seed;
        for (int year = 0; year < n; year++) {
            z = buried.sink(z);
            z = land.soak(z);
        }
        return buried.depths();
    }

    private static int drawn(int z) {
        return z * 1103515245 + 12345;
    }

    private static int lotOf(int z) {
        return (z >>> 8) % 12;
    }

    public int dug(int cell, int deep) {
        if (!land.has(cell) || deep < 0 || deep > DEEPEST) {
            return BAD;
        }
        return buried.digUp(cell, deep);
    }

    public int judge(int what) {
        if (what < 0 || what > 1) {
            return BAD;
        }
        int honest = 0;
        int firstFalse = NOT;
        for (int h = hearings.count - 1; h >= 0; h--) {
            if (buried.heardOfAll(hearings.strike[h], hearings.cell[h]) == hearings.value[h]) {
                honest |= 1 << h;
            } else {
                firstFalse = h;
            }
        }
        return what == 0 ? firstFalse : honest;
    }

    public int image() {
        imageHearings.copyFrom(hearings);
        imageFound = buried.foundBits;
        imagePaid = buried.paid;
        imageKept = true;
        return hearings.count;
    }

    public int back() {
        if (!imageKept) {
            return STATE;
        }
        hearings.copyFrom(imageHearings);
        buried.foundBits = imageFound;
        buried.paid = imagePaid;
        return hearings.count;
    }

    public int undo() {
        if (changes.done == 0) {
            return STATE;
        }
        changes.stepBack();
        int at = changes.done;
        setValue(changes.number[at], changes.what[at], changes.before[at]);
        return changes.done;
    }

    public int redo() {
        if (changes.undone == 0) {
            return STATE;
        }
        int at = changes.done;
        changes.stepOn();
        setValue(changes.number[at], changes.what[at], changes.after[at]);
        return changes.undone;
    }

    // ---- acts, shelves

    public int body(int kind) {
        if (!Bodies.isKind(kind)) {
            return BAD;
        }
        return bodies.add(kind) ? bodies.count - 1 : FULL;
    }

    public int act(int body, int act, int x) {
        return bodies.perform(body, act, x);
    }

    public int trace(int i) {
        return i >= 0 && i < bodies.traced() ? bodies.begun[i] : BAD;
    }

    public int keep(int shelf, int body) {
        if (!shelves.isShelf(shelf) || (body != -1 && !bodies.has(body))) {
            return BAD;
        }
        shelves.hold(shelf, body == -1 ? Shelves.NOTHING : Shelves.BELL, 0);
        shelves.body[shelf] = body;
        return 1;
    }

    public int row(int shelf, int sort, int n) {
        if (!shelves.isShelf(shelf) || sort < Shelves.BYTES || sort > Shelves.BOOLEANS
                || n > Shelves.LONGEST) {
            return BAD;
        }
        if (n < 0) {
            return SIZE_BELOW;
        }
        shelves.hold(shelf, sort, n);
        return 1;
    }

    /** 0 if a SHELF has a ROW with a place i, or why not. */
    private int refusal(int shelf, int i) {
        if (!shelves.isShelf(shelf)) {
            return BAD;
        }
        if (shelves.sort[shelf] == Shelves.NOTHING) {
            return NOTHING_THERE;
        }
        if (shelves.sort[shelf] == Shelves.BELL) {
            return OTHER_KIND;
        }
        return shelves.hasPlace(shelf, i) ? 0 : NO_PLACE;
    }

    public int put(int shelf, int i, long v) {
        int refused = refusal(shelf, i);
        if (refused != 0) {
            return refused;
        }
        shelves.set(shelf, i, v);
        return 1;
    }

    public long element(int shelf, int i) {
        return refusal(shelf, i) != 0 ? Long.MIN_VALUE : shelves.get(shelf, i);
    }

    public int shift(int shelf, int i, int other, int j, int n) {
        if (!shelves.isShelf(shelf) || !shelves.isShelf(other)) {
            return BAD;
        }
        int sort = shelves.sort[shelf];
        int otherSort = shelves.sort[other];
        if (sort == Shelves.NOTHING || otherSort == Shelves.NOTHING) {
            return NOTHING_THERE;
        }
        if (sort == Shelves.BELL || sort != otherSort) {
            return OTHER_KIND;
        }
        if (!shelves.hasSpan(shelf, i, n) || !shelves.hasSpan(other, j, n)) {
            return NO_PLACE;
        }
        shelves.move(shelf, i, other, j, n);
        return n;
    }

    public int taken(int shelf, int k) {
        if (!shelves.isShelf(shelf) || !Bodies.isKind(k)) {
            return BAD;
        }
        if (shelves.sort[shelf] == Shelves.NOTHING) {
            return NOTHING_THERE;
        }
        int body = shelves.body[shelf];
        if (shelves.sort[shelf] != Shelves.BELL || !bodies.has(body)) {
            return OTHER_KIND;
        }
        int kind = bodies.kindOf[body];
        return Bodies.isUnder(kind, k) ? kind : OTHER_KIND;
    }

    public int count(int what) {
        switch (what) {
            case 0:
                return buried.count;
            case 1:
                return land.cells();
            case 2:
                return hearings.count;
            case 3:
                return Integer.bitCount(buried.foundBits);
            case 4:
                return tape.length;
            case 5:
                return changes.done;
            case 6:
                return bodies.count;
            case 7:
                return bodies.ran;
            default:
                return BAD;
        }
    }

    /** THE LAND: its CELLS, and what holds for all of them. */
    private static final class Land {
        private int rows;
        private int columns;
        private final int[] rowOf = new int[MOST_CELLS];
        private final int[] columnOf = new int[MOST_CELLS];
        private final int[] soil = new int[MOST_CELLS];
        private final int[] cost = new int[MOST_CELLS];
        private int wet;
        private int frost;
        private int ear = 5;
        private int guess = 3;

        private Land() {
            lay(MOST_SIDE, MOST_SIDE);
        }

        private void lay(int newRows, int newColumns) {
            rows = newRows;
            columns = newColumns;
            int cell = 0;
            for (int r = 0; r < rows; r++) {
                for (int c = 0; c < columns; c++) {
                    rowOf[cell] = r;
                    columnOf[cell] = c;
                    cell++;
                }
            }
            Arrays.fill(soil, 3);
            Arrays.fill(cost, 10);
        }

        private int cells() {
            return rows * columns;
        }

        private boolean has(int cell) {
            return cell >= 0 && cell < cells();
        }

        private boolean isStrike(int nc) {
            return nc >= 0 && nc / 100 < NOTES && has(nc % 100);
        }

        private int far(int a, int b) {
            return Math.abs(rowOf[a] - rowOf[b]) + Math.abs(columnOf[a] - columnOf[b]);
        }

        /** One of THE YEARS for the CELLS: z as it is drawn last. */
        private int soak(int z) {
            int drawing = z;
            for (int c = 0; c < cells(); c++) {
                drawing = drawn(drawing);
                if (lotOf(drawing) < wet) {
                    soil[c] = Math.min(soil[c] + 1, RICHEST);
                }
            }
            return drawing;
        }
    }

    /** THE TAPE, and how a TEXT on it is read into steps that THE LAW takes. */
    private static final class Tape {
        private static final int MOST_BYTES = 120, MOST_STEPS = 128, MOST_DIGITS = 4, MOST_OPEN = 6;
        private static final int OPERAND_LEVEL = 5, COMPARING_LEVEL = 2;
        // a step is a number (0 on), or 0 less a sign: a byte, or one of these
        private static final int NEGATION = 300, FIRST_NAME = 400;
        private static final String NAMES = "dgqzswf";

        private final int[] bytes = new int[MOST_BYTES];
        private int length;
        private final int[] code = new int[MOST_STEPS];
        private int codeLength;
        private int place;
        private int fault;

        private boolean add(int letter) {
            if (length >= MOST_BYTES) {
                return false;
            }
            bytes[length] = letter;
            length++;
            return true;
        }

        /** Reads the tape into code: the FAULT, or -1. */
        private int readText() {
            place = 0;
            fault = -1;
            codeLength = 0;
            readLine();
            for (int lines = 1; lines <= MOST_BYTES && ahead() == ';'; lines++) {
                place++;
                readLine();
            }
            if (place < length) {
                fail();
            }
            return fault;
        }

        private void readLine() {
            readPart(0, 0);
            if (ahead() == '?') {
                place++;
                step(-'?');
                readPart(0, 0);
            }
            step(-';');
        }

        /** Reads an E (level 0), A, B, S, P or O (5), with so many of ( ! - open ahead of it. */
        private void readPart(int level, int open) {
            if (level >= OPERAND_LEVEL) {
                readOperand(open);
                return;
            }
            readPart(level + 1, open);
            for (int k = 0; k < MOST_BYTES && levelOf(ahead()) == level; k++) {
                int sign = ahead();
                place++;
                readPart(level + 1, open);
                step(-sign);
                if (level == COMPARING_LEVEL) {
                    return;
                }
            }
        }

        private void readOperand(int open) {
            int sign = ahead();
            int name = sign < 0 ? -1 : NAMES.indexOf((char) sign);
            if (isDigit(sign)) {
                readNumber();
            } else if (name >= 0) {
                place++;
                step(-(FIRST_NAME + name));
            } else if (open < MOST_OPEN && (sign == '!' || sign == '-')) {
                place++;
                readOperand(open + 1);
                step(sign == '!' ? -'!' : -NEGATION);
            } else if (open < MOST_OPEN && sign == '(') {
                place++;
                readPart(0, open + 1);
                if (ahead() == ')') {
                    place++;
                } else {
                    fail();
                }
            } else {
                fail();
            }
        }

        private void readNumber() {
            int number = 0;
            for (int k = 0; k < MOST_DIGITS && isDigit(ahead()); k++) {
                number = number * 10 + ahead() - '0';
                place++;
            }
            step(number);
        }

        private static boolean isDigit(int sign) {
            return sign >= '0' && sign <= '9';
        }

        /** At which level a sign stands between two parts; -1: at none. */
        private static int levelOf(int sign) {
            switch (sign) {
                case '|':
                    return 0;
                case '&':
                    return 1;
                case '<':
                case '=':
                case '>':
                    return COMPARING_LEVEL;
                case '+':
                case '-':
                    return 3;
                case '*':
                case '/':
                case '%':
                    return 4;
                default:
                    return -1;
            }
        }

        /** The byte to be read now; -1: there is none, or reading has failed (so that all of it ends). */
        private int ahead() {
            return fault < 0 && place < length ? bytes[place] : -1;
        }

        /** The first failing counts: all later ones come of it. */
        private void fail() {
            if (fault < 0) {
                fault = place;
            }
        }

        private void step(int s) {
            if (codeLength < MOST_STEPS) {
                code[codeLength] = s;
                codeLength++;
            }
        }
    }

    /** THE LAW: how loud a true bell hums. */
    private static final class Law {
        private final Land land;
        private boolean hasText;
        private final int[] code = new int[Tape.MOST_STEPS];
        private int codeLength;
        // in the order of the tape's NAMES
        private final int[] names = new int[7];
        // 7 operands within one another, at most 5 signs waiting in each: fewer than this
        private final int[] stack = new int[64];
        private int top;

        private Law(Land land) {
            this.land = land;
        }

        private void become(int[] newCode, int newLength) {
            System.arraycopy(newCode, 0, code, 0, newLength);
            codeLength = newLength;
            hasText = true;
        }

        /** How loud a true bell hums: d, q and z as the LINES name them, its CELL, and where one listens. */
        private int loudness(int d, int q, int z, int cell, int listens) {
            int g = land.far(cell, listens);
            int s = land.soil[cell];
            int loud = hasText ? byText(d, g, q, z, s)
                    : 40 + 5 * land.frost - 2 * d - 3 * g - 6 * q - z - s - land.wet;
            return Math.max(0, Math.min(LOUDEST, loud));
        }

        /** What HEARD is when all that hum are so loud together. */
        private int heardOf(int together) {
            int hum = Math.min(together, LOUDEST);
            return hum >= land.ear ? hum : 0;
        }

        private int byText(int d, int g, int q, int z, int s) {
            names[0] = d;
            names[1] = g;
            names[2] = q;
            names[3] = z;
            names[4] = s;
            names[5] = land.wet;
            names[6] = land.frost;
            top = 0;
            boolean skips = false;
            for (int i = 0; i < codeLength; i++) {
                int sign = -code[i];
                if (skips) {
                    skips = sign != ';';
                } else if (sign == ';') {
                    return pop();
                } else if (sign == '?') {
                    skips = pop() == 0;
                } else {
                    take(sign);
                }
            }
            return 0;
        }

        private void take(int sign) {
            if (sign <= 0) {
                push(-sign);
            } else if (sign >= Tape.FIRST_NAME) {
                int name = sign - Tape.FIRST_NAME;
                push(name < names.length ? names[name] : 0);
            } else if (sign == Tape.NEGATION) {
                push(-pop());
            } else if (sign == '!') {
                push(pop() == 0 ? 1 : 0);
            } else {
                int right = pop();
                int left = pop();
                push(joined(left, sign, right));
            }
        }

        private static int joined(int left, int sign, int right) {
            switch (sign) {
                case '|':
                    return left != 0 || right != 0 ? 1 : 0;
                case '&':
                    return left != 0 && right != 0 ? 1 : 0;
                case '<':
                    return left < right ? 1 : 0;
                case '=':
                    return left == right ? 1 : 0;
                case '>':
                    return left > right ? 1 : 0;
                case '+':
                    return left + right;
                case '-':
                    return left - right;
                case '*':
                    return left * right;
                case '/':
                    return right == 0 ? 0 : left / right;
                case '%':
                    return right == 0 ? 0 : left % right;
                default:
                    return 0;
            }
        }

        private void push(int v) {
            if (top < stack.length) {
                stack[top] = v;
                top++;
            }
        }

        private int pop() {
            if (top <= 0) {
                return 0;
            }
            top--;
            return stack[top];
        }
    }

    /** The BELLS as they lie, which of them are FOUND, and what was PAID. */
    private static final class Buried {
        private final Land land;
        private final Law ruling;
        private final int[] cell = new int[MOST_BELLS];
        private final int[] note = new int[MOST_BELLS];
        private final int[] depth = new int[MOST_BELLS];
        private final int[] kind = new int[MOST_BELLS];
        private int count;
        private int foundBits;
        private int paid;

        private Buried(Land land, Law ruling) {
            this.land = land;
            this.ruling = ruling;
        }

        private boolean has(int bell) {
            return bell >= 0 && bell < count;
        }

        private boolean isFound(int bell) {
            return (foundBits >> bell & 1) != 0;
        }

        private int allBits() {
            return (1 << count) - 1;
        }

        /** Which BELL lies in a CELL; NOT: none. */
        private int inCell(int c) {
            for (int b = 0; b < count; b++) {
                if (cell[b] == c) {
                    return b;
                }
            }
            return NOT;
        }

        private int bury(int c, int n, int z, int k) {
            if (!land.has(c) || inCell(c) != NOT || n < 0 || n >= NOTES || z < 0 || z > DEEPEST
                    || k < 0 || k > 1) {
                return BAD;
            }
            if (count >= MOST_BELLS) {
                return FULL;
            }
            cell[count] = c;
            note[count] = n;
            depth[count] = z;
            kind[count] = k;
            count++;
            return count - 1;
        }

        private int humOf(int bell, int nc, int listens) {
            int d = land.far(nc % 100, cell[bell]);
            int q = Math.abs(nc / 100 - note[bell]);
            int loud = ruling.loudness(d, q, depth[bell], cell[bell], listens);
            return kind[bell] == 0 ? loud : loud / 2;
        }

        private int heardOfAll(int nc, int listens) {
            int together = 0;
            for (int b = 0; b < count; b++) {
                if (!isFound(b)) {
                    together += humOf(b, nc, listens);
                }
            }
            return ruling.heardOf(together);
        }

        /** What is dug for is PAID whether a BELL is FOUND or not. */
        private int digUp(int c, int deep) {
            paid += land.cost[c];
            int bell = inCell(c);
            if (bell == NOT || isFound(bell) || depth[bell] > deep) {
                return NOT;
            }
            foundBits |= 1 << bell;
            return bell;
        }

        /** One of THE YEARS for the BELLS: z as it is drawn last. */
        private int sink(int z) {
            int drawing = z;
            for (int b = 0; b < count; b++) {
                drawing = drawn(drawing);
                int lot = lotOf(drawing);
                if (lot < land.wet) {
                    depth[b] = Math.min(depth[b] + 1, DEEPEST);
                } else if (lot > 10) {
                    depth[b] = Math.max(depth[b] - 1, 0);
                }
            }
            return drawing;
        }

        private int depths() {
            int sum = 0;
            for (int b = 0; b < count; b++) {
                sum += depth[b];
            }
            return sum;
        }
    }

    /** The HEARINGS as they were told. */
    private static final class Hearings {
        private final int[] strike = new int[MOST_HEARINGS];
        private final int[] cell = new int[MOST_HEARINGS];
        private final int[] value = new int[MOST_HEARINGS];
        private int count;

        private boolean has(int hearing) {
            return hearing >= 0 && hearing < count;
        }

        private boolean add(int nc, int c, int v) {
            if (count >= MOST_HEARINGS) {
                return false;
            }
            strike[count] = nc;
            cell[count] = c;
            value[count] = v;
            count++;
            return true;
        }

        private void clear() {
            count = 0;
        }

        private void copyFrom(Hearings other) {
            count = other.count;
            System.arraycopy(other.strike, 0, strike, 0, count);
            System.arraycopy(other.cell, 0, cell, 0, count);
            System.arraycopy(other.value, 0, value, 0, count);
        }
    }

    /** Goes through all sets of bells that HEARINGS leave: a bell is 10 times its CELL and its NOTE. */
    private static final class Search {
        private static final int NONE = -1, MOST_PLACES = 250, FARS = 9;

        private final Land land;
        private final Law ruling;
        private final Hearings hearings;
        private final int[] loud = new int[MOST_HEARINGS * MOST_PLACES];
        private final int[] inCell = new int[MOST_CELLS];
        private int total;
        private int first;
        private int second;
        private final int[] heardBy = new int[MOST_CELLS * FARS * NOTES];
        private final int[] fitting = new int[MOST_PLACES];
        private int fittingCount;
        private final int[] parts = new int[LOUDEST + 1];
        private int bestStrike;
        private int leastPart;

        private Search(Land land, Law ruling, Hearings hearings) {
            this.land = land;
            this.ruling = ruling;
            this.hearings = hearings;
        }

        private int places() {
            return NOTES * land.cells();
        }

        /** How loud each bell would be in each HEARING: worked out once, for all the sets it is in. */
        private void listen() {
            for (int h = 0; h < hearings.count; h++) {
                int struck = hearings.strike[h] % 100;
                int note = hearings.strike[h] / 100;
                for (int p = 0; p < places(); p++) {
                    int c = p / NOTES;
                    loud[h * MOST_PLACES + p] = ruling.loudness(land.far(struck, c),
                            Math.abs(note - p % NOTES), land.guess, c, hearings.cell[h]);
                }
            }
        }

        /** The least second bell to go with p, and the one behind the last: p itself where it is alone. */
        private int seconds(int n, int p) {
            return n == 1 ? p : (p / NOTES + 1) * NOTES;
        }

        private int secondsEnd(int n, int p) {
            return n == 1 ? p + 1 : places();
        }

        private boolean isSo(int h, int p, int other) {
            int together = loud[h * MOST_PLACES + p];
            if (other != p) {
                together += loud[h * MOST_PLACES + other];
            }
            return ruling.heardOf(together) == hearings.value[h];
        }

        private boolean fits(int p, int other, int skipped) {
            for (int h = 0; h < hearings.count; h++) {
                if (h != skipped && !isSo(h, p, other)) {
                    return false;
                }
            }
            return true;
        }

        /** Counts the WAYS of n when one HEARING is skipped (or NONE). */
        private void goThrough(int n, int skipped) {
            listen();
            total = 0;
            Arrays.fill(inCell, 0);
            for (int p = 0; p < places(); p++) {
                int end = secondsEnd(n, p);
                for (int other = seconds(n, p); other < end; other++) {
                    if (fits(p, other, skipped)) {
                        countWay(p, other);
                    }
                }
            }
        }

        private void countWay(int p, int other) {
            if (total == 0) {
                first = p;
                second = other;
            }
            total++;
            inCell[p / NOTES]++;
            if (other != p) {
                inCell[other / NOTES]++;
            }
        }

        /** The CELLS (bits) that have a bell in so many WAYS. */
        private int cellsIn(int times) {
            int bits = 0;
            for (int c = 0; c < land.cells(); c++) {
                if (inCell[c] == times) {
                    bits |= 1 << c;
                }
            }
            return bits;
        }

        private int bestCell() {
            int best = 0;
            for (int c = 1; c < land.cells(); c++) {
                if (inCell[c] * (land.cost[best] + 1) > inCell[best] * (land.cost[c] + 1)) {
                    best = c;
                }
            }
            return best;
        }

        private int fewestFalse(int n) {
            listen();
            int best = (1 << hearings.count) - 1;
            for (int p = 0; p < places(); p++) {
                int end = secondsEnd(n, p);
                for (int other = seconds(n, p); other < end; other++) {
                    int bits = falseBits(p, other);
                    int fewer = Integer.bitCount(best) - Integer.bitCount(bits);
                    if (fewer > 0 || (fewer == 0 && bits < best)) {
                        best = bits;
                    }
                }
            }
            return best;
        }

        private int falseBits(int p, int other) {
            int bits = 0;
            for (int h = 0; h < hearings.count; h++) {
                if (!isSo(h, p, other)) {
                    bits |= 1 << h;
                }
            }
            return bits;
        }

        /** Finds NEXT among all STRIKES for a CELL at which one listens. */
        private void partBest(int listens) {
            tellHeardBy(listens);
            bestStrike = NOT;
            leastPart = MOST_PLACES + 1;
            for (int note = 0; note < NOTES; note++) {
                for (int c = 0; c < land.cells(); c++) {
                    int part = greatestPart(note, c);
                    if (part < leastPart) {
                        leastPart = part;
                        bestStrike = 100 * note + c;
                    }
                }
            }
        }

        private void gatherFitting() {
            listen();
            fittingCount = 0;
            for (int p = 0; p < places(); p++) {
                if (fits(p, p, NONE)) {
                    fitting[fittingCount] = p;
                    fittingCount++;
                }
            }
        }

        /** What is heard of a bell hangs on its CELL, on FAR from the STRIKE and on how the NOTES differ alone. */
        private void tellHeardBy(int listens) {
            for (int c = 0; c < land.cells(); c++) {
                for (int d = 0; d < FARS; d++) {
                    for (int q = 0; q < NOTES; q++) {
                        heardBy[(c * FARS + d) * NOTES + q] = ruling.heardOf(
                                ruling.loudness(d, q, land.guess, c, listens));
                    }
                }
            }
        }

        private int greatestPart(int note, int struck) {
            Arrays.fill(parts, 0);
            int greatest = 0;
            for (int k = 0; k < fittingCount; k++) {
                int c = fitting[k] / NOTES;
                int q = Math.abs(fitting[k] % NOTES - note);
                int v = heardBy[(c * FARS + land.far(struck, c)) * NOTES + q];
                parts[v]++;
                greatest = Math.max(greatest, parts[v]);
            }
            return greatest;
        }
    }

    /** Which BELLS show which: sets of them are bits. What was looked at holds for one call alone. */
    private static final class Links {
        private static final int MOST_SETS = 64, NEVER = 99;

        private final Law ruling;
        private final Buried buried;
        private final int[] shown = new int[MOST_BELLS];
        private final int[] need = new int[MOST_SETS];

        private Links(Law ruling, Buried buried) {
            this.ruling = ruling;
            this.buried = buried;
        }

        /** HEARD is a number, and 0 is nothing heard: a bell that hums 0 is not shown, also where the EAR is 0. */
        private boolean doesShow(int a, int b) {
            int nc = 100 * buried.note[a] + buried.cell[a];
            return ruling.heardOf(buried.humOf(b, nc, buried.cell[b])) != 0;
        }

        private void lookAtAll() {
            for (int a = 0; a < buried.count; a++) {
                shown[a] = 0;
                for (int b = 0; b < buried.count; b++) {
                    if (a != b && doesShow(a, b)) {
                        shown[a] |= 1 << b;
                    }
                }
            }
        }

        private static boolean holds(int set, int bell) {
            return (set >> bell & 1) != 0;
        }

        private int chainOf(int set) {
            int chain = set;
            for (int round = 0; round < buried.count; round++) {
                for (int a = 0; a < buried.count; a++) {
                    if (holds(chain, a)) {
                        chain |= shown[a];
                    }
                }
            }
            return chain;
        }

        /** need: how many strikes lead from each set to a whole CHAIN (a set only grows: greater ones come first). */
        private void planFor(int whole) {
            for (int set = buried.allBits(); set >= 0; set--) {
                need[set] = set == whole ? 0 : NEVER;
                for (int a = 0; a < buried.count; a++) {
                    if (holds(set, a) && (set | shown[a]) != set) {
                        need[set] = Math.min(need[set], need[set | shown[a]] + 1);
                    }
                }
            }
        }

        private int firstRow(int set) {
            int row = 0;
            int known = set;
            for (int k = 0; k < MOST_BELLS && need[known] > 0; k++) {
                int struck = firstStruck(known);
                row = 10 * row + struck + 1;
                known |= shown[struck];
            }
            return row;
        }

        private int firstStruck(int known) {
            for (int a = 0; a < buried.count; a++) {
                if (holds(known, a) && need[known | shown[a]] == need[known] - 1) {
                    return a;
                }
            }
            return 0;
        }

        /** Sets come by their bits, the least first: of like ones the first stays. */
        private int fewestForAll() {
            int all = buried.allBits();
            int best = all;
            for (int set = 1; set <= all; set++) {
                if (chainOf(set) == all && Integer.bitCount(set) < Integer.bitCount(best)) {
                    best = set;
                }
            }
            return best;
        }
    }

    /** CHANGES, the oldest first: the first ones are done, those behind them are undone. */
    private static final class Changes {
        private static final int MOST = 40;

        private final int[] number = new int[MOST];
        private final int[] what = new int[MOST];
        private final int[] before = new int[MOST];
        private final int[] after = new int[MOST];
        private int done;
        private int undone;

        private void clear() {
            done = 0;
            undone = 0;
        }

        private void add(int n, int w, int was, int v) {
            undone = 0;
            if (done >= MOST) {
                dropOldest();
            }
            number[done] = n;
            what[done] = w;
            before[done] = was;
            after[done] = v;
            done++;
        }

        private void dropOldest() {
            done = MOST - 1;
            System.arraycopy(number, 1, number, 0, done);
            System.arraycopy(what, 1, what, 0, done);
            System.arraycopy(before, 1, before, 0, done);
            System.arraycopy(after, 1, after, 0, done);
        }

        private void stepBack() {
            done--;
            undone++;
        }

        private void stepOn() {
            done++;
            undone--;
        }
    }

    /** VILLAGES with their tunes. */
    private static final class Villages {
        private static final int MOST = 6, TUNE = 4;

        private final int[] tunes = new int[MOST];
        private int owner;
        private int leastSum;

        private void findOwner(Shelves shelves, int shelf) {
            owner = NOT;
            leastSum = Integer.MAX_VALUE;
            for (int v = 0; v < MOST; v++) {
                for (int i = 0; i + TUNE <= shelves.length[shelf]; i++) {
                    int sum = differences(shelves, shelf, i, tunes[v]);
                    if (sum < leastSum) {
                        owner = v;
                        leastSum = sum;
                    }
                }
            }
        }

        private static int differences(Shelves shelves, int shelf, int from, int tune) {
            int sum = 0;
            int digits = tune;
            // the last digit is the last note
            for (int k = TUNE - 1; k >= 0; k--) {
                sum += Math.abs((int) shelves.get(shelf, from + k) - digits % 10);
                digits /= 10;
            }
            return sum;
        }
    }

    /** BODIES, and how the bodies of their acts run. */
    private static final class Bodies {
        private static final int MOST = 50, MOST_TRACED = 24, KINDS = 8, ACTS = 4, MOST_OPEN = 40;
        private static final int HUMS = 0, LIES = 1, RINGS = 2, TELLS = 3;
        private static final int BELL = 0, DEEP = 1, FALSE = 2, CRACKED = 3, SUNK = 4, CAST = 5, FOUND = 6, LOST = 7;
        private static final int[] ABOVE = {-1, BELL, BELL, FALSE, DEEP, CRACKED, BELL, SUNK};
        // a row for each KIND: its own bodies of hums, lies, rings, tells (0: none)
        private static final int[] OWN = {
            1, 10, 11, 2,
            20, 0, 0, 0,
            0, 30, 0, 0,
            0, 41, 40, 0,
            0, 0, 50, 0,
            0, 0, 0, 60,
            70, 0, 0, 0,
            0, 80, 0, 81,
        };

        private final int[] kindOf = new int[MOST];
        private int count;
        private final int[] begun = new int[MOST_TRACED];
        private int ran;
        private int actor;

        private static boolean isKind(int kind) {
            return kind >= 0 && kind < KINDS;
        }

        private static boolean isUnder(int kind, int k) {
            int at = kind;
            for (int up = 0; up < KINDS && isKind(at); up++) {
                if (at == k) {
                    return true;
                }
                at = ABOVE[at];
            }
            return false;
        }

        private boolean has(int body) {
            return body >= 0 && body < count;
        }

        private boolean add(int kind) {
            if (count >= MOST) {
                return false;
            }
            kindOf[count] = kind;
            count++;
            return true;
        }

        private int traced() {
            return Math.min(ran, MOST_TRACED);
        }

        private int perform(int body, int act, int x) {
            ran = 0;
            if (!has(body) || act < 0 || act >= ACTS) {
                return 0;
            }
            actor = body;
            return own(act, x, 0);
        }

        /** An act of the BELL that acts, as its own KIND has it. */
        private int own(int act, int x, int open) {
            return from(kindOf[actor], act, x, open);
        }

        /** The same as the KIND above another has it. */
        private int above(int kind, int act, int x, int open) {
            return from(ABOVE[kind], act, x, open);
        }

        private int from(int kind, int act, int x, int open) {
            int body = bodyFrom(kind, act);
            if (body == 0 || open >= MOST_OPEN) {
                return 0;
            }
            begin(body);
            return runBody(body, x, open + 1);
        }

        private static int bodyFrom(int kind, int act) {
            int at = kind;
            for (int up = 0; up < KINDS && isKind(at); up++) {
                if (OWN[at * ACTS + act] != 0) {
                    return OWN[at * ACTS + act];
                }
                at = ABOVE[at];
            }
            return 0;
        }

        private void begin(int body) {
            if (ran < MOST_TRACED) {
                begun[ran] = body;
            }
            ran++;
        }

        private int runBody(int body, int x, int open) {
            switch (body) {
                case 1:
                    return x + actor;
                case 2:
                    return own(LIES, x, open) - own(RINGS, 1, open);
                case 10:
                    return own(HUMS, x, open) * 2;
                case 11:
                    return x ^ actor;
                case 20:
                    return above(DEEP, HUMS, x, open) + 3;
                case 30:
                    return -above(FALSE, LIES, x, open);
                case 40:
                    return above(CRACKED, RINGS, x, open) * 3;
                case 41:
                    return above(CRACKED, LIES, x + 1, open);
                case 50:
                    return above(SUNK, RINGS, x, open) - own(HUMS, 2, open);
                case 60:
                    return above(CAST, TELLS, x, open) ^ 5;
                case 70:
                    return above(FOUND, HUMS, x, open) * 2;
                case 80:
                    return above(LOST, LIES, x, open) + own(RINGS, 2, open);
                case 81:
                    return above(LOST, TELLS, x, open) - 1;
                default:
                    return 0;
            }
        }
    }

    /** SHELVES: each has room for the longest ROW, so that none is ever made anew. */
    private static final class Shelves {
        private static final int MOST = 6, LONGEST = 60;
        private static final int NOTHING = -1, BYTES = 0, SHORTS = 1, INTS = 2, BOOLEANS = 4, BELL = 5;

        private final int[] sort = {NOTHING, NOTHING, NOTHING, NOTHING, NOTHING, NOTHING};
        private final int[] length = new int[MOST];
        private final int[] body = new int[MOST];
        private final long[] elements = new long[MOST * LONGEST];

        private boolean isShelf(int shelf) {
            return shelf >= 0 && shelf < MOST;
        }

        private void hold(int shelf, int newSort, int newLength) {
            sort[shelf] = newSort;
            length[shelf] = newLength;
            Arrays.fill(elements, shelf * LONGEST, shelf * LONGEST + newLength, 0L);
        }

        /** A SHELF without a ROW has no places. */
        private boolean hasPlace(int shelf, int i) {
            return i >= 0 && i < length[shelf];
        }

        private boolean hasSpan(int shelf, int i, int n) {
            return i >= 0 && n >= 0 && n <= length[shelf] && i <= length[shelf] - n;
        }

        private long get(int shelf, int i) {
            return elements[shelf * LONGEST + i];
        }

        private void set(int shelf, int i, long v) {
            elements[shelf * LONGEST + i] = held(sort[shelf], v);
        }

        private static long held(int sort, long v) {
            switch (sort) {
                case BYTES:
                    return (byte) v;
                case SHORTS:
                    return (short) v;
                case INTS:
                    return (int) v;
                case BOOLEANS:
                    return v != 0 ? 1 : 0;
                default:
                    return v;
            }
        }

        private void move(int shelf, int i, int other, int j, int n) {
            System.arraycopy(elements, shelf * LONGEST + i, elements, other * LONGEST + j, n);
        }
    }
}
