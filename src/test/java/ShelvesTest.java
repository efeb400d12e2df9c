/** Promises 36 to 42: keep, row, put, element, shift, taken, count. */
final class ShelvesTest {
    private static final Check CHECK = new Check("ShelvesTest");
    private static final int[] WRONG_SHELVES = {-1, 6, Integer.MIN_VALUE, Integer.MAX_VALUE};

    private ShelvesTest() {
    }

    private static void due(String call, long got, long want) {
        CHECK.due(call, got, want);
    }

    public static void main(String[] args) {
        shelvesKeep();
        rowsAreMade();
        theLongestRows();
        rowsAreBad();
        lowestBits();
        eachItsOwn();
        putsAreRefused();
        elementsAreRefused();
        rowsShift();
        rowsShiftInThemselves();
        shiftsAreRefused();
        bellsAreTaken();
        takenIsRefused();
        counts();
        CHECK.end();
    }

    private static void shelvesKeep() {
        BellGround x = new BellGround();
        for (int shelf = 0; shelf < 6; shelf++) {
            due("no body 0", x.keep(shelf, 0), BellGround.BAD);
            due("nothing", x.keep(shelf, -1), 1);
            due("holds nothing", x.taken(shelf, 0), -11);
        }
        x.body(3);
        x.body(4);
        due("keep(5, 1)", x.keep(5, 1), 1);
        due("its kind", x.taken(5, 0), 4);
        due("keep(5, 0)", x.keep(5, 0), 1);
        due("its kind then", x.taken(5, 0), 3);
        due("keep(4, 0)", x.keep(4, 0), 1);
        due("the same one twice", x.taken(4, 3), 3);
        int[] wrong = {-2, 2, 50, Integer.MIN_VALUE, Integer.MAX_VALUE};
        for (int body : wrong) {
            due("keep(5, " + body + ")", x.keep(5, body), BellGround.BAD);
        }
        for (int shelf : WRONG_SHELVES) {
            due("keep(" + shelf + ", 0)", x.keep(shelf, 0), BellGround.BAD);
            due("keep(" + shelf + ", -1)", x.keep(shelf, -1), BellGround.BAD);
        }
        due("it stays", x.taken(5, 0), 3);
        due("keep(5, -1)", x.keep(5, -1), 1);
        due("nothing then", x.taken(5, 0), -11);
    }

    private static void rowsAreMade() {
        BellGround x = new BellGround();
        for (int sort = 0; sort < 5; sort++) {
            for (int n = 0; n <= 60; n += 30) {
                due("row(2, " + sort + ", " + n + ")", x.row(2, sort, n), 1);
                due("behind its end", x.put(2, n, 1), -13);
                for (int i = 0; i < n; i++) {
                    due("at first", x.element(2, i), 0);
                    due("put", x.put(2, i, 1), 1);
                }
            }
        }
        due("a row anew", x.row(2, 3, 60), 1);
        due("is 0 anew", x.element(2, 59), 0);
    }

    private static void theLongestRows() {
        BellGround x = new BellGround();
        for (int shelf = 5; shelf >= 0; shelf--) {
            due("row(" + shelf + ", 3, 60)", x.row(shelf, 3, 60), 1);
            due("the first", x.put(shelf, 0, 100 + shelf), 1);
            due("the last", x.put(shelf, 59, Long.MAX_VALUE - shelf), 1);
            due("behind it", x.put(shelf, 60, 1), -13);
        }
        for (int shelf = 0; shelf < 6; shelf++) {
            due("first of " + shelf, x.element(shelf, 0), 100 + shelf);
            due("last of " + shelf, x.element(shelf, 59), Long.MAX_VALUE - shelf);
        }
        for (int shelf = 0; shelf < 6; shelf += 2) {
            x.row(shelf, 0, 60);
        }
        for (int shelf = 0; shelf < 6; shelf++) {
            boolean stays = shelf % 2 != 0;
            due("first of " + shelf + " then", x.element(shelf, 0), stays ? 100 + shelf : 0);
            due("last of " + shelf + " then", x.element(shelf, 59), stays ? Long.MAX_VALUE - shelf : 0);
        }
        due("all of the last but one", x.shift(1, 0, 5, 0, 60), 60);
        due("it came", x.element(5, 59), Long.MAX_VALUE - 1);
        due("one more", x.shift(1, 0, 5, 0, 61), -13);
    }

    private static void rowsAreBad() {
        BellGround x = new BellGround();
        x.row(0, 2, 1);
        x.put(0, 0, 77);
        for (int shelf : WRONG_SHELVES) {
            due("row(" + shelf + ", 0, 1)", x.row(shelf, 0, 1), BellGround.BAD);
            due("row(" + shelf + ", 0, -1)", x.row(shelf, 0, -1), BellGround.BAD);
        }
        int[] sorts = {-1, 5, Integer.MIN_VALUE, Integer.MAX_VALUE};
        for (int sort : sorts) {
            due("row(0, " + sort + ", 1)", x.row(0, sort, 1), BellGround.BAD);
            due("row(0, " + sort + ", -1)", x.row(0, sort, -1), BellGround.BAD);
        }
        due("row(0, 0, 61)", x.row(0, 0, 61), BellGround.BAD);
        due("row(0, 0, the most)", x.row(0, 0, Integer.MAX_VALUE), BellGround.BAD);
        due("row(0, 0, -1)", x.row(0, 0, -1), -14);
        due("row(0, 4, the least)", x.row(0, 4, Integer.MIN_VALUE), -14);
        due("the row stays", x.element(0, 0), 77);
    }

    private static void lowestBits() {
        long[] told = {0, 1, -1, 127, 128, -128, -129, 200, 255, 256, 32767, 32768, -32768, -32769, 65536, 2147483647L,
            2147483648L, -2147483648L, -2147483649L, 4294967296L, Long.MAX_VALUE, Long.MIN_VALUE};
        BellGround x = new BellGround();
        for (int sort = 0; sort < 5; sort++) {
            x.row(sort, sort, 2);
        }
        for (long v : told) {
            long[] kept = {(byte) v, (short) v, (int) v, v, v == 0 ? 0 : 1};
            for (int sort = 0; sort < 5; sort++) {
                due("put(" + sort + ", 1, " + v + ")", x.put(sort, 1, v), 1);
                due("element of sort " + sort + " for " + v, x.element(sort, 1), kept[sort]);
                due("the other", x.element(sort, 0), 0);
            }
        }
    }

    private static void eachItsOwn() {
        BellGround x = new BellGround();
        for (int shelf = 0; shelf < 6; shelf++) {
            x.row(shelf, 3, 3);
        }
        for (int k = 0; k < 18; k++) {
            x.put(k % 6, k / 6, 100 + k);
        }
        for (int k = 0; k < 18; k++) {
            due("element(" + k % 6 + ", " + k / 6 + ")", x.element(k % 6, k / 6), 100 + k);
        }
    }

    private static void putsAreRefused() {
        BellGround x = new BellGround();
        x.body(0);
        for (int shelf : WRONG_SHELVES) {
            due("put(" + shelf + ", 0, 1)", x.put(shelf, 0, 1), BellGround.BAD);
        }
        due("on nothing", x.put(0, -1, 1), -11);
        x.keep(0, 0);
        due("on a bell", x.put(0, -1, 1), -12);
        x.row(0, 0, 3);
        int[] wrong = {-1, 3, 60, Integer.MIN_VALUE, Integer.MAX_VALUE};
        for (int i : wrong) {
            due("put(0, " + i + ", 1)", x.put(0, i, 1), -13);
        }
        x.keep(0, -1);
        due("on nothing again", x.put(0, 0, 1), -11);
    }

    private static void elementsAreRefused() {
        BellGround x = new BellGround();
        x.body(0);
        for (int shelf : WRONG_SHELVES) {
            due("element(" + shelf + ", 0)", x.element(shelf, 0), Long.MIN_VALUE);
        }
        due("of nothing", x.element(0, 0), Long.MIN_VALUE);
        x.keep(0, 0);
        due("of a bell", x.element(0, 0), Long.MIN_VALUE);
        x.row(0, 0, 3);
        int[] wrong = {-1, 3, 60, Integer.MIN_VALUE, Integer.MAX_VALUE};
        for (int i : wrong) {
            due("element(0, " + i + ")", x.element(0, i), Long.MIN_VALUE);
        }
        due("element(0, 2)", x.element(0, 2), 0);
    }

    private static BellGround rows() {
        BellGround x = new BellGround();
        x.row(0, 1, 6);
        x.row(1, 1, 4);
        for (int i = 0; i < 6; i++) {
            x.put(0, i, 10 + i);
        }
        return x;
    }

    private static void holds(BellGround x, int shelf, int... values) {
        for (int i = 0; i < values.length; i++) {
            due("element(" + shelf + ", " + i + ")", x.element(shelf, i), values[i]);
        }
        due("and no more", x.put(shelf, values.length, 0), -13);
    }

    private static void rowsShift() {
        BellGround x = rows();
        due("shift(0, 2, 1, 1, 3)", x.shift(0, 2, 1, 1, 3), 3);
        holds(x, 1, 0, 12, 13, 14);
        holds(x, 0, 10, 11, 12, 13, 14, 15);
        due("all of it", x.shift(1, 0, 0, 2, 4), 4);
        holds(x, 0, 10, 11, 0, 12, 13, 14);
        due("none", x.shift(0, 6, 1, 4, 0), 0);
        due("none from the first on", x.shift(0, 0, 1, 0, 0), 0);
        holds(x, 1, 0, 12, 13, 14);
        for (int sort = 0; sort < 5; sort++) {
            x.row(3, sort, 1);
            x.row(4, sort, 1);
            x.put(3, 0, -1);
            due("of sort " + sort, x.shift(3, 0, 4, 0, 1), 1);
            due("it came", x.element(4, 0), sort == 4 ? 1 : -1);
        }
    }

    private static void rowsShiftInThemselves() {
        BellGround x = rows();
        due("to the right", x.shift(0, 0, 0, 2, 4), 4);
        holds(x, 0, 10, 11, 10, 11, 12, 13);
        x = rows();
        due("to the left", x.shift(0, 1, 0, 0, 5), 5);
        holds(x, 0, 11, 12, 13, 14, 15, 15);
        due("in place", x.shift(0, 0, 0, 0, 6), 6);
        holds(x, 0, 11, 12, 13, 14, 15, 15);
    }

    private static void shiftsAreRefused() {
        BellGround x = rows();
        x.body(0);
        x.keep(2, 0);
        x.row(3, 2, 6);
        for (int shelf : WRONG_SHELVES) {
            due("from " + shelf, x.shift(shelf, 0, 4, 0, 1), BellGround.BAD);
            due("to " + shelf, x.shift(4, 0, shelf, 0, 1), BellGround.BAD);
        }
        due("from nothing", x.shift(4, 0, 0, 0, 1), -11);
        due("to nothing", x.shift(0, 0, 4, 0, 1), -11);
        due("from nothing to a bell", x.shift(4, 0, 2, 0, 1), -11);
        due("from a bell to nothing", x.shift(2, 0, 4, 0, 1), -11);
        due("from a bell", x.shift(2, 0, 0, 0, 1), -12);
        due("to a bell", x.shift(0, 0, 2, 0, 1), -12);
        due("from a bell to itself", x.shift(2, 0, 2, 0, 0), -12);
        due("of unlike sorts", x.shift(0, 0, 3, 0, 1), -12);
        due("of unlike sorts, no such place", x.shift(0, 9, 3, 0, 1), -12);
        int[][] wrong = {{-1, 0, 1}, {0, -1, 1}, {0, 0, 5}, {0, 2, 3}, {3, 0, 4}, {6, 0, 1}, {0, 4, 1}, {7, 0, 0},
            {0, 5, 0}, {-1, 0, 0}, {0, -1, 0}, {0, 0, -1}, {2, 2, -1}, {0, 0, Integer.MIN_VALUE},
            {0, 0, Integer.MAX_VALUE}, {Integer.MAX_VALUE, 0, 1}, {0, Integer.MAX_VALUE, 1},
            {Integer.MIN_VALUE, 0, 1}, {1, 1, Integer.MAX_VALUE}, {Integer.MAX_VALUE, 0, Integer.MAX_VALUE}};
        for (int[] one : wrong) {
            due("shift(0, " + one[0] + ", 1, " + one[1] + ", " + one[2] + ")",
                    x.shift(0, one[0], 1, one[1], one[2]), -13);
        }
        holds(x, 0, 10, 11, 12, 13, 14, 15);
        holds(x, 1, 0, 0, 0, 0);
    }

    private static void bellsAreTaken() {
        // by kind: the kinds that it is, or is under (bits)
        int[] under = {1, 3, 5, 13, 19, 45, 65, 147};
        BellGround x = new BellGround();
        for (int kind = 0; kind < 8; kind++) {
            x.body(kind);
            x.keep(1, kind);
            for (int k = 0; k < 8; k++) {
                due("kind " + kind + " taken for " + k, x.taken(1, k), (under[kind] >> k & 1) != 0 ? kind : -12);
            }
        }
    }

    private static void takenIsRefused() {
        BellGround x = new BellGround();
        x.body(0);
        x.keep(0, 0);
        for (int shelf : WRONG_SHELVES) {
            due("taken(" + shelf + ", 0)", x.taken(shelf, 0), BellGround.BAD);
        }
        int[] wrong = {-1, 8, Integer.MIN_VALUE, Integer.MAX_VALUE};
        for (int k : wrong) {
            due("taken(0, " + k + ")", x.taken(0, k), BellGround.BAD);
            due("taken(1, " + k + ")", x.taken(1, k), BellGround.BAD);
        }
        due("nothing there", x.taken(1, 0), -11);
        for (int sort = 0; sort < 5; sort++) {
            x.row(0, sort, 1);
            due("a row of sort " + sort, x.taken(0, 0), -12);
        }
        x.keep(0, 0);
        due("the bell again", x.taken(0, 0), 0);
    }

    private static void counts() {
        BellGround x = new BellGround();
        x.land(34);
        x.bell(0, 0);
        x.bell(1, 0);
        x.bell(2, 0);
        x.hearing(0, 0, 0);
        x.hearing(0, 0, 0);
        x.dug(1, 0);
        x.feed(1);
        x.feed(2);
        x.feed(3);
        x.feed(4);
        for (int k = 0; k < 5; k++) {
            x.mend(0, 5, 50 + k);
        }
        for (int k = 0; k < 6; k++) {
            x.body(3);
        }
        x.act(0, 3, 0);
        int[] counts = {3, 12, 2, 1, 4, 5, 6, 7};
        for (int what = 0; what < 8; what++) {
            due("count(" + what + ")", x.count(what), counts[what]);
        }
        int[] wrong = {-1, 8, Integer.MIN_VALUE, Integer.MAX_VALUE};
        for (int what : wrong) {
            due("count(" + what + ")", x.count(what), BellGround.BAD);
        }
    }
}
