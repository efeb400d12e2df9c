/** Promises 1 to 6: a new object, land, bell, bells, mend, of. */
final class LandTest {
    private static final Check CHECK = new Check("LandTest");

    private LandTest() {
    }

    private static void due(String call, long got, long want) {
        CHECK.due(call, got, want);
    }

    public static void main(String[] args) {
        aNewObject();
        landIsTold();
        landForgets();
        bellsCome();
        bellsAreBad();
        bellsFromARow();
        rowsThatEnd();
        bellsFromWrongRows();
        numbersAreMended();
        mendIsBad();
        ofTells();
        ofIsBad();
        CHECK.end();
    }

    private static void aNewObject() {
        BellGround x = new BellGround();
        for (int what = 0; what < 8; what++) {
            due("new: count(" + what + ")", x.count(what), what == 1 ? 25 : 0);
        }
        for (int cell = 0; cell < 25; cell++) {
            due("new: soil of " + cell, x.of(cell, 0), 3);
            due("new: cost of " + cell, x.of(cell, 1), 10);
        }
        due("new: WET", x.of(0, 20), 0);
        due("new: FROST", x.of(0, 21), 0);
        due("new: EAR", x.of(0, 22), 5);
        due("new: THE GUESS", x.of(0, 23), 3);
        due("new: PAID", x.of(0, 24), 0);
        due("new: image", x.back(), BellGround.STATE);
        for (int village = 0; village < 6; village++) {
            due("new: tune of " + village, x.tune(village, 0), 0);
        }
        for (int shelf = 0; shelf < 6; shelf++) {
            due("new: shelf " + shelf, x.put(shelf, 0, 0), -11);
        }
        due("VOID", BellGround.VOID, -2000000000);
    }

    private static void landIsTold() {
        BellGround x = new BellGround();
        due("land(11)", x.land(11), 55);
        due("cells of 1 by 1", x.count(1), 1);
        due("land(53)", x.land(53), 11);
        due("cells of 5 by 3", x.count(1), 15);
        due("land(25)", x.land(25), 53);
        due("land(55)", x.land(55), 25);
        int[] wrong = {-1, -55, 0, 1, 5, 9, 10, 16, 50, 56, 60, 61, 65, 110, 155, 555, Integer.MIN_VALUE, Integer.MAX_VALUE};
        for (int rc : wrong) {
            due("land(" + rc + ")", x.land(rc), BellGround.BAD);
        }
        due("land(55) as it was", x.land(55), 55);
        x.bell(0, 0);
        due("land(60) with a bell", x.land(60), BellGround.BAD);
        due("land(55) with a bell", x.land(55), BellGround.STATE);
        due("land(22) with a bell", x.land(22), BellGround.STATE);
        due("cells then", x.count(1), 25);
    }

    private static void landForgets() {
        BellGround x = new BellGround();
        x.mend(2, 0, 9);
        x.mend(2, 1, 99);
        x.mend(0, 3, 4);
        x.mend(0, 4, 1);
        x.mend(0, 5, 0);
        x.mend(0, 6, 8);
        x.undo();
        x.hearing(0, 0, 0);
        x.dug(0, 0);
        x.image();
        x.feed('7');
        due("land told anew", x.land(55), 55);
        due("soil is as at first", x.of(2, 0), 3);
        due("cost is as at first", x.of(2, 1), 10);
        due("hearings are none", x.count(2), 0);
        due("changes are none", x.count(5), 0);
        due("nothing to undo", x.undo(), BellGround.STATE);
        due("nothing to do again", x.redo(), BellGround.STATE);
        due("the image is of another land", x.back(), BellGround.STATE);
        due("WET stays", x.of(0, 20), 4);
        due("FROST stays", x.of(0, 21), 1);
        due("EAR stays", x.of(0, 22), 0);
        due("THE GUESS stays as undone", x.of(0, 23), 3);
        due("PAID stays", x.of(0, 24), 10);
        due("the tape stays", x.count(4), 1);
        x.image();
        due("a land refused", x.land(99), BellGround.BAD);
        due("leaves the image", x.back(), 0);
    }

    private static void bellsCome() {
        BellGround x = new BellGround();
        due("bell(24, 991)", x.bell(24, 991), 0);
        due("bell(0, 0)", x.bell(0, 0), 1);
        due("bell(7, 350)", x.bell(7, 350), 2);
        int[][] told = {{24, 9, 9, 1, 0}, {0, 0, 0, 0, 0}, {7, 3, 5, 0, 0}};
        for (int bell = 0; bell < 3; bell++) {
            for (int k = 0; k < 5; k++) {
                due("of(" + bell + ", " + (10 + k) + ")", x.of(bell, 10 + k), told[bell][k]);
            }
        }
        for (int cell = 1; cell < 4; cell++) {
            due("bell(" + cell + ", 100)", x.bell(cell, 100), 2 + cell);
        }
        due("a seventh", x.bell(10, 100), BellGround.FULL);
        due("a seventh that is not so", x.bell(10, 102), BellGround.BAD);
        due("a seventh where one is", x.bell(24, 100), BellGround.BAD);
        due("a seventh outside", x.bell(25, 100), BellGround.BAD);
        due("six bells", x.count(0), 6);
    }

    private static void bellsAreBad() {
        BellGround x = new BellGround();
        x.land(23);
        int[] cells = {-1, 6, 24, Integer.MIN_VALUE, Integer.MAX_VALUE};
        for (int cell : cells) {
            due("bell(" + cell + ", 0)", x.bell(cell, 0), BellGround.BAD);
        }
        int[] wrong = {-1, -100, 2, 9, 12, 999, 1000, 1001, Integer.MIN_VALUE, Integer.MAX_VALUE};
        for (int nzk : wrong) {
            due("bell(0, " + nzk + ")", x.bell(0, nzk), BellGround.BAD);
        }
        due("bell(5, 0)", x.bell(5, 0), 0);
        due("bell(5, 100)", x.bell(5, 100), BellGround.BAD);
        due("dug(5, 9)", x.dug(5, 9), 0);
        due("a cell whose bell is found has one", x.bell(5, 100), BellGround.BAD);
        due("one bell", x.count(0), 1);
    }

    private static void bellsFromARow() {
        BellGround x = new BellGround();
        Check.bytes(x, 1, 77, 4, 9, 8, 1, 5, 0, 0, 0, 6, 1, 2, 0);
        due("two of three", x.bells(1, 1, 2), 2);
        int[][] told = {{4, 9, 8, 1}, {5, 0, 0, 0}};
        for (int bell = 0; bell < 2; bell++) {
            for (int k = 0; k < 4; k++) {
                due("of(" + bell + ", " + (10 + k) + ")", x.of(bell, 10 + k), told[bell][k]);
            }
        }
        due("its cell has one", x.bells(1, 1, 1), 0);
        due("the third", x.bells(1, 9, 1), 1);
        due("three bells", x.count(0), 3);
        Check.bytes(x, 2, 10, 0, 0, 0, 11, 0, 0, 0, 12, 0, 0, 0, 13, 0, 0, 0);
        due("until they are full", x.bells(2, 0, 4), 3);
        due("six bells", x.count(0), 6);
        due("when they are full", x.bells(2, 12, 1), 0);
        BellGround y = new BellGround();
        Check.bytes(y, 5, 0, 0, 1, 0, 1, 0, 2, 0, 2, 0, 3, 0, 3, 0, 4, 0, 4, 0, 5, 0, 24, 9, 6, 1);
        due("six, to the end of the row", y.bells(5, 0, 6), 6);
        due("the last depth", y.of(5, 12), 6);
    }

    private static void rowsThatEnd() {
        BellGround x = new BellGround();
        due("a row that is missing", x.bells(0, 0, 6), 0);
        Check.bytes(x, 0, 1, 1, 1, 0, 2, 2, 2, 1, 3, 3, 3);
        due("a place behind the end", x.bells(0, 11, 1), 0);
        due("far behind it", x.bells(0, Integer.MAX_VALUE, 6), 0);
        due("a place ahead of the row", x.bells(0, -1, 1), 0);
        due("far ahead of it", x.bells(0, Integer.MIN_VALUE, 6), 0);
        due("it ends within a four", x.bells(0, 8, 1), 0);
        due("two, and it ends within a four", x.bells(0, 0, 3), 2);
        int[][] wrong = {{25, 0, 0, 0}, {-1, 0, 0, 0}, {9, 10, 0, 0}, {9, -1, 0, 0}, {9, 0, 10, 0}, {9, 0, -1, 0},
            {9, 0, 0, 2}, {9, 0, 0, -1}, {1, 0, 0, 0}};
        for (int[] four : wrong) {
            Check.bytes(x, 3, four);
            due("one is not so", x.bells(3, 0, 1), 0);
        }
        Check.bytes(x, 3, 7, 0, 0, 0, 7, 0, 0, 0, 8, 0, 0, 0);
        due("those ahead came", x.bells(3, 0, 3), 1);
        due("three bells in all", x.count(0), 3);
        x.row(4, 0, 0);
        due("a row of none", x.bells(4, 0, 1), 0);
    }

    private static void bellsFromWrongRows() {
        BellGround x = new BellGround();
        x.body(0);
        for (int sort = 1; sort < 5; sort++) {
            x.row(0, sort, 4);
            due("a row of sort " + sort, x.bells(0, 0, 1), -12);
        }
        x.keep(0, 0);
        due("a bell on the shelf", x.bells(0, 0, 1), -12);
        x.row(0, 0, 60);
        int[] shelves = {-1, 6, Integer.MIN_VALUE, Integer.MAX_VALUE};
        for (int shelf : shelves) {
            due("bells(" + shelf + ", 0, 1)", x.bells(shelf, 0, 1), BellGround.BAD);
        }
        int[] sizes = {0, -1, 7, Integer.MIN_VALUE, Integer.MAX_VALUE};
        for (int n : sizes) {
            due("bells(0, 0, " + n + ")", x.bells(0, 0, n), BellGround.BAD);
            due("bells(5, 0, " + n + ") of nothing", x.bells(5, 0, n), BellGround.BAD);
        }
        due("no bells", x.count(0), 0);
        due("bells(0, 0, 6): one cell", x.bells(0, 0, 6), 1);
    }

    private static void numbersAreMended() {
        BellGround x = new BellGround();
        x.bell(3, 40);
        x.bell(4, 50);
        int[] numbers = {24, 24, 1, 0, 0, 0, 0};
        int[] first = {3, 10, 5, 0, 0, 5, 3};
        int[] most = {9, 99, 9, 9, 1, 99, 9};
        int[] told = {0, 1, 12, 20, 21, 22, 23};
        for (int what = 0; what < 7; what++) {
            int number = numbers[what];
            due("mend " + what + " to the most", x.mend(number, what, most[what]), first[what]);
            due("it is " + what, x.of(number, told[what]), most[what]);
            due("mend " + what + " above it", x.mend(number, what, most[what] + 1), BellGround.BAD);
            due("mend " + what + " below 0", x.mend(number, what, -1), BellGround.BAD);
            due("it stays " + what, x.of(number, told[what]), most[what]);
            due("mend " + what + " to 0", x.mend(number, what, 0), most[what]);
            due("it is 0 " + what, x.of(number, told[what]), 0);
        }
        due("another cell's soil", x.of(23, 0), 3);
        due("another cell's cost", x.of(23, 1), 10);
        due("another bell's depth", x.of(0, 12), 4);
    }

    private static void mendIsBad() {
        BellGround x = new BellGround();
        x.land(22);
        x.bell(0, 0);
        int[][] wrong = {{-1, 0}, {4, 0}, {-1, 1}, {4, 1}, {-1, 2}, {1, 2}, {1, 3}, {-1, 3}, {1, 4}, {1, 5}, {1, 6},
            {-1, 6}, {0, 7}, {0, -1}, {0, Integer.MAX_VALUE}, {0, Integer.MIN_VALUE}, {Integer.MAX_VALUE, 0},
            {Integer.MIN_VALUE, 2}};
        for (int[] one : wrong) {
            due("mend(" + one[0] + ", " + one[1] + ", 0)", x.mend(one[0], one[1], 0), BellGround.BAD);
        }
        due("no change", x.count(5), 0);
    }

    private static void ofTells() {
        BellGround x = new BellGround();
        x.bell(6, 771);
        x.dug(6, 7);
        x.mend(5, 1, 31);
        x.dug(5, 7);
        due("of(0, 14)", x.of(0, 14), 1);
        due("of(0, 24)", x.of(0, 24), 41);
        x.hearing(907, 13, 62);
        x.hearing(24, 24, 0);
        int[][] told = {{907, 13, 62}, {24, 24, 0}};
        for (int h = 0; h < 2; h++) {
            for (int k = 0; k < 3; k++) {
                due("of(" + h + ", " + (30 + k) + ")", x.of(h, 30 + k), told[h][k]);
            }
        }
    }

    private static void ofIsBad() {
        BellGround x = new BellGround();
        x.land(32);
        x.bell(0, 0);
        x.hearing(0, 0, 0);
        int[][] wrong = {{6, 0}, {6, 1}, {-1, 0}, {-1, 1}, {0, 2}, {0, 9}, {1, 10}, {-1, 10}, {1, 14}, {0, 15}, {0, 19},
            {1, 20}, {-1, 24}, {1, 24}, {0, 25}, {0, 29}, {1, 30}, {-1, 30}, {1, 32}, {0, 33}, {0, -1}, {0, 130},
            {0, Integer.MAX_VALUE}, {0, Integer.MIN_VALUE}, {Integer.MAX_VALUE, 0}, {Integer.MIN_VALUE, 10}};
        for (int[] one : wrong) {
            due("of(" + one[0] + ", " + one[1] + ")", x.of(one[0], one[1]), BellGround.BAD);
        }
    }
}
