/** Promises 9 to 12: hum, heard, hearing, forget. */
final class HumTest {
    private static final Check CHECK = new Check("HumTest");

    private HumTest() {
    }

    private static void due(String call, long got, long want) {
        CHECK.due(call, got, want);
    }

    public static void main(String[] args) {
        oneHums();
        eachNumberIsHeard();
        cellsLieRowByRow();
        foundOnesHum();
        humIsBad();
        allAreHeard();
        ninetyNineAtMost();
        theEar();
        heardIsBad();
        hearingsCome();
        hearingsAreBad();
        hearingsAreForgotten();
        CHECK.end();
    }

    private static void oneHums() {
        BellGround x = new BellGround();
        x.bell(12, 500);
        x.bell(6, 201);
        x.mend(12, 0, 0);
        x.mend(6, 0, 0);
        due("on the spot", x.hum(0, 512, 12), 40);
        due("one off the strike", x.hum(0, 511, 12), 38);
        due("one off the ear", x.hum(0, 512, 17), 37);
        due("four off both", x.hum(0, 500, 24), 20);
        due("a note above", x.hum(0, 612, 12), 34);
        due("two notes below", x.hum(0, 312, 12), 28);
        due("five notes below", x.hum(0, 12, 12), 10);
        due("a false one on the spot", x.hum(1, 206, 6), 20);
        due("a false one: half of 37", x.hum(1, 206, 1), 18);
        due("never below 0", x.hum(1, 924, 24), 0);
    }

    private static void eachNumberIsHeard() {
        BellGround x = new BellGround();
        x.land(23);
        x.bell(5, 430);
        due("depth and soil: 40 - 3 - 3", x.hum(0, 405, 5), 34);
        x.mend(0, 2, 9);
        due("deeper", x.hum(0, 405, 5), 28);
        x.mend(5, 0, 8);
        due("in richer soil", x.hum(0, 405, 5), 23);
        x.mend(4, 0, 0);
        due("another cell's soil is none of it", x.hum(0, 405, 5), 23);
        x.mend(0, 3, 6);
        due("wet", x.hum(0, 405, 5), 17);
        x.mend(0, 4, 1);
        due("frost", x.hum(0, 405, 5), 22);
        due("rows and columns together", x.hum(0, 400, 0), 22 - 3 * 5);
    }

    private static void cellsLieRowByRow() {
        BellGround x = new BellGround();
        x.land(23);
        x.bell(2, 0);
        Check.tell(x, "d*10+g");
        // 0 1 2
        // 3 4 5
        int[] far = {2, 1, 0, 3, 2, 1};
        for (int cell = 0; cell < 6; cell++) {
            due("struck at " + cell, x.hum(0, cell, 2), 10 * far[cell]);
            due("heard at " + cell, x.hum(0, 2, cell), far[cell]);
        }
        BellGround y = new BellGround();
        y.land(42);
        y.bell(7, 0);
        Check.tell(y, "d");
        // 0 1, 2 3, 4 5, 6 7
        int[] off = {4, 3, 3, 2, 2, 1, 1, 0};
        for (int cell = 0; cell < 8; cell++) {
            due("of four rows: " + cell, y.hum(0, cell, 0), off[cell]);
        }
        BellGround z = new BellGround();
        z.bell(0, 0);
        Check.tell(z, "d*10+g");
        due("the farthest of all", z.hum(0, 24, 24), 88);
    }

    private static void foundOnesHum() {
        BellGround x = new BellGround();
        x.bell(0, 0);
        due("heard", x.heard(0, 0), 37);
        x.dug(0, 0);
        due("a found one hums alone", x.hum(0, 0, 0), 37);
        due("and is not heard", x.heard(0, 0), 0);
    }

    private static final int[] WRONG_STRIKES = {-1, -100, 1000, 1001, 6, 99, 106, 906, 1005, Integer.MIN_VALUE,
        Integer.MAX_VALUE};
    private static final int[] WRONG_CELLS = {-1, 6, 25, Integer.MIN_VALUE, Integer.MAX_VALUE};

    private static void humIsBad() {
        BellGround x = new BellGround();
        x.land(23);
        x.bell(0, 0);
        for (int nc : WRONG_STRIKES) {
            due("hum(0, " + nc + ", 0)", x.hum(0, nc, 0), BellGround.BAD);
        }
        for (int cell : WRONG_CELLS) {
            due("hum(0, 0, " + cell + ")", x.hum(0, 0, cell), BellGround.BAD);
        }
        int[] bells = {-1, 1, 6, Integer.MIN_VALUE, Integer.MAX_VALUE};
        for (int bell : bells) {
            due("hum(" + bell + ", 0, 0)", x.hum(bell, 0, 0), BellGround.BAD);
        }
        due("hum(0, 905, 5): 40 - 6 - 9 - 54 - 3", x.hum(0, 905, 5), 0);
    }

    private static void allAreHeard() {
        BellGround x = new BellGround();
        x.bell(0, 0);
        x.bell(1, 101);
        x.bell(5, 200);
        // 37 - 0; (40 - 2 - 3 - 6 - 3) / 2; 40 - 2 - 3 - 12 - 3
        due("three together", x.heard(0, 0), 37 + 13 + 20);
        x.dug(1, 9);
        due("two together", x.heard(0, 0), 37 + 20);
        Check.tell(x, "60");
        due("at most 99", x.heard(0, 0), 99);
        Check.tell(x, "49");
        due("98 of two", x.heard(0, 0), 98);
        due("without bells", new BellGround().heard(0, 0), 0);
    }

    private static void ninetyNineAtMost() {
        int[] each = {16, 17, 49, 99};
        int[] heard = {96, 99, 99, 99};
        for (int k = 0; k < each.length; k++) {
            BellGround x = new BellGround();
            Check.tell(x, String.valueOf(each[k]));
            for (int b = 0; b < 6; b++) {
                x.bell(b, 0);
            }
            due("six of " + each[k], x.heard(0, 0), heard[k]);
        }
        BellGround x = new BellGround();
        for (int b = 0; b < 3; b++) {
            x.bell(b, 0);
        }
        Check.tell(x, "33");
        due("three of 33: 99 in all", x.heard(0, 0), 99);
        Check.tell(x, "33+(d=0)");
        due("100 in all", x.heard(0, 0), 99);
        x.mend(0, 5, 99);
        due("what is more than 99 by the worst ear", x.heard(0, 0), 99);
        Check.tell(x, "33-(d=0)");
        due("98 in all by the worst ear", x.heard(0, 0), 0);
    }

    private static void theEar() {
        BellGround x = new BellGround();
        x.bell(0, 0);
        x.bell(1, 1);
        Check.tell(x, "g*9");
        due("at 1: 9 and 0", x.heard(0, 1), 9);
        due("at 0: half of 9", x.heard(0, 0), 0);
        x.mend(0, 5, 4);
        due("at 0 by a better ear", x.heard(0, 0), 4);
        x.mend(0, 5, 9);
        due("no less than the ear", x.heard(0, 1), 9);
        x.mend(0, 5, 10);
        due("less than the ear", x.heard(0, 1), 0);
        Check.tell(x, "99");
        x.mend(0, 5, 99);
        due("99 by the worst ear", x.heard(0, 1), 99);
    }

    private static void heardIsBad() {
        BellGround x = new BellGround();
        x.land(32);
        for (int nc : WRONG_STRIKES) {
            due("heard(" + nc + ", 0)", x.heard(nc, 0), BellGround.BAD);
            due("hearing(" + nc + ", 0, 0)", x.hearing(nc, 0, 0), BellGround.BAD);
        }
        for (int cell : WRONG_CELLS) {
            due("heard(0, " + cell + ")", x.heard(0, cell), BellGround.BAD);
            due("hearing(0, " + cell + ", 0)", x.hearing(0, cell, 0), BellGround.BAD);
        }
        due("heard(905, 5)", x.heard(905, 5), 0);
        due("no hearing came", x.count(2), 0);
    }

    private static void hearingsCome() {
        BellGround x = new BellGround();
        for (int h = 0; h < 10; h++) {
            due("hearing " + h, x.hearing(100 * h + h, 24 - h, 99 - h), h);
            due("count(2)", x.count(2), h + 1);
        }
        due("an eleventh", x.hearing(0, 0, 0), BellGround.FULL);
        due("an eleventh that is not so", x.hearing(0, 0, 100), BellGround.BAD);
        due("ten stay", x.count(2), 10);
        for (int h = 0; h < 10; h++) {
            due("its strike", x.of(h, 30), 101 * h);
            due("its cell", x.of(h, 31), 24 - h);
            due("what was heard", x.of(h, 32), 99 - h);
        }
    }

    private static void hearingsAreBad() {
        BellGround x = new BellGround();
        int[] wrong = {-1, 100, Integer.MIN_VALUE, Integer.MAX_VALUE};
        for (int v : wrong) {
            due("hearing(0, 0, " + v + ")", x.hearing(0, 0, v), BellGround.BAD);
        }
        due("hearing(924, 24, 99)", x.hearing(924, 24, 99), 0);
        due("hearing(924, 24, 0)", x.hearing(924, 24, 0), 1);
    }

    private static void hearingsAreForgotten() {
        BellGround x = new BellGround();
        due("forget nothing", x.forget(), BellGround.STATE);
        x.hearing(1, 2, 3);
        x.hearing(4, 5, 6);
        due("forget the latest", x.forget(), 1);
        due("the first stays", x.of(0, 30), 1);
        due("the second is none", x.of(1, 30), BellGround.BAD);
        due("another comes", x.hearing(7, 8, 9), 1);
        due("it is heard there", x.of(1, 31), 8);
        due("forget it", x.forget(), 1);
        due("forget the first", x.forget(), 0);
        due("forget none", x.forget(), BellGround.STATE);
    }
}
