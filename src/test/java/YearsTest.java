/** Promises 26 to 32: years, dug, judge, image, back, undo, redo. */
final class YearsTest {
    private static final Check CHECK = new Check("YearsTest");

    private YearsTest() {
    }

    private static void due(String call, long got, long want) {
        CHECK.due(call, got, want);
    }

    public static void main(String[] args) {
        yearsGoBy();
        lotsOfYears();
        yearsAreNoChanges();
        yearsAreBad();
        cellsAreDug();
        dugIsBad();
        hearingsAreJudged();
        judgeIsBad();
        anImageIsLaidBack();
        imagesOfManyBells();
        imagesAreReplaced();
        noImage();
        changesAreUndone();
        changesOfAllKinds();
        anotherChangeComes();
        theSameIsNone();
        fortyAreKept();
        CHECK.end();
    }

    /** Land of 2 by 2 with bells of these depths in its first cells, and these soils. */
    private static BellGround ground(int wet, int[] depths, int[] soils) {
        BellGround x = new BellGround();
        x.land(22);
        x.mend(0, 3, wet);
        for (int b = 0; b < depths.length; b++) {
            x.bell(b, 10 * depths[b] + b % 2);
        }
        for (int c = 0; c < 4; c++) {
            x.mend(c, 0, soils[c]);
        }
        return x;
    }

    private static void go(int seed, int n, int[] wetAndDepths, int[] soils, int[] depthsThen, int[] soilsThen) {
        int[] depths = new int[wetAndDepths.length - 1];
        System.arraycopy(wetAndDepths, 1, depths, 0, depths.length);
        BellGround x = ground(wetAndDepths[0], depths, soils);
        int sum = 0;
        for (int depth : depthsThen) {
            sum += depth;
        }
        due("years(" + seed + ", " + n + ")", x.years(seed, n), sum);
        for (int b = 0; b < depths.length; b++) {
            due("depth of " + b, x.of(b, 12), depthsThen[b]);
        }
        for (int c = 0; c < 4; c++) {
            due("soil of " + c, x.of(c, 0), soilsThen[c]);
        }
    }

    private static void yearsGoBy() {
        // worked out by another program
        int[] threes = {3, 3, 3, 3};
        int[] noughts = {0, 0, 0, 0};
        go(5, 1, new int[] {6, 3, 2, 9}, threes, new int[] {3, 2, 9}, new int[] {4, 4, 4, 3});
        go(-7, 2, new int[] {4, 0, 9, 5}, threes, new int[] {2, 9, 5}, new int[] {3, 3, 3, 4});
        go(12345, 3, new int[] {3, 0, 9, 5}, new int[] {8, 3, 3, 0}, new int[] {0, 9, 4}, new int[] {8, 3, 3, 0});
        go(1, 30, new int[] {0, 9, 9, 9}, threes, new int[] {3, 3, 5}, threes);
        go(1, 30, new int[] {9, 0, 0, 0}, noughts, new int[] {9, 9, 9}, new int[] {9, 9, 9, 9});
        go(Integer.MAX_VALUE, 30, new int[] {1, 5, 5, 5}, noughts, new int[] {7, 6, 2}, new int[] {2, 2, 8, 5});
        go(Integer.MIN_VALUE, 7, new int[] {2, 5, 5, 5}, noughts, new int[] {6, 7, 4}, new int[] {1, 0, 1, 0});
        go(1, 30, new int[] {0, 0, 0, 0}, threes, new int[] {0, 0, 0}, threes);
        go(0, 1, new int[] {9}, threes, new int[0], new int[] {4, 4, 4, 4});
        go(99, 30, new int[] {0}, threes, new int[0], threes);
        BellGround x = ground(0, new int[] {9, 9, 9}, threes);
        x.dug(0, 9);
        due("a found bell, too", x.years(1, 30), 11);
        due("its depth", x.of(0, 12), 3);
        BellGround y = new BellGround();
        for (int b = 0; b < 6; b++) {
            y.bell(b, 10 * b);
        }
        y.mend(0, 3, 9);
        due("six bells go down", y.years(3, 30), 54);
    }

    /** One cell, one bell: each lot of 0 to 11 by each WET, at the edges of DEPTH and SOIL and within them. */
    private static void lotsOfYears() {
        int[] edges = {0, 1, 8, 9};
        for (int seed = 0; seed < 60; seed++) {
            int z = seed * 1103515245 + 12345;
            int lot = (z >>> 8) % 12;
            int soilLot = (z * 1103515245 + 12345 >>> 8) % 12;
            for (int wet = 0; wet < 10; wet++) {
                int depth = edges[(seed + wet) % 4];
                int soil = edges[(seed + wet / 4) % 4];
                int depthThen = lot < wet ? Math.min(depth + 1, 9) : lot == 11 ? Math.max(depth - 1, 0) : depth;
                int soilThen = soilLot < wet ? Math.min(soil + 1, 9) : soil;
                BellGround x = new BellGround();
                x.land(11);
                x.bell(0, 10 * depth);
                x.mend(0, 0, soil);
                x.mend(0, 3, wet);
                String told = "lots " + lot + ", " + soilLot + ", WET " + wet;
                due(told + ": years", x.years(seed, 1), depthThen);
                due(told + ": depth " + depth, x.of(0, 12), depthThen);
                due(told + ": soil " + soil, x.of(0, 0), soilThen);
            }
        }
    }

    private static void yearsAreNoChanges() {
        BellGround x = ground(9, new int[] {0}, new int[] {3, 3, 3, 4});
        due("changes", x.count(5), 2);
        x.years(1, 30);
        due("changes then", x.count(5), 2);
        due("soil", x.of(3, 0), 9);
        x.undo();
        due("what was before the change", x.of(3, 0), 3);
        x.redo();
        due("what was told", x.of(3, 0), 4);
        due("another soil stays", x.of(2, 0), 9);
    }

    private static void yearsAreBad() {
        BellGround x = ground(9, new int[] {0}, new int[] {3, 3, 3, 3});
        int[] wrong = {0, -1, 31, Integer.MIN_VALUE, Integer.MAX_VALUE};
        for (int n : wrong) {
            due("years(1, " + n + ")", x.years(1, n), BellGround.BAD);
        }
        due("the depth stays", x.of(0, 12), 0);
        due("the soil stays", x.of(0, 0), 3);
    }

    private static void cellsAreDug() {
        BellGround x = new BellGround();
        x.bell(7, 940);
        x.bell(8, 101);
        x.mend(7, 1, 0);
        x.mend(8, 1, 99);
        due("not deep enough", x.dug(7, 3), BellGround.NOT);
        due("for nothing", x.of(0, 24), 0);
        due("deep enough", x.dug(7, 4), 0);
        due("it is found", x.of(0, 14), 1);
        due("found already", x.dug(7, 9), BellGround.NOT);
        due("no bell there", x.dug(6, 9), BellGround.NOT);
        due("paid for that, too", x.of(0, 24), 10);
        due("a false one", x.dug(8, 0), 1);
        due("paid", x.of(0, 24), 109);
        due("found ones", x.count(3), 2);
        x.mend(0, 2, 9);
        due("deeper, and found as it was", x.of(0, 14), 1);
    }

    private static void dugIsBad() {
        BellGround x = new BellGround();
        x.land(23);
        x.bell(0, 0);
        int[] cells = {-1, 6, 24, Integer.MIN_VALUE, Integer.MAX_VALUE};
        for (int cell : cells) {
            due("dug(" + cell + ", 0)", x.dug(cell, 0), BellGround.BAD);
        }
        int[] wrong = {-1, 10, Integer.MIN_VALUE, Integer.MAX_VALUE};
        for (int deep : wrong) {
            due("dug(0, " + deep + ")", x.dug(0, deep), BellGround.BAD);
        }
        due("nothing is paid", x.of(0, 24), 0);
        due("nothing is found", x.count(3), 0);
    }

    private static void hearingsAreJudged() {
        BellGround x = new BellGround();
        x.bell(0, 0);
        x.bell(1, 101);
        Check.tell(x, "20");
        due("none is told", x.judge(0), BellGround.NOT);
        due("none is honest", x.judge(1), 0);
        x.hearing(0, 0, 30);
        x.hearing(924, 24, 30);
        due("all are so", x.judge(0), BellGround.NOT);
        due("both", x.judge(1), 3);
        x.hearing(0, 0, 10);
        x.hearing(0, 0, 30);
        x.hearing(0, 0, 20);
        due("the first that is not so", x.judge(0), 2);
        due("honest ones", x.judge(1), 11);
        x.dug(0, 9);
        due("by the false one alone: 10", x.judge(0), 0);
        due("honest then", x.judge(1), 4);
        x.dug(1, 9);
        due("by none", x.judge(1), 0);
        x.hearing(0, 0, 0);
        due("nothing is heard", x.judge(1), 32);
        BellGround y = new BellGround();
        for (int h = 0; h < 10; h++) {
            y.hearing(0, 0, 0);
        }
        due("ten honest ones", y.judge(1), 1023);
        due("none that is not so", y.judge(0), BellGround.NOT);
    }

    private static void judgeIsBad() {
        BellGround x = new BellGround();
        int[] wrong = {-1, 2, Integer.MIN_VALUE, Integer.MAX_VALUE};
        for (int what : wrong) {
            due("judge(" + what + ")", x.judge(what), BellGround.BAD);
        }
    }

    private static void anImageIsLaidBack() {
        BellGround x = new BellGround();
        x.bell(0, 0);
        x.bell(1, 0);
        x.hearing(101, 1, 11);
        x.hearing(202, 2, 22);
        x.dug(0, 9);
        due("image", x.image(), 2);
        x.forget();
        x.forget();
        x.hearing(303, 3, 33);
        x.hearing(404, 4, 44);
        x.hearing(505, 5, 55);
        x.dug(1, 9);
        x.bell(2, 0);
        x.dug(2, 9);
        x.mend(0, 2, 7);
        x.mend(0, 5, 50);
        due("three found", x.count(3), 3);
        due("back", x.back(), 2);
        int[] told = {101, 1, 11, 202, 2, 22};
        for (int k = 0; k < 6; k++) {
            due("hearing", x.of(k / 3, 30 + k % 3), told[k]);
        }
        due("two hearings", x.count(2), 2);
        due("found then: 0", x.of(0, 14), 1);
        due("not found then: 1", x.of(1, 14), 0);
        due("come since: 2", x.of(2, 14), 0);
        due("PAID then", x.of(0, 24), 10);
        due("three bells", x.count(0), 3);
        due("the depth is as mended", x.of(0, 12), 7);
        due("the ear, too", x.of(0, 22), 50);
        due("two changes", x.count(5), 2);
        x.forget();
        x.dug(1, 9);
        due("back once more", x.back(), 2);
        due("the hearing again", x.of(1, 32), 22);
        due("not found again", x.of(1, 14), 0);
        due("PAID again", x.of(0, 24), 10);
    }

    private static void imagesOfManyBells() {
        BellGround x = new BellGround();
        x.image();
        for (int b = 0; b < 6; b++) {
            x.bell(b, 0);
            x.dug(b, 0);
        }
        due("six found", x.count(3), 6);
        due("back to none", x.back(), 0);
        due("none found", x.count(3), 0);
        due("nothing paid", x.of(0, 24), 0);
        due("found again", x.dug(5, 0), 5);
    }

    private static void imagesAreReplaced() {
        BellGround x = new BellGround();
        x.hearing(1, 1, 1);
        x.image();
        for (int h = 1; h < 10; h++) {
            x.hearing(h, h, h);
        }
        due("a later image", x.image(), 10);
        x.forget();
        due("back to the later one", x.back(), 10);
        due("its last", x.of(9, 32), 9);
    }

    private static void noImage() {
        BellGround x = new BellGround();
        due("none is kept", x.back(), BellGround.STATE);
        x.image();
        x.land(0);
        due("a land refused is not told", x.back(), 0);
        x.land(55);
        due("the land was told since", x.back(), BellGround.STATE);
        due("it stays so", x.back(), BellGround.STATE);
        x.image();
        due("an image of this land", x.back(), 0);
        x.bell(0, 0);
        x.land(55);
        due("a land in the wrong state is not told", x.back(), 0);
    }

    private static void changesAreUndone() {
        BellGround x = new BellGround();
        due("undo nothing", x.undo(), BellGround.STATE);
        due("redo nothing", x.redo(), BellGround.STATE);
        x.mend(4, 0, 5);
        x.mend(4, 0, 6);
        x.mend(0, 5, 7);
        due("three changes", x.count(5), 3);
        due("undo the ear", x.undo(), 2);
        due("the ear", x.of(0, 22), 5);
        due("undo the latest soil", x.undo(), 1);
        due("the soil told first", x.of(4, 0), 5);
        due("undo the first", x.undo(), 0);
        due("the soil at first", x.of(4, 0), 3);
        due("undo none", x.undo(), BellGround.STATE);
        due("redo the first", x.redo(), 2);
        due("the soil", x.of(4, 0), 5);
        due("one may be undone", x.count(5), 1);
        due("redo the second", x.redo(), 1);
        due("the soil", x.of(4, 0), 6);
        due("the ear is as at first", x.of(0, 22), 5);
        due("redo the third", x.redo(), 0);
        due("the ear", x.of(0, 22), 7);
        due("redo none", x.redo(), BellGround.STATE);
        due("undo the third again", x.undo(), 2);
    }

    private static void changesOfAllKinds() {
        BellGround x = new BellGround();
        x.bell(0, 20);
        x.bell(1, 20);
        int[] numbers = {9, 9, 1, 0, 0, 0, 0};
        int[] first = {3, 10, 2, 0, 0, 5, 3};
        int[] told = {0, 1, 12, 20, 21, 22, 23};
        for (int what = 0; what < 7; what++) {
            due("mend " + what, x.mend(numbers[what], what, 1), first[what]);
        }
        for (int what = 6; what >= 0; what--) {
            due("undo " + what, x.undo(), what);
            for (int k = 0; k < 7; k++) {
                due("it is " + k, x.of(numbers[k], told[k]), k < what ? 1 : first[k]);
            }
        }
        for (int what = 0; what < 7; what++) {
            due("redo " + what, x.redo(), 6 - what);
            due("it is " + what, x.of(numbers[what], told[what]), 1);
        }
        due("the other bell", x.of(0, 12), 2);
    }

    private static void anotherChangeComes() {
        BellGround x = new BellGround();
        x.mend(0, 3, 1);
        x.mend(0, 3, 2);
        x.undo();
        due("a change refused", x.mend(0, 3, 10), BellGround.BAD);
        due("no change", x.mend(0, 3, 1), 1);
        due("done again", x.redo(), 0);
        due("WET", x.of(0, 20), 2);
        x.undo();
        x.mend(0, 4, 1);
        due("another came behind", x.redo(), BellGround.STATE);
        due("WET stays", x.of(0, 20), 1);
        due("two changes", x.count(5), 2);
        x.undo();
        x.undo();
        due("WET at first", x.of(0, 20), 0);
        due("none left", x.undo(), BellGround.STATE);
    }

    private static void theSameIsNone() {
        BellGround x = new BellGround();
        x.bell(0, 30);
        int[] same = {3, 10, 3, 0, 0, 5, 3};
        for (int what = 0; what < 7; what++) {
            due("the same " + what, x.mend(0, what, same[what]), same[what]);
        }
        due("no changes", x.count(5), 0);
        due("undo none", x.undo(), BellGround.STATE);
        due("mend to another", x.mend(0, 5, 9), 5);
        due("and to the same", x.mend(0, 5, 9), 9);
        due("one change", x.count(5), 1);
    }

    private static void oldOnesAreDropped() {
        BellGround x = new BellGround();
        x.mend(0, 5, 6);
        for (int cell = 0; cell < 21; cell++) {
            x.mend(cell, 0, 9);
            x.mend(cell, 1, 50 + cell);
        }
        due("forty of 43", x.count(5), 40);
        for (int cell = 20; cell > 0; cell--) {
            x.undo();
            due("cost of " + cell, x.of(cell, 1), 10);
            due("soil of " + cell + " stays yet", x.of(cell, 0), 9);
            x.undo();
            due("soil of " + cell, x.of(cell, 0), 3);
        }
        due("the first three stay", x.undo(), BellGround.STATE);
        due("the ear", x.of(0, 22), 6);
        due("cost of 0", x.of(0, 1), 50);
        due("soil of 0", x.of(0, 0), 9);
        for (int cell = 1; cell < 21; cell++) {
            x.redo();
            due("soil of " + cell, x.of(cell, 0), 9);
            x.redo();
            due("cost of " + cell, x.of(cell, 1), 50 + cell);
        }
    }

    private static void fortyAreKept() {
        BellGround x = new BellGround();
        for (int k = 0; k < 43; k++) {
            x.mend(0, 5, 10 + k);
            due("changes", x.count(5), Math.min(k + 1, 40));
        }
        for (int k = 42; k > 2; k--) {
            due("undo", x.undo(), k - 3);
            due("the ear", x.of(0, 22), 9 + k);
        }
        due("the first three stay", x.undo(), BellGround.STATE);
        due("the ear by the third", x.of(0, 22), 12);
        for (int k = 3; k < 43; k++) {
            due("redo", x.redo(), 42 - k);
            due("the ear", x.of(0, 22), 10 + k);
        }
        due("redo none", x.redo(), BellGround.STATE);
        oldOnesAreDropped();
        x.undo();
        x.mend(24, 1, 50);
        due("another one", x.count(5), 40);
        due("undo it", x.undo(), 39);
        due("the cost", x.of(24, 1), 10);
    }
}
