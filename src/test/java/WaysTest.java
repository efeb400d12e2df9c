/** Promises 13 to 19: ways, sure, chance, dig, next, told, liars, by laws that can be worked out by hand. */
final class WaysTest {
    private static final Check CHECK = new Check("WaysTest");

    private WaysTest() {
    }

    private static void due(String call, long got, long want) {
        CHECK.due(call, got, want);
    }

    public static void main(String[] args) {
        allWays();
        waysByNotes();
        waysByPlaces();
        waysInTheWidestLand();
        waysByTheGuess();
        waysAsAllIsNow();
        waysByEarAndMost();
        bellsThereAreNoneOfIt();
        everyHearingCounts();
        tenHearingsInTheWidestLand();
        noWays();
        someAreSure();
        chances();
        whereToDig();
        whichStrikeNext();
        theLastStrikeNext();
        nextWithoutOtherCalls();
        whatAHearingTells();
        whoLies();
        manyLie();
        allAreBad();
        CHECK.end();
    }

    /** Land of one row, a law by which what is heard is plain, and an ear for all of it. */
    private static BellGround ground(int columns, String law) {
        BellGround x = new BellGround();
        x.land(10 + columns);
        x.mend(0, 5, 0);
        due("law " + law, Check.tell(x, law), 1);
        return x;
    }

    private static void allWays() {
        BellGround x = new BellGround();
        due("of one in 25 cells", x.ways(1, -1), 250);
        due("of two in 25 cells", x.ways(2, -1), 300 * 100);
        due("the first of one", x.ways(1, 0), 0);
        due("the first of two", x.ways(2, 0), 0);
        due("the second bell", x.ways(2, 1), 10);
        x.land(12);
        due("of one in 2 cells", x.ways(1, -1), 20);
        due("of two in 2 cells", x.ways(2, -1), 100);
        x.land(11);
        due("of one in 1 cell", x.ways(1, -1), 10);
        due("of two in 1 cell", x.ways(2, -1), 0);
        due("the first of none", x.ways(2, 0), BellGround.NOT);
        due("its second", x.ways(2, 1), BellGround.NOT);
    }

    private static void waysByNotes() {
        BellGround x = ground(2, "q");
        x.hearing(300, 0, 2);
        due("notes 1, 5 in two cells", x.ways(1, -1), 4);
        due("the first", x.ways(1, 0), 1);
        due("3 and 1, 5; 1, 5 and 3; 2, 4 and 2, 4", x.ways(2, -1), 8);
        due("the first: 1", x.ways(2, 0), 1);
        due("and 3", x.ways(2, 1), 13);
        x.hearing(900, 0, 8);
        due("note 1 alone", x.ways(1, -1), 2);
        due("9 less both are 8: 18 less their sum", x.ways(2, -1), 0);
        x.forget();
        x.hearing(900, 1, 10);
        due("3 and 5, 4 and 4, 5 and 3", x.ways(2, -1), 3);
        due("the first: 3", x.ways(2, 0), 3);
        due("and 5", x.ways(2, 1), 15);
    }

    private static void waysByPlaces() {
        BellGround x = ground(3, "g*10");
        x.hearing(0, 0, 20);
        due("in cell 2", x.ways(1, -1), 10);
        due("the first", x.ways(1, 0), 20);
        due("in cells 0, 2", x.ways(2, -1), 100);
        due("the first", x.ways(2, 0), 0);
        due("its second", x.ways(2, 1), 20);
        BellGround y = ground(3, "d*10");
        y.hearing(2, 0, 10);
        due("one off the strike", y.ways(1, 0), 10);
        due("10 of them", y.ways(1, -1), 10);
        BellGround far = ground(3, "d*10");
        far.hearing(102, 0, 20);
        due("two off the strike", far.ways(1, 0), 0);
        far.hearing(502, 1, 10);
        due("not one off, too", far.ways(1, -1), 0);
        BellGround z = ground(3, "s*10");
        z.mend(1, 0, 4);
        z.hearing(0, 0, 40);
        due("by its soil", z.ways(1, 0), 10);
        due("10 of them", z.ways(1, -1), 10);
    }

    private static void waysInTheWidestLand() {
        BellGround x = ground(5, "d*9+(q=9)");
        x.land(55);
        x.hearing(24, 0, 73);
        x.hearing(924, 0, 72);
        x.hearing(4, 0, 37);
        due("note 9 in the first cell", x.ways(1, -1), 1);
        due("it is there", x.ways(1, 0), 9);
        x.forget();
        x.forget();
        x.forget();
        x.hearing(0, 0, 73);
        x.hearing(900, 0, 72);
        x.hearing(0, 0, 73);
        due("note 9 in the last cell", x.ways(1, -1), 1);
        due("the last of all", x.ways(1, 0), 249);
        due("nobody lies", x.liars(1), 0);
        due("dig there", x.dig(1), 24);
        // FARS that are 8 together: 1 + 4 + 9 + 16 + 10 pairs of cells; one of note 9, the other of 1 to 8
        due("of two", x.ways(2, -1), 40 * 16);
        due("note 1 in the first cell", x.ways(2, 0), 1);
        due("and note 9 in the last", x.ways(2, 1), 249);
    }

    private static void waysByTheGuess() {
        BellGround x = ground(2, "z*10");
        x.hearing(0, 0, 30);
        due("of depth 3", x.ways(1, -1), 20);
        due("two are too loud", x.ways(2, -1), 0);
        x.mend(0, 6, 9);
        due("of depth 9", x.ways(1, -1), 0);
        x.undo();
        due("of depth 3 again", x.ways(1, -1), 20);
        BellGround y = ground(2, "w*10+f");
        y.hearing(0, 0, 21);
        due("dry", y.ways(1, -1), 0);
        y.mend(0, 3, 2);
        y.mend(0, 4, 1);
        due("wet and cold", y.ways(1, -1), 20);
    }

    private static void waysAsAllIsNow() {
        BellGround x = ground(3, "s*10");
        x.hearing(0, 0, 40);
        due("all soils are 3", x.ways(1, -1), 0);
        x.mend(2, 0, 4);
        due("4 in cell 2, told behind the hearing", x.ways(1, 0), 20);
        due("ten notes", x.ways(1, -1), 10);
        x.mend(2, 0, 9);
        due("no longer", x.ways(1, -1), 0);
        x.undo();
        due("undone", x.ways(1, -1), 10);
        Check.tell(x, "s*10+(g=0)");
        due("by another law: 4 in cell 2", x.ways(1, 0), 20);
        Check.tell(x, "40+(g=0)");
        due("cells 1, 2 by a third", x.ways(1, -1), 20);
        x.mend(0, 5, 41);
        due("not by a worse ear", x.ways(1, -1), 0);
        BellGround y = ground(1, "s*10");
        y.hearing(0, 0, 40);
        y.mend(0, 3, 9);
        y.years(1, 1);
        due("the years made it 4", y.of(0, 0), 4);
        due("ten notes", y.ways(1, -1), 10);
    }

    private static void waysByEarAndMost() {
        BellGround x = ground(3, "g*10");
        x.mend(0, 5, 15);
        x.hearing(0, 0, 0);
        due("none is heard: cells 0, 1", x.ways(1, -1), 20);
        due("of two: cells 0 and 1", x.ways(2, -1), 100);
        x.mend(0, 5, 10);
        due("cell 0", x.ways(1, -1), 10);
        due("of two: none", x.ways(2, -1), 0);
        BellGround y = ground(2, "60");
        y.hearing(0, 0, 99);
        due("one is not so loud", y.ways(1, -1), 0);
        due("two are 99 together", y.ways(2, -1), 100);
    }

    private static void bellsThereAreNoneOfIt() {
        BellGround x = ground(3, "g*10");
        x.hearing(0, 0, 20);
        x.bell(0, 991);
        x.bell(2, 0);
        x.dug(2, 9);
        due("bells and digging are none of it", x.ways(1, -1), 10);
        due("of two", x.ways(2, -1), 100);
        due("all are true ones", x.ways(2, 1), 20);
    }

    private static void everyHearingCounts() {
        BellGround x = ground(2, "q");
        for (int h = 0; h < 10; h++) {
            x.hearing(100 * h, h % 2, Math.abs(h - 6));
            due("note 6 in two cells: so by all " + h, x.ways(1, -1), 2);
        }
        due("note 6", x.ways(1, 0), 6);
        x.forget();
        x.hearing(900, 0, 4);
        due("the tenth is not so", x.ways(1, -1), 0);
        due("it alone lies", x.liars(1), 512);
        due("without it", x.told(1, 9), 2);
        due("without another", x.told(1, 0), 0);
    }

    private static void tenHearingsInTheWidestLand() {
        BellGround x = ground(1, "d*9+q");
        x.land(55);
        x.bell(24, 930);
        for (int h = 0; h < 10; h++) {
            int nc = 100 * h + 2 * h;
            x.hearing(nc, 24 - h, x.heard(nc, 24 - h));
        }
        due("it alone", x.ways(1, -1), 1);
        due("note 9 in the last cell", x.ways(1, 0), 249);
        due("sure", x.sure(1, 0), 1 << 24);
        due("sure in none", x.sure(1, 1), (1 << 24) - 1);
        due("nobody lies", x.liars(1), 0);
        due("all are honest", x.judge(1), 1023);
        x.forget();
        x.hearing(0, 0, 99);
        due("the tenth lies", x.liars(1), 512);
        due("no way", x.ways(1, -1), 0);
        due("one without it", x.told(1, 9), 1);
    }

    private static void noWays() {
        BellGround x = ground(2, "q");
        x.hearing(0, 0, 99);
        due("how many", x.ways(1, -1), 0);
        due("the first", x.ways(1, 0), BellGround.NOT);
        due("of two", x.ways(2, 1), BellGround.NOT);
        due("sure in all", x.sure(1, 0), 0);
        due("sure in none", x.sure(1, 1), 0);
        due("chance", x.chance(1, 0, 0), 0);
        due("by 1", x.chance(1, 0, 1), 1);
        due("dig", x.dig(1), BellGround.NOT);
        due("next", x.next(0, 0), BellGround.NOT);
        due("its part", x.next(0, 1), BellGround.NOT);
    }

    private static void someAreSure() {
        BellGround x = ground(3, "g*10");
        due("nothing is sure", x.sure(1, 0), 0);
        due("nowhere none", x.sure(1, 1), 0);
        x.hearing(0, 0, 20);
        due("one: in cell 2", x.sure(1, 0), 4);
        due("one: not in 0, 1", x.sure(1, 1), 3);
        due("two: in 0, 2", x.sure(2, 0), 5);
        due("two: not in 1", x.sure(2, 1), 2);
        BellGround y = ground(3, "g=1?20;0");
        y.hearing(0, 1, 20);
        due("one: in 0 or 2", y.sure(1, 0), 0);
        due("one: not in 1", y.sure(1, 1), 2);
        due("two: in 1 and another", y.sure(2, 0), 2);
        due("two: may be anywhere", y.sure(2, 1), 0);
        BellGround all = new BellGround();
        Check.tell(all, "g*9");
        all.hearing(0, 0, 72);
        due("the last of 25 cells", all.sure(1, 0), 1 << 24);
        due("none of the others", all.sure(1, 1), (1 << 24) - 1);
    }

    private static void chances() {
        BellGround x = new BellGround();
        due("of 25", x.chance(1, 24, 0), 1);
        due("by 25", x.chance(1, 24, 1), 25);
        due("two of 25", x.chance(2, 24, 0), 2);
        due("by 25", x.chance(2, 24, 1), 25);
        BellGround y = ground(2, "g?q/2;q");
        y.hearing(0, 0, 2);
        due("note 2 in cell 0", y.chance(1, 0, 0), 1);
        due("by 3", y.chance(1, 0, 1), 3);
        due("notes 4, 5 in cell 1", y.chance(1, 1, 0), 2);
        due("by 3", y.chance(1, 1, 1), 3);
        due("both of two", y.chance(2, 1, 0), 1);
        due("by 1", y.chance(2, 1, 1), 1);
        BellGround z = ground(3, "g*10");
        z.hearing(0, 0, 20);
        due("none in cell 1", z.chance(1, 1, 0), 0);
        due("by 1", z.chance(1, 1, 1), 1);
        due("sure in cell 2", z.chance(1, 2, 0), 1);
        due("by 1", z.chance(1, 2, 1), 1);
    }

    private static void whereToDig() {
        BellGround x = ground(3, "9");
        due("of like ones the least", x.dig(1), 0);
        x.mend(2, 1, 9);
        due("the cheaper", x.dig(1), 2);
        x.mend(1, 1, 9);
        due("of like ones the least", x.dig(2), 1);
        x.mend(2, 1, 0);
        due("one for nothing", x.dig(2), 2);
        BellGround y = ground(2, "g?q/2;q");
        y.hearing(0, 0, 2);
        due("2 by 11 above 1 by 11", y.dig(1), 1);
        int[] costs = {19, 20, 21, 22, 99};
        int[] cells = {1, 1, 0, 0, 0};
        for (int k = 0; k < costs.length; k++) {
            y.mend(1, 1, costs[k]);
            due("1 by 11, 2 by 1 and " + costs[k], y.dig(1), cells[k]);
        }
    }

    private static void whichStrikeNext() {
        BellGround x = new BellGround();
        x.land(11);
        // 34 less 6 q, from 5 on: by note 3 two of each, by the lesser ones more are not heard
        due("the middle note", x.next(0, 0), 300);
        due("two together", x.next(0, 1), 2);
        BellGround y = ground(3, "d*10");
        due("from the end", y.next(1, 0), 0);
        due("ten notes each", y.next(1, 1), 10);
        BellGround z = ground(3, "(q=d)*9+q*(d=2)");
        z.hearing(0, 1, 9);
        // note 0 in cell 0, note 1 in cell 1, note 9 in cell 2 (note 2 there is 11)
        due("ways", z.ways(1, -1), 3);
        due("parts them", z.next(0, 1), 1);
        // notes 0, 1 leave two of them together from each cell; note 2 at cell 0: 0, 9, 7
        due("the first that does", z.next(0, 0), 200);
        BellGround w = ground(2, "g*40+q");
        due("all are parted where one lies at cell 0", w.next(0, 1), 1);
        due("by the first", w.next(0, 0), 0);
        w.mend(0, 5, 99);
        due("nothing is heard", w.next(0, 1), 20);
        due("of like ones the first", w.next(0, 0), 0);
        BellGround u = ground(2, "0");
        u.land(55);
        due("all are alike", u.next(24, 1), 250);
        due("of like ones the first", u.next(24, 0), 0);
        Check.tell(u, "99");
        due("as loud as can be", u.next(0, 1), 250);
        Check.tell(u, "d*9+q");
        due("from the corner: far ones overlap", u.next(12, 0), 0);
        due("0 to 8 off it: 5 cells 4 off, 4 cells 3 and 5 off: q 0 of 5, or 9 of 4", u.next(12, 1), 9);
        u.hearing(24, 0, 72);
        due("q 0 in cell 0, or 9 near it", u.ways(1, -1), 3);
        due("at once after a hearing", u.next(0, 1), 1);
        BellGround t = ground(5, "(d=2)*30");
        due("from the middle: 2 cells and 3", t.next(0, 1), 30);
        due("cell 2", t.next(0, 0), 2);
        BellGround v = ground(2, "q=1|d=0?7;0");
        v.hearing(101, 0, 7);
        due("note 0, 2 in cell 0, all in cell 1", v.ways(1, -1), 12);
        // note 0 at cell 0: 7 for two and for note 1 in cell 1: 3, 9; at cell 1: 10, 2; note 1 at cell 0: 4, 8
        due("parted best", v.next(1, 1), 8);
        due("by the first", v.next(1, 0), 100);
    }

    private static void theLastStrikeNext() {
        BellGround x = ground(2, "g=1?d=1&q<2;(d=1&q=9)*50");
        x.hearing(1, 1, 1);
        due("notes 0, 1 in cell 0", x.ways(1, -1), 2);
        // where one lies at cell 0, only note 0 hums, and by note 9 struck at cell 1 alone
        due("the last of all strikes", x.next(0, 0), 901);
        due("parts them", x.next(0, 1), 1);
        BellGround y = ground(2, "g=1?d=0&q<2;(d=1&q=9)*50");
        y.hearing(0, 1, 1);
        due("in cell 0, from cell 1", y.next(0, 0), 901);
        due("where one lies at cell 1, by notes 1 and 2", y.next(1, 0), 200);
    }

    private static void nextWithoutOtherCalls() {
        BellGround x = ground(2, "q+g*20");
        x.hearing(0, 0, 20);
        due("note 0 in cell 1: how great", x.next(0, 1), 1);
        x.hearing(0, 0, 0);
        due("no ways", x.next(0, 1), BellGround.NOT);
        x.forget();
        x.forget();
        x.hearing(0, 1, 29);
        x.hearing(0, 1, 29);
        due("note 9 in cell 0", x.next(1, 1), 1);
        x.mend(0, 5, 30);
        due("no ways by a worse ear", x.next(1, 0), BellGround.NOT);
        Check.tell(x, "29+(q=0)");
        due("nor by another law", x.next(1, 0), BellGround.NOT);
        x.mend(0, 5, 29);
        // notes 1 to 9 in both cells: by note 0 they are 29 each, by note 1 those of note 1 are 30
        due("all but two of 18", x.next(1, 1), 16);
        due("by note 1", x.next(1, 0), 100);
    }

    private static void whatAHearingTells() {
        BellGround x = ground(2, "q");
        x.hearing(0, 0, 2);
        due("20 without, 2 with it", x.told(1, 0), 18);
        due("100 without, 3 with it", x.told(2, 0), 97);
        x.hearing(0, 0, 3);
        due("2 without the first", x.told(1, 0), 2);
        due("2 without the second", x.told(1, 1), 2);
        due("4 of two without the first", x.told(2, 0), 4);
        due("3 of two without the second", x.told(2, 1), 3);
        due("ways are as before", x.ways(1, -1), 0);
    }

    private static void whoLies() {
        BellGround x = ground(2, "q");
        due("none is told", x.liars(1), 0);
        x.hearing(0, 0, 2);
        due("one is so", x.liars(1), 0);
        x.hearing(0, 0, 3);
        due("of two the least bits", x.liars(1), 1);
        x.hearing(0, 0, 2);
        due("the one that is against two", x.liars(1), 2);
        due("for two bells, too", x.liars(2), 2);
        x.hearing(0, 1, 99);
        due("and one that can't be", x.liars(1), 10);
        BellGround w = ground(2, "q");
        w.hearing(0, 0, 3);
        w.hearing(0, 0, 2);
        due("of two the least bits, though note 2 comes ahead", w.liars(1), 1);
        BellGround v = ground(2, "g*10+q");
        v.hearing(0, 0, 0);
        due("the very first set is so", v.liars(1), 0);
        v.forget();
        v.hearing(0, 0, 19);
        due("the very last set is so", v.liars(1), 0);
        v.hearing(0, 1, 9);
        v.hearing(0, 1, 28);
        due("of two: notes 9 and 9 are so but for one", v.liars(2), 3);
        BellGround y = new BellGround();
        y.land(11);
        y.hearing(0, 0, 99);
        due("no two in one cell", y.liars(2), BellGround.NOT);
        due("one is there", y.liars(1), 1);
    }

    private static void manyLie() {
        BellGround x = ground(2, "q");
        for (int h = 0; h < 10; h++) {
            x.hearing(0, 0, 99);
            due("all of " + (h + 1) + " by one", x.liars(1), (2 << h) - 1);
            due("all of " + (h + 1) + " by two", x.liars(2), (2 << h) - 1);
        }
        BellGround y = ground(2, "q");
        int[] heard = {9, 1, 2, 3, 4, 5, 6, 7, 8, 9};
        for (int v : heard) {
            y.hearing(0, 0, v);
        }
        due("all but the two of note 9", y.liars(1), 1022 - 512);
        due("two of notes that are 9 together: the same", y.liars(2), 1022 - 512);
        y.forget();
        due("one may be so: the least bits without the ninth", y.liars(1), 511 - 256);
    }

    private static void allAreBad() {
        BellGround x = new BellGround();
        x.land(12);
        x.hearing(0, 0, 99);
        int[] sizes = {0, 3, -1, Integer.MIN_VALUE, Integer.MAX_VALUE};
        for (int n : sizes) {
            due("ways(" + n + ", -1)", x.ways(n, -1), BellGround.BAD);
            due("sure(" + n + ", 0)", x.sure(n, 0), BellGround.BAD);
            due("chance(" + n + ", 0, 0)", x.chance(n, 0, 0), BellGround.BAD);
            due("dig(" + n + ")", x.dig(n), BellGround.BAD);
            due("told(" + n + ", 0)", x.told(n, 0), BellGround.BAD);
            due("liars(" + n + ")", x.liars(n), BellGround.BAD);
        }
        int[] wrong = {-2, 2, 3, Integer.MIN_VALUE, Integer.MAX_VALUE};
        for (int k : wrong) {
            due("ways(1, " + k + ")", x.ways(1, k), BellGround.BAD);
            due("ways(2, " + k + ")", x.ways(2, k), BellGround.BAD);
            due("sure(1, " + k + ")", x.sure(1, k), BellGround.BAD);
            due("chance(1, " + k + ", 0)", x.chance(1, k, 0), BellGround.BAD);
            due("chance(1, 0, " + k + ")", x.chance(1, 0, k), BellGround.BAD);
            due("next(0, " + k + ")", x.next(0, k), BellGround.BAD);
            due("next(" + k + ", 0)", x.next(k, 0), BellGround.BAD);
            due("told(1, " + k + ")", x.told(1, k), BellGround.BAD);
        }
        due("ways(1, 1)", x.ways(1, 1), BellGround.BAD);
        due("sure(1, -1)", x.sure(1, -1), BellGround.BAD);
        due("next(0, -1)", x.next(0, -1), BellGround.BAD);
        due("told(1, 1)", x.told(1, 1), BellGround.BAD);
        x.land(11);
        due("liars(3) in one cell", x.liars(3), BellGround.BAD);
    }
}
