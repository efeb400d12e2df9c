/** Promises 20 to 25: shows, chain, strikes, source, tune, whose. */
final class LinksTest {
    private static final Check CHECK = new Check("LinksTest");

    private LinksTest() {
    }

    private static void due(String call, long got, long want) {
        CHECK.due(call, got, want);
    }

    public static void main(String[] args) {
        oneShowsAnother();
        byEarAndKind();
        silentBells();
        eachOfSixShows();
        showsIsBad();
        chains();
        fewestStrikes();
        theFirstRow();
        sixInARow();
        setsAreBad();
        sources();
        tunes();
        whoseItIs();
        whoseOfLikeOnes();
        whoseIsBad();
        CHECK.end();
    }

    /** Bells of notes 0 on in these cells of a row of five, of these depths; who is next to one of depth 1 shows it. */
    private static BellGround line(int... cellsAndDepths) {
        BellGround x = new BellGround();
        x.land(15);
        Check.tell(x, "d=1&z?9;0");
        for (int k = 0; k < cellsAndDepths.length; k++) {
            x.bell(cellsAndDepths[k] / 10, 100 * k + cellsAndDepths[k] % 10 * 10);
        }
        return x;
    }

    private static void oneShowsAnother() {
        BellGround x = line(1, 11, 20);
        due("0 shows 1", x.shows(1), 1);
        due("0 is too far from 2", x.shows(2), 0);
        due("1 shows 0", x.shows(10), 1);
        due("1 does not show 2, of depth 0", x.shows(12), 0);
        due("2 shows 1", x.shows(21), 1);
        Check.tell(x, "q*5");
        due("by their notes: 1", x.shows(1), 1);
        due("by their notes: 2", x.shows(2), 1);
        x.mend(0, 5, 6);
        due("by a worse ear: 1", x.shows(1), 0);
        due("by a worse ear: 2", x.shows(2), 1);
        x.bell(4, 300);
        x.bell(3, 400);
        Check.tell(x, "d*2");
        x.mend(0, 5, 5);
        due("3 is four off 0", x.shows(30) + x.shows(3), 2);
        due("4 is one off 2", x.shows(42) + x.shows(24), 0);
        due("4 is three off 0", x.shows(40), 1);
        Check.tell(x, "g?99;0");
        due("one lies at the bell: no way to it", x.shows(1), 0);
        Check.tell(x, "s*5");
        x.mend(0, 0, 0);
        due("soil is at the bell that is shown", x.shows(1), 1);
        due("and not at the one struck", x.shows(10), 0);
    }

    private static void byEarAndKind() {
        BellGround x = new BellGround();
        x.bell(0, 0);
        x.bell(1, 1);
        Check.tell(x, "5");
        due("a false one shows", x.shows(10), 1);
        due("a false one is shown by half", x.shows(1), 0);
        Check.tell(x, "10");
        due("half of 10", x.shows(1), 1);
        Check.tell(x, "4");
        due("less than the ear", x.shows(10), 0);
        Check.tell(x, "60");
        x.dug(0, 9);
        x.dug(1, 9);
        due("found ones show and are shown", x.shows(1) + x.shows(10), 2);
        x.mend(0, 5, 60);
        due("each alone", x.shows(10), 1);
        x.mend(0, 5, 61);
        due("no two together", x.shows(10), 0);
    }

    private static void silentBells() {
        // 0 shows 1 (of depth 1), 1 shows none; 2 is two off 1 and three off 0
        BellGround x = line(0, 11, 31);
        due("the ear as at first", x.shows(1), 1);
        x.mend(0, 5, 0);
        due("an ear of 0: who hums is shown", x.shows(1), 1);
        due("who hums 0 is not", x.shows(10), 0);
        due("who hums 0 is not, of two far ones", x.shows(2) + x.shows(20) + x.shows(12) + x.shows(21), 0);
        due("chain of 0", x.chain(1), 3);
        due("chain of 1", x.chain(2), 2);
        due("chain of 2", x.chain(4), 4);
        due("from 0 one is struck", x.strikes(1, 0), 1);
        due("from 1 none", x.strikes(2, 0), 0);
        due("from 1 no row", x.strikes(2, 1), 0);
        due("both ends are needed", x.source(), 5);
        Check.tell(x, "0");
        due("all are silent: 0", x.chain(1), 1);
        due("all are silent: each is needed", x.source(), 7);
        Check.tell(x, "0-5");
        due("below 0 is 0", x.source(), 7);
        Check.tell(x, "1");
        due("1 is heard", x.source(), 1);
        BellGround y = new BellGround();
        y.mend(0, 5, 0);
        y.bell(0, 0);
        y.bell(1, 1);
        Check.tell(y, "1");
        due("a false one hums half of 1: 0", y.shows(1), 0);
        due("the true one hums 1", y.shows(10), 1);
        due("the false one shows it", y.source(), 2);
        Check.tell(y, "2");
        due("half of 2 is heard", y.source(), 1);
    }

    private static void eachOfSixShows() {
        BellGround x = new BellGround();
        x.land(23);
        for (int b = 0; b < 6; b++) {
            x.bell(b, 0);
        }
        Check.tell(x, "(d=1)*9");
        // 0 1 2
        // 3 4 5
        int[] nextTo = {2 + 8, 1 + 4 + 16, 2 + 32, 1 + 16, 2 + 8 + 32, 4 + 16};
        for (int a = 0; a < 6; a++) {
            for (int b = 0; b < 6; b++) {
                due("shows(" + a + b + ")", x.shows(10 * a + b), a == b ? BellGround.BAD : nextTo[a] >> b & 1);
            }
        }
        due("0 shows 1, 3, then 1 shows 2, 4, then 2 shows 5", x.strikes(1, 1), 123);
        due("5 shows 2, 4, then 4 shows 1, 3, then 1 shows 0", x.strikes(32, 1), 652);
        due("one shows all", x.source(), 1);
        Check.tell(x, "0");
        due("none shows another", x.source(), 63);
        for (int set = 0; set < 64; set++) {
            due("chain(" + set + ")", x.chain(set), set);
            due("strikes(" + set + ", 0)", x.strikes(set, 0), 0);
        }
    }

    private static void showsIsBad() {
        BellGround x = new BellGround();
        due("without bells", x.shows(1), BellGround.BAD);
        x.bell(0, 0);
        x.bell(1, 0);
        Check.tell(x, "d*9");
        due("shows(10)", x.shows(10), 1);
        int[] wrong = {0, 11, 2, 20, 12, 21, 9, -1, -10, 101, 100, Integer.MIN_VALUE, Integer.MAX_VALUE};
        for (int ab : wrong) {
            due("shows(" + ab + ")", x.shows(ab), BellGround.BAD);
        }
    }

    private static void chains() {
        BellGround x = line(1, 11, 20, 31);
        due("of none", x.chain(0), 0);
        due("of 0", x.chain(1), 3);
        due("of 1", x.chain(2), 3);
        due("of 2: 1, 3, and by 1 0", x.chain(4), 15);
        due("of 3: nothing more", x.chain(8), 8);
        due("of 0 and 3", x.chain(9), 11);
        due("of all", x.chain(15), 15);
        x.mend(0, 5, 10);
        due("by a worse ear", x.chain(5), 5);
        due("none to strike", x.strikes(5, 0), 0);
        due("all are sources", x.source(), 15);
        x.undo();
        due("by the better one", x.chain(4), 15);
    }

    private static void fewestStrikes() {
        BellGround x = line(1, 11, 20, 31);
        int[] sets = {0, 1, 2, 3, 4, 5, 6, 7, 8, 12, 15};
        int[] fewest = {0, 1, 1, 0, 2, 1, 2, 1, 0, 2, 0};
        int[] rows = {0, 1, 2, 0, 32, 3, 23, 3, 0, 32, 0};
        for (int k = 0; k < sets.length; k++) {
            due("strikes(" + sets[k] + ", 0)", x.strikes(sets[k], 0), fewest[k]);
            due("strikes(" + sets[k] + ", 1)", x.strikes(sets[k], 1), rows[k]);
        }
        BellGround y = line(1, 11, 21);
        due("the middle shows both", y.strikes(2, 0), 1);
        due("one end, then the middle", y.strikes(1, 1), 12);
        due("the other end, then the middle", y.strikes(4, 1), 32);
    }

    private static void theFirstRow() {
        BellGround x = line(11, 31, 1, 41);
        due("0 shows 2, 1 shows 3: in either way", x.strikes(3, 0), 2);
        due("the first of them", x.strikes(3, 1), 12);
        due("of all but 3", x.strikes(7, 1), 2);
        due("of all but 2", x.strikes(11, 1), 1);
        Check.tell(x, "9");
        due("each shows all", x.strikes(8, 1), 4);
        due("of two the first", x.strikes(12, 1), 3);
    }

    private static void sixInARow() {
        BellGround x = new BellGround();
        int[] bent = {9, 4, 3, 2, 1, 0};
        for (int k = 0; k < 6; k++) {
            x.bell(bent[k], 10 * k);
        }
        // a bell shows those in the cells next to it, but none of depth 0
        Check.tell(x, "d=1?z*5;0");
        due("chain of the first", x.chain(1), 63);
        due("chain of the last", x.chain(32), 62);
        due("strikes from the first", x.strikes(1, 0), 5);
        due("the row of them", x.strikes(1, 1), 12345);
        due("strikes from the last", x.strikes(32, 0), 4);
        due("the row of them", x.strikes(32, 1), 6543);
        due("from within", x.strikes(4, 1), 345);
        due("source", x.source(), 1);
    }

    private static void setsAreBad() {
        BellGround x = new BellGround();
        due("chain(0) of no bells", x.chain(0), 0);
        due("chain(1) of no bells", x.chain(1), BellGround.BAD);
        due("strikes(0, 0) of no bells", x.strikes(0, 0), 0);
        due("strikes(1, 0) of no bells", x.strikes(1, 0), BellGround.BAD);
        for (int k = 0; k < 6; k++) {
            x.bell(k, 0);
            due("chain of all and 1", x.chain(2 << k), BellGround.BAD);
            due("strikes of all and 1", x.strikes(2 << k, 1), BellGround.BAD);
            due("chain of all", x.chain((2 << k) - 1), (2 << k) - 1);
            due("strikes of all", x.strikes((2 << k) - 1, 0), 0);
        }
        int[] wrong = {-1, 64, 128, Integer.MIN_VALUE, Integer.MAX_VALUE};
        for (int set : wrong) {
            due("chain(" + set + ")", x.chain(set), BellGround.BAD);
            due("strikes(" + set + ", 0)", x.strikes(set, 0), BellGround.BAD);
            due("strikes(1, " + set + ")", x.strikes(1, set), BellGround.BAD);
        }
        due("strikes(1, 2)", x.strikes(1, 2), BellGround.BAD);
    }

    private static void sources() {
        due("of no bells", new BellGround().source(), BellGround.STATE);
        due("of one", line(1).source(), 1);
        due("of two that show one another", line(1, 11).source(), 1);
        due("of two of which the second shows", line(1, 10).source(), 2);
        due("of two far ones", line(1, 21).source(), 3);
        due("of three, two and one", line(1, 11, 31).source(), 5);
        due("the second and one far off", line(1, 10, 31).source(), 6);
        due("2 shows them all", line(1, 11, 20, 31).source(), 4);
        BellGround x = line(1, 11, 31, 41);
        due("of like ones the least bits", x.source(), 5);
        x.dug(0, 9);
        due("found ones, too", x.source(), 5);
    }

    private static void tunes() {
        BellGround x = new BellGround();
        for (int village = 0; village < 6; village++) {
            due("tune of " + village, x.tune(village, 9999 - village), 0);
        }
        for (int village = 0; village < 6; village++) {
            due("tune of " + village + " then", x.tune(village, 0), 9999 - village);
            due("tune of " + village + " last", x.tune(village, 0), 0);
        }
        int[] wrong = {-1, 6, Integer.MIN_VALUE, Integer.MAX_VALUE};
        for (int village : wrong) {
            due("tune(" + village + ", 0)", x.tune(village, 0), BellGround.BAD);
        }
        int[] wrongTunes = {-1, 10000, Integer.MIN_VALUE, Integer.MAX_VALUE};
        for (int v : wrongTunes) {
            due("tune(0, " + v + ")", x.tune(0, v), BellGround.BAD);
        }
        due("tune of 0 as it was", x.tune(0, 1), 0);
    }

    private static void whoseItIs() {
        BellGround x = new BellGround();
        x.tune(0, 9999);
        x.tune(1, 1234);
        x.tune(2, 4321);
        x.tune(3, 5050);
        x.tune(4, 7777);
        x.tune(5, 5);
        Check.bytes(x, 0, 4, 3, 2, 1);
        due("village 2", x.whose(0, 0), 2);
        due("to the note", x.whose(0, 1), 0);
        Check.bytes(x, 0, 9, 0, 0, 0, 0, 5, 9);
        due("village 5", x.whose(0, 0), 5);
        due("from the third on", x.whose(0, 1), 0);
        Check.bytes(x, 0, 5, 1, 5, 1, 4);
        due("village 3", x.whose(0, 0), 3);
        due("by 0 1 0 1", x.whose(0, 1), 2);
        Check.bytes(x, 0, 1, 1, 1, 1, 0, 2, 3, 5);
        due("village 1", x.whose(0, 0), 1);
        due("from the last four: 1 0 0 1", x.whose(0, 1), 2);
        Check.bytes(x, 0, -128, -128, -128, -128);
        due("below all notes: village 5", x.whose(0, 0), 5);
        due("by 128 each and 5", x.whose(0, 1), 4 * 128 + 5);
        Check.bytes(x, 0, 127, 127, 127, 127);
        due("above all notes: village 0", x.whose(0, 0), 0);
        due("by 118 each", x.whose(0, 1), 4 * 118);
        x.row(0, 0, 60);
        x.put(0, 56, 7);
        x.put(0, 57, 7);
        x.put(0, 58, 7);
        x.put(0, 59, 7);
        x.tune(5, 6666);
        due("at the end of the longest row", x.whose(0, 0), 4);
        due("to the note", x.whose(0, 1), 0);
    }

    private static void whoseOfLikeOnes() {
        BellGround x = new BellGround();
        Check.bytes(x, 3, 0, 0, 0, 0, 0);
        due("all are like: the least", x.whose(3, 0), 0);
        x.tune(0, 1111);
        x.tune(1, 2222);
        x.tune(2, 8765);
        x.tune(3, 8765);
        Check.bytes(x, 3, 8, 7, 6, 5);
        due("of two the least", x.whose(3, 0), 2);
        Check.bytes(x, 3, 0, 0, 0, 1, 1, 1, 1);
        due("the least village, not the first place", x.whose(3, 0), 0);
        due("to the note", x.whose(3, 1), 0);
    }

    private static void whoseIsBad() {
        BellGround x = new BellGround();
        x.body(0);
        int[] wrong = {-1, 6, Integer.MIN_VALUE, Integer.MAX_VALUE};
        for (int shelf : wrong) {
            due("whose(" + shelf + ", 0)", x.whose(shelf, 0), BellGround.BAD);
        }
        int[] wrongParts = {-1, 2, Integer.MIN_VALUE, Integer.MAX_VALUE};
        for (int what : wrongParts) {
            due("whose(0, " + what + ")", x.whose(0, what), BellGround.BAD);
        }
        due("of nothing", x.whose(0, 1), -11);
        x.keep(0, 0);
        due("of a bell", x.whose(0, 1), -12);
        for (int sort = 1; sort < 5; sort++) {
            x.row(0, sort, 3);
            due("of a row of sort " + sort, x.whose(0, 0), -12);
        }
        for (int n = 0; n < 4; n++) {
            x.row(0, 0, n);
            due("of " + n + " notes", x.whose(0, 0), BellGround.NOT);
            due("of " + n + " notes, the sum", x.whose(0, 1), BellGround.NOT);
            due("of " + n + " notes, what else", x.whose(0, 2), BellGround.BAD);
        }
    }
}
