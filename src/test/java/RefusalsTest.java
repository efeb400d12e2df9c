import java.util.ArrayList;
import java.util.List;
import java.util.function.ToLongFunction;

/**
 * What is answered by a refusal changes nothing: of two objects with the same past one is refused once, and whatever is
 * asked of both from then on is answered alike.
 */
final class RefusalsTest {
    private static final Check CHECK = new Check("RefusalsTest");
    private static final int BAD = BellGround.BAD;
    private static final int NOT = BellGround.NOT;
    private static final int FULL = BellGround.FULL;
    private static final int STATE = BellGround.STATE;

    private RefusalsTest() {
    }

    private interface Past {
        BellGround live();
    }

    public static void main(String[] args) {
        newOnes();
        refusedOnLand();
        refusedHums();
        refusedWays();
        refusedWithoutWays();
        refusedChains();
        refusedYears();
        refusedActs();
        refusedShelves();
        refusedShifts();
        fullOnes();
        theFutureTellsAll();
        CHECK.end();
    }

    private static void refused(Past past, String call, ToLongFunction<BellGround> asked, long answer) {
        BellGround x = past.live();
        CHECK.due(call, asked.applyAsLong(x), answer);
        CHECK.holds("after " + call + " all is as before", future(x).equals(future(past.live())));
    }

    private static BellGround lived() {
        BellGround x = new BellGround();
        x.land(34);
        Check.tell(x, "d+g>9?1;50-d*2-g*3-q*4-z-s-w");
        x.bell(0, 530);
        x.bell(5, 421);
        x.bell(11, 990);
        x.mend(4, 0, 7);
        x.mend(5, 1, 20);
        x.mend(1, 2, 4);
        x.mend(0, 3, 2);
        x.mend(0, 4, 1);
        x.mend(0, 5, 3);
        x.mend(0, 6, 2);
        x.undo();
        x.undo();
        for (int h = 0; h < 4; h++) {
            x.hearing(100 * h + h, 11 - h, x.heard(100 * h + h, 11 - h));
        }
        x.dug(5, 9);
        x.image();
        x.forget();
        x.dug(0, 9);
        Check.bytes(x, 0, 1, 5, 3, 0, 2, 4);
        Check.bytes(x, 4, 1, 2, 3);
        x.row(1, 1, 4);
        x.put(1, 2, -700);
        x.row(5, 4, 3);
        x.put(5, 1, 1);
        for (int kind = 0; kind < 8; kind++) {
            x.body(kind);
        }
        x.keep(2, 7);
        x.act(7, 3, 12);
        for (int v = 0; v < 6; v++) {
            x.tune(v, 1000 + 1111 * v);
        }
        x.feed('9');
        x.feed('-');
        x.feed('d');
        return x;
    }

    /** As many of all as there may be, and a row of notes. */
    private static BellGround full() {
        BellGround x = new BellGround();
        for (int b = 0; b < 6; b++) {
            x.bell(b, 100 * b + 10 * b);
        }
        for (int h = 0; h < 10; h++) {
            x.hearing(100 * h, h, h);
        }
        for (int k = 0; k < 120; k++) {
            x.feed(k % 2 == 0 ? 'd' : '+');
        }
        for (int k = 0; k < 50; k++) {
            x.body(k % 8);
        }
        Check.bytes(x, 0, 10, 1, 1, 0);
        return x;
    }

    private static BellGround withoutWays() {
        BellGround x = lived();
        x.hearing(0, 0, 99);
        return x;
    }

    /** What is answered from now on by calls that together tell the whole state; with any past they stay below 512. */
    private static List<Long> future(BellGround x) {
        List<Long> told = new ArrayList<>();
        lookAtLand(x, told);
        lookAtHearings(x, told);
        lookAtShelves(x, told);
        told.add((long) x.redo());
        for (int k = 0; k < 7; k++) {
            lookAtMended(x, told);
            told.add((long) x.undo());
        }
        lookAtMended(x, told);
        told.add((long) x.law());
        told.add((long) x.hum(0, 301, 2));
        told.add((long) x.back());
        lookAtHearings(x, told);
        for (int v = 0; v < 6; v++) {
            told.add((long) x.tune(v, 0));
        }
        told.add((long) x.act(5, 3, 7));
        told.add((long) x.land(55));
        return told;
    }

    private static void lookAtLand(BellGround x, List<Long> told) {
        for (int what = 0; what < 8; what++) {
            told.add((long) x.count(what));
        }
        int cells = x.count(1);
        for (int cell = 0; cell < cells; cell++) {
            told.add((long) x.of(cell, 0));
            told.add((long) x.of(cell, 1));
        }
        for (int k = 0; k < 6 * 4; k++) {
            told.add((long) x.of(k / 4, 10 + k % 4));
        }
        told.add((long) x.hum(1, 203, 7));
        told.add((long) x.heard(405, 6));
    }

    /** HEARINGS, who is FOUND, PAID: what an image keeps. */
    private static void lookAtHearings(BellGround x, List<Long> told) {
        int hearings = x.count(2);
        for (int k = 0; k < 3 * hearings; k++) {
            told.add((long) x.of(k / 3, 30 + k % 3));
        }
        for (int b = 0; b < 6; b++) {
            told.add((long) x.of(b, 14));
        }
        told.add((long) x.of(0, 24));
    }

    private static void lookAtShelves(BellGround x, List<Long> told) {
        for (int shelf = 0; shelf < 6; shelf++) {
            told.add((long) x.taken(shelf, 0));
            for (int i = 0; i < 6; i++) {
                told.add(x.element(shelf, i));
            }
        }
        for (int i = 0; i < 15; i++) {
            told.add((long) x.trace(i));
        }
    }

    private static void lookAtMended(BellGround x, List<Long> told) {
        told.add((long) x.of(4, 0));
        told.add((long) x.of(5, 1));
        told.add((long) x.of(1, 12));
        for (int what = 20; what < 24; what++) {
            told.add((long) x.of(0, what));
        }
    }

    private static void newOnes() {
        Past past = BellGround::new;
        refused(past, "new: forget()", BellGround::forget, STATE);
        refused(past, "new: source()", BellGround::source, STATE);
        refused(past, "new: back()", BellGround::back, STATE);
        refused(past, "new: undo()", BellGround::undo, STATE);
        refused(past, "new: redo()", BellGround::redo, STATE);
        refused(past, "new: judge(0)", x -> x.judge(0), NOT);
        refused(past, "new: shows(1)", x -> x.shows(1), BAD);
        refused(past, "new: hum(0, 0, 0)", x -> x.hum(0, 0, 0), BAD);
        refused(past, "new: told(1, 0)", x -> x.told(1, 0), BAD);
        refused(past, "new: bells(0, 0, 6)", x -> x.bells(0, 0, 6), 0);
        refused(past, "new: trace(0)", x -> x.trace(0), BAD);
        refused(past, "new: keep(0, 0)", x -> x.keep(0, 0), BAD);
    }

    private static void refusedOnLand() {
        Past past = RefusalsTest::lived;
        refused(past, "land(30)", x -> x.land(30), BAD);
        refused(past, "land(61)", x -> x.land(61), BAD);
        refused(past, "land(34)", x -> x.land(34), STATE);
        refused(past, "bell(12, 0)", x -> x.bell(12, 0), BAD);
        refused(past, "bell(5, 0)", x -> x.bell(5, 0), BAD);
        refused(past, "bell(1, 2)", x -> x.bell(1, 2), BAD);
        refused(past, "bell(1, 1000)", x -> x.bell(1, 1000), BAD);
        refused(past, "bells(6, 0, 1)", x -> x.bells(6, 0, 1), BAD);
        refused(past, "bells(0, 0, 0)", x -> x.bells(0, 0, 0), BAD);
        refused(past, "bells(0, 0, 7)", x -> x.bells(0, 0, 7), BAD);
        refused(past, "bells(1, 0, 7): BAD ahead of -12", x -> x.bells(1, 0, 7), BAD);
        refused(past, "bells(2, 0, 0): BAD ahead of -12", x -> x.bells(2, 0, 0), BAD);
        refused(past, "bells(1, 0, 1)", x -> x.bells(1, 0, 1), -12);
        refused(past, "bells(2, 0, 1)", x -> x.bells(2, 0, 1), -12);
        refused(past, "bells(0, 3, 1): within a four", x -> x.bells(0, 3, 1), 0);
        int[] most = {9, 99, 9, 9, 1, 99, 9};
        for (int what = 0; what < 7; what++) {
            int w = what;
            refused(past, "mend what " + w + " above", x -> x.mend(0, w, most[w] + 1), BAD);
            refused(past, "mend what " + w + " below", x -> x.mend(0, w, -1), BAD);
            refused(past, "mend what " + w + " of none", x -> x.mend(12, w, 1), BAD);
        }
        refused(past, "mend(0, 7, 0)", x -> x.mend(0, 7, 0), BAD);
        refused(past, "of(0, 2)", x -> x.of(0, 2), BAD);
        refused(past, "feed(-1)", x -> x.feed(-1), BAD);
        refused(past, "feed(256)", x -> x.feed(256), BAD);
    }

    private static void refusedHums() {
        Past past = RefusalsTest::lived;
        refused(past, "hum(3, 0, 0)", x -> x.hum(3, 0, 0), BAD);
        refused(past, "heard(12, 0)", x -> x.heard(12, 0), BAD);
        refused(past, "heard(0, 12)", x -> x.heard(0, 12), BAD);
        refused(past, "hearing(12, 0, 0)", x -> x.hearing(12, 0, 0), BAD);
        refused(past, "hearing(1000, 0, 0)", x -> x.hearing(1000, 0, 0), BAD);
        refused(past, "hearing(0, 12, 0)", x -> x.hearing(0, 12, 0), BAD);
        refused(past, "hearing(0, 0, 100)", x -> x.hearing(0, 0, 100), BAD);
        refused(past, "hearing(0, 0, -1)", x -> x.hearing(0, 0, -1), BAD);
    }

    private static void refusedWays() {
        Past past = RefusalsTest::lived;
        refused(past, "ways(3, 0)", x -> x.ways(3, 0), BAD);
        refused(past, "ways(1, 1)", x -> x.ways(1, 1), BAD);
        refused(past, "sure(0, 0)", x -> x.sure(0, 0), BAD);
        refused(past, "chance(1, 12, 0)", x -> x.chance(1, 12, 0), BAD);
        refused(past, "dig(3)", x -> x.dig(3), BAD);
        refused(past, "next(12, 0)", x -> x.next(12, 0), BAD);
        refused(past, "told(1, 3)", x -> x.told(1, 3), BAD);
        refused(past, "liars(0)", x -> x.liars(0), BAD);
    }

    private static void refusedWithoutWays() {
        Past past = RefusalsTest::withoutWays;
        refused(past, "no ways: ways(1, 0)", x -> x.ways(1, 0), NOT);
        refused(past, "no ways: ways(2, 1)", x -> x.ways(2, 1), NOT);
        refused(past, "no ways: dig(1)", x -> x.dig(1), NOT);
        refused(past, "no ways: next(0, 0)", x -> x.next(0, 0), NOT);
        refused(past, "no ways: next(0, 1)", x -> x.next(0, 1), NOT);
        Past narrow = () -> {
            BellGround x = new BellGround();
            x.land(11);
            x.hearing(0, 0, 1);
            return x;
        };
        refused(narrow, "one cell: liars(2)", x -> x.liars(2), NOT);
        refused(narrow, "one cell: ways(2, 0)", x -> x.ways(2, 0), NOT);
    }

    private static void refusedChains() {
        Past past = RefusalsTest::lived;
        refused(past, "shows(0)", x -> x.shows(0), BAD);
        refused(past, "shows(3)", x -> x.shows(3), BAD);
        refused(past, "chain(8)", x -> x.chain(8), BAD);
        refused(past, "strikes(8, 0)", x -> x.strikes(8, 0), BAD);
        refused(past, "strikes(1, 2)", x -> x.strikes(1, 2), BAD);
        refused(past, "tune(6, 0)", x -> x.tune(6, 0), BAD);
        refused(past, "tune(5, 10000)", x -> x.tune(5, 10000), BAD);
        refused(past, "tune(5, -1)", x -> x.tune(5, -1), BAD);
        refused(past, "whose(6, 0)", x -> x.whose(6, 0), BAD);
        refused(past, "whose(3, 2): BAD ahead of -11", x -> x.whose(3, 2), BAD);
        refused(past, "whose(1, -1): BAD ahead of -12", x -> x.whose(1, -1), BAD);
        refused(past, "whose(3, 0)", x -> x.whose(3, 0), -11);
        refused(past, "whose(1, 0)", x -> x.whose(1, 0), -12);
        refused(past, "whose(5, 0): -12 ahead of NOT", x -> x.whose(5, 0), -12);
        refused(past, "whose(2, 0)", x -> x.whose(2, 0), -12);
        refused(past, "whose(4, 1)", x -> x.whose(4, 1), NOT);
    }

    private static void refusedYears() {
        Past past = RefusalsTest::lived;
        refused(past, "years(1, 0)", x -> x.years(1, 0), BAD);
        refused(past, "years(1, 31)", x -> x.years(1, 31), BAD);
        refused(past, "years(1, -1)", x -> x.years(1, -1), BAD);
        refused(past, "dug(12, 9)", x -> x.dug(12, 9), BAD);
        refused(past, "dug(11, 10)", x -> x.dug(11, 10), BAD);
        refused(past, "dug(11, -1)", x -> x.dug(11, -1), BAD);
        refused(past, "judge(2)", x -> x.judge(2), BAD);
        Past spent = () -> {
            BellGround x = lived();
            x.redo();
            x.redo();
            return x;
        };
        refused(spent, "redo() when all is done", BellGround::redo, STATE);
        Past undone = () -> {
            BellGround x = lived();
            for (int k = 0; k < 5; k++) {
                x.undo();
            }
            return x;
        };
        refused(undone, "undo() when all is undone", BellGround::undo, STATE);
    }

    private static void refusedActs() {
        Past past = RefusalsTest::lived;
        refused(past, "body(8)", x -> x.body(8), BAD);
        refused(past, "body(-1)", x -> x.body(-1), BAD);
        refused(past, "trace(14)", x -> x.trace(14), BAD);
        refused(past, "trace(-1)", x -> x.trace(-1), BAD);
    }

    private static void refusedShelves() {
        Past past = RefusalsTest::lived;
        refused(past, "keep(6, 0)", x -> x.keep(6, 0), BAD);
        refused(past, "keep(0, 8)", x -> x.keep(0, 8), BAD);
        refused(past, "keep(0, -2)", x -> x.keep(0, -2), BAD);
        refused(past, "row(6, 0, 1)", x -> x.row(6, 0, 1), BAD);
        refused(past, "row(0, 5, -1): BAD ahead of -14", x -> x.row(0, 5, -1), BAD);
        refused(past, "row(0, -1, 1)", x -> x.row(0, -1, 1), BAD);
        refused(past, "row(0, 0, 61)", x -> x.row(0, 0, 61), BAD);
        refused(past, "row(0, 0, -1)", x -> x.row(0, 0, -1), -14);
        refused(past, "put(6, 0, 9)", x -> x.put(6, 0, 9), BAD);
        refused(past, "put(3, 0, 9)", x -> x.put(3, 0, 9), -11);
        refused(past, "put(2, 0, 9)", x -> x.put(2, 0, 9), -12);
        refused(past, "put(0, 6, 9)", x -> x.put(0, 6, 9), -13);
        refused(past, "put(1, -1, 9)", x -> x.put(1, -1, 9), -13);
        refused(past, "element(6, 0)", x -> x.element(6, 0), Long.MIN_VALUE);
        refused(past, "element(3, 0)", x -> x.element(3, 0), Long.MIN_VALUE);
        refused(past, "element(2, 0)", x -> x.element(2, 0), Long.MIN_VALUE);
        refused(past, "element(0, 6)", x -> x.element(0, 6), Long.MIN_VALUE);
        refused(past, "taken(2, 8)", x -> x.taken(2, 8), BAD);
        refused(past, "taken(3, 8): BAD ahead of -11", x -> x.taken(3, 8), BAD);
        refused(past, "taken(3, 0)", x -> x.taken(3, 0), -11);
        refused(past, "taken(0, 0)", x -> x.taken(0, 0), -12);
        refused(past, "taken(2, 5)", x -> x.taken(2, 5), -12);
        refused(past, "count(8)", x -> x.count(8), BAD);
        refused(past, "count(-1)", x -> x.count(-1), BAD);
    }

    private static void refusedShifts() {
        Past past = RefusalsTest::lived;
        refused(past, "shift(0, 0, 6, 0, 1)", x -> x.shift(0, 0, 6, 0, 1), BAD);
        refused(past, "shift(3, 0, 6, 0, 1): BAD ahead of -11", x -> x.shift(3, 0, 6, 0, 1), BAD);
        refused(past, "shift(0, 0, 3, 0, 1)", x -> x.shift(0, 0, 3, 0, 1), -11);
        refused(past, "shift(2, 0, 3, 0, 1): -11 ahead of -12", x -> x.shift(2, 0, 3, 0, 1), -11);
        refused(past, "shift(0, 0, 2, 0, 1)", x -> x.shift(0, 0, 2, 0, 1), -12);
        refused(past, "shift(0, 9, 1, 9, 1): -12 ahead of -13", x -> x.shift(0, 9, 1, 9, 1), -12);
        refused(past, "shift(0, 3, 4, 0, 4)", x -> x.shift(0, 3, 4, 0, 4), -13);
        refused(past, "shift(0, 0, 4, 0, 4)", x -> x.shift(0, 0, 4, 0, 4), -13);
        refused(past, "shift(0, 0, 4, -1, 2)", x -> x.shift(0, 0, 4, -1, 2), -13);
        refused(past, "shift(0, 0, 4, 0, -1)", x -> x.shift(0, 0, 4, 0, -1), -13);
        refused(past, "shift(0, 4, 0, 0, 3) in itself", x -> x.shift(0, 4, 0, 0, 3), -13);
    }

    private static void fullOnes() {
        Past past = RefusalsTest::full;
        refused(past, "full: bell(9, 0)", x -> x.bell(9, 0), FULL);
        refused(past, "full: bell(5, 0): BAD ahead of FULL", x -> x.bell(5, 0), BAD);
        refused(past, "full: bells(0, 0, 1)", x -> x.bells(0, 0, 1), 0);
        refused(past, "full: feed('d')", x -> x.feed('d'), FULL);
        refused(past, "full: feed(256): BAD ahead of FULL", x -> x.feed(256), BAD);
        refused(past, "full: hearing(0, 0, 0)", x -> x.hearing(0, 0, 0), FULL);
        refused(past, "full: hearing(0, 0, 100): BAD ahead of FULL", x -> x.hearing(0, 0, 100), BAD);
        refused(past, "full: body(0)", x -> x.body(0), FULL);
        refused(past, "full: body(8): BAD ahead of FULL", x -> x.body(8), BAD);
    }

    /** What is no refusal is seen in the future: so would be a refusal that changed as much. */
    private static void theFutureTellsAll() {
        List<ToLongFunction<BellGround>> calls = List.of(x -> x.bell(1, 0), x -> x.bells(0, 0, 1),
                x -> x.mend(11, 0, 4), x -> x.mend(11, 1, 11), x -> x.mend(2, 2, 8), x -> x.mend(0, 5, 4),
                x -> x.feed(0), x -> x.law(), x -> x.hearing(0, 0, 0), x -> x.forget(), x -> x.tune(5, 0),
                x -> x.years(1, 1), x -> x.dug(11, 9), x -> x.dug(1, 0), x -> x.image(), x -> x.back(), x -> x.undo(),
                x -> x.redo(), x -> x.body(0), x -> x.act(0, 0, 0), x -> x.act(8, 0, 0), x -> x.keep(5, 1),
                x -> x.keep(5, -1), x -> x.row(0, 0, 6), x -> x.row(3, 0, 0), x -> x.put(0, 5, 9),
                x -> x.shift(0, 0, 0, 1, 1));
        for (int k = 0; k < calls.size(); k++) {
            BellGround x = lived();
            calls.get(k).applyAsLong(x);
            CHECK.holds("change " + k + " is seen", !future(x).equals(future(lived())));
        }
    }
}
