import java.util.ArrayList;
import java.util.List;
import java.util.Random;

/** Runs of calls drawn by seeds: the class answers as the Oracle does. */
final class RandomTest {
    private static final int RUNS = 240;
    private static final int CALLS = 512;
    private static final int[] WRONG = {-1, -2, -100, 6, 10, 25, 60, 61, 99, 100, 120, 1000, 10000, Integer.MIN_VALUE,
        Integer.MAX_VALUE};
    private static final int[] LANDS = {11, 12, 21, 22, 13, 31, 23, 32, 15, 51, 33, 34, 44, 55};
    private static final Check CHECK = new Check("RandomTest");

    private final Random random;
    private final BellGround x = new BellGround();
    private final Oracle oracle = new Oracle();
    private final List<String> calls = new ArrayList<>();
    private final boolean small;
    private final boolean keeps;
    private String feeding = "";
    private int fed;
    private int[] hidden;
    private boolean wrong;

    private RandomTest(int seed, boolean small) {
        random = new Random(seed);
        this.small = small;
        keeps = random.nextInt(2) == 0;
    }

    public static void main(String[] args) {
        int told = 0;
        for (int seed = 0; seed < RUNS && told < 3; seed++) {
            RandomTest run = new RandomTest(seed, seed % 10 != 0);
            run.go();
            if (run.wrong) {
                told++;
                System.out.println("seed " + seed + ": " + String.join("; ", run.calls));
            }
        }
        CHECK.end();
    }

    private void go() {
        if (small) {
            int rc = LANDS[random.nextInt(LANDS.length - 1)];
            due("land(" + rc + ")", x.land(rc), oracle.land(rc));
        }
        hide();
        if (random.nextInt(2) == 0) {
            feeding = random.nextInt(3) > 0 ? RandomText.plain(random) : RandomText.of(random);
        }
        while (calls.size() < CALLS && !wrong) {
            call();
        }
    }

    /** Bells (10 times the cell and the note) that hearings are told of, so that there are ways. */
    private void hide() {
        int places = 10 * oracle.count(1);
        int first = random.nextInt(places);
        int second = random.nextInt(places);
        hidden = random.nextInt(3) == 0 || first / 10 == second / 10 ? new int[] {first} : new int[] {first, second};
    }

    /** Whether what a run has is let go now: some runs do so seldom. */
    private boolean letsGo() {
        return !keeps || random.nextInt(10) == 0;
    }

    private void due(String call, long got, long want) {
        calls.add(call + " = " + got);
        CHECK.due(call, got, want);
        wrong |= got != want;
    }

    /** A number from 0 on below an end, or (one in some) a wrong one. */
    private int any(int end) {
        if (random.nextInt(40) == 0) {
            return random.nextInt(3) == 0 ? end : WRONG[random.nextInt(WRONG.length)];
        }
        return end <= 0 ? 0 : random.nextInt(end);
    }

    private int cell() {
        return any(oracle.count(1));
    }

    private int strike() {
        return 100 * any(10) + cell();
    }

    private int seed() {
        return random.nextInt();
    }

    private void call() {
        switch (random.nextInt(13)) {
            case 0, 1 -> landCall();
            case 2, 3 -> humCall();
            case 4, 5 -> wayCall();
            case 6 -> bellCall();
            case 7, 8 -> yearCall();
            case 9, 10 -> shelfCall();
            case 11 -> textCall();
            default -> actCall();
        }
    }

    private void landCall() {
        switch (random.nextInt(12)) {
            case 0 -> {
                int rc = any(66);
                if (random.nextInt(4) == 0 || !small) {
                    due("land(" + rc + ")", x.land(rc), oracle.land(rc));
                }
            }
            case 1 -> {
                int cell = cell();
                int nzk = 100 * any(10) + 10 * random.nextInt(keeps ? 10 : 3) + any(2);
                due("bell(" + cell + ", " + nzk + ")", x.bell(cell, nzk), oracle.bell(cell, nzk));
            }
            case 2, 3, 4, 5, 6 -> mendCall();
            default -> {
                int what = new int[] {0, 1, 10, 11, 12, 13, 14, 20, 21, 22, 23, 24, 30, 31, 32, any(40)}[random
                        .nextInt(16)];
                int number = what < 10 ? cell() : what < 20 ? any(6) : what < 30 ? any(1) : any(10);
                due("of(" + number + ", " + what + ")", x.of(number, what), oracle.of(number, what));
            }
        }
    }

    private void mendCall() {
        int what = any(7);
        int number = what < 2 ? cell() : what == 2 ? any(oracle.count(0)) : any(1);
        // what hums 0 is at the edge of an EAR of 0
        int ear = random.nextInt(4) == 0 ? any(2) : any(20);
        int v = what == 1 ? any(100) : what == 4 ? any(2) : what == 5 ? ear : any(10);
        due("mend(" + number + ", " + what + ", " + v + ")", x.mend(number, what, v), oracle.mend(number, what, v));
    }

    private void humCall() {
        int nc = strike();
        int cell = cell();
        switch (random.nextInt(6)) {
            case 0, 1 -> {
                int bell = any(oracle.count(0));
                due("hum(" + bell + ", " + nc + ", " + cell + ")", x.hum(bell, nc, cell), oracle.hum(bell, nc, cell));
            }
            case 2 -> due("heard(" + nc + ", " + cell + ")", x.heard(nc, cell), oracle.heard(nc, cell));
            case 3, 4 -> {
                int v = aHearing(nc, cell);
                due("hearing(" + nc + ", " + cell + ", " + v + ")", x.hearing(nc, cell, v),
                        oracle.hearing(nc, cell, v));
            }
            default -> {
                if (letsGo() || random.nextInt(3) == 0) {
                    due("forget()", x.forget(), oracle.forget());
                }
            }
        }
    }

    private int aHearing(int nc, int cell) {
        int drawn = random.nextInt(20);
        if (oracle.heard(nc, cell) < 0 || drawn == 0) {
            return random.nextInt(4) == 0 ? any(100) : random.nextInt(30);
        }
        return drawn < 4 ? oracle.heard(nc, cell) : oracle.heardOf(hidden, nc, cell);
    }

    private void wayCall() {
        // sets of two are dear in a land of many cells
        int n = oracle.count(1) > 12 && random.nextInt(12) > 0 ? 1 : random.nextInt(30) == 0 ? any(3) : any(2) + 1;
        switch (random.nextInt(9)) {
            case 0, 1 -> {
                int k = any(3) - 1;
                due("ways(" + n + ", " + k + ")", x.ways(n, k), oracle.ways(n, k));
            }
            case 2 -> {
                int what = any(2);
                due("sure(" + n + ", " + what + ")", x.sure(n, what), oracle.sure(n, what));
            }
            case 3 -> {
                int cell = cell();
                int part = any(2);
                due("chance(" + n + ", " + cell + ", " + part + ")", x.chance(n, cell, part),
                        oracle.chance(n, cell, part));
            }
            case 4 -> due("dig(" + n + ")", x.dig(n), oracle.dig(n));
            case 5, 6 -> {
                int cell = cell();
                int what = any(2);
                due("next(" + cell + ", " + what + ")", x.next(cell, what), oracle.next(cell, what));
            }
            case 7 -> {
                int hearing = any(oracle.count(2));
                due("told(" + n + ", " + hearing + ")", x.told(n, hearing), oracle.told(n, hearing));
            }
            default -> due("liars(" + n + ")", x.liars(n), oracle.liars(n));
        }
    }

    private void bellCall() {
        int set = any(1 << oracle.count(0));
        switch (random.nextInt(6)) {
            case 0, 1 -> {
                int ab = any(oracle.count(0)) * 10 + any(oracle.count(0));
                due("shows(" + ab + ")", x.shows(ab), oracle.shows(ab));
            }
            case 2 -> due("chain(" + set + ")", x.chain(set), oracle.chain(set));
            case 3, 4 -> {
                int what = any(2);
                due("strikes(" + set + ", " + what + ")", x.strikes(set, what), oracle.strikes(set, what));
            }
            default -> due("source()", x.source(), oracle.source());
        }
    }

    private void yearCall() {
        switch (random.nextInt(9)) {
            case 0 -> {
                int seed = seed();
                int n = random.nextInt(4) == 0 ? any(33) : random.nextInt(4);
                due("years(" + seed + ", " + n + ")", x.years(seed, n), oracle.years(seed, n));
            }
            case 1 -> {
                int cell = cell();
                int deep = any(10);
                due("dug(" + cell + ", " + deep + ")", x.dug(cell, deep), oracle.dug(cell, deep));
            }
            case 2 -> {
                int what = any(2);
                due("judge(" + what + ")", x.judge(what), oracle.judge(what));
            }
            case 3 -> due("image()", x.image(), oracle.image());
            case 4 -> due("back()", x.back(), oracle.back());
            case 5, 6 -> {
                if (letsGo()) {
                    due("undo()", x.undo(), oracle.undo());
                }
            }
            case 7 -> due("redo()", x.redo(), oracle.redo());
            default -> {
                int what = any(8);
                due("count(" + what + ")", x.count(what), oracle.count(what));
            }
        }
    }

    private void shelfCall() {
        int shelf = any(6);
        switch (random.nextInt(12)) {
            case 0 -> {
                int body = any(oracle.count(6) + 1) - 1;
                due("keep(" + shelf + ", " + body + ")", x.keep(shelf, body), oracle.keep(shelf, body));
            }
            case 1, 2 -> {
                int sort = random.nextInt(2) == 0 ? 0 : any(5);
                int n = random.nextInt(4) == 0 ? any(62) : any(9);
                due("row(" + shelf + ", " + sort + ", " + n + ")", x.row(shelf, sort, n), oracle.row(shelf, sort, n));
            }
            case 3, 4, 5 -> {
                int i = any(9);
                long v = random.nextInt(3) == 0 ? random.nextLong() >> random.nextInt(64) : random.nextInt(10);
                due("put(" + shelf + ", " + i + ", " + v + ")", x.put(shelf, i, v), oracle.put(shelf, i, v));
            }
            case 6 -> {
                int i = any(9);
                due("element(" + shelf + ", " + i + ")", x.element(shelf, i), oracle.element(shelf, i));
            }
            case 7 -> {
                int i = any(5);
                int other = any(6);
                int j = any(5);
                int n = any(6);
                due("shift(" + shelf + ", " + i + ", " + other + ", " + j + ", " + n + ")",
                        x.shift(shelf, i, other, j, n), oracle.shift(shelf, i, other, j, n));
            }
            case 8 -> {
                int k = any(8);
                due("taken(" + shelf + ", " + k + ")", x.taken(shelf, k), oracle.taken(shelf, k));
            }
            case 9 -> {
                int i = any(9);
                int n = any(7);
                due("bells(" + shelf + ", " + i + ", " + n + ")", x.bells(shelf, i, n), oracle.bells(shelf, i, n));
            }
            case 10 -> {
                int what = any(2);
                due("whose(" + shelf + ", " + what + ")", x.whose(shelf, what), oracle.whose(shelf, what));
            }
            default -> {
                int village = any(6);
                int v = any(10000);
                due("tune(" + village + ", " + v + ")", x.tune(village, v), oracle.tune(village, v));
            }
        }
    }

    private void textCall() {
        if (random.nextInt(60) == 0) {
            int letter = any(256);
            due("feed(" + letter + ")", x.feed(letter), oracle.feed(letter));
        }
        for (int k = 0; k < 6 && fed < feeding.length(); k++) {
            int letter = feeding.charAt(fed);
            due("feed(" + letter + ")", x.feed(letter), oracle.feed(letter));
            fed++;
        }
        if (oracle.count(4) > 0 && fed == feeding.length() || random.nextInt(60) == 0) {
            due("law()", x.law(), oracle.law());
            fed = 0;
            feeding = random.nextInt(6) > 0 ? "" : RandomText.plain(random);
        }
        if (random.nextInt(20) == 0) {
            hide();
        }
    }

    private void actCall() {
        switch (random.nextInt(3)) {
            case 0 -> {
                int kind = any(8);
                due("body(" + kind + ")", x.body(kind), oracle.body(kind));
            }
            case 1 -> {
                int body = any(oracle.count(6));
                int act = any(4);
                int with = random.nextInt(2) == 0 ? seed() : any(10);
                due("act(" + body + ", " + act + ", " + with + ")", x.act(body, act, with),
                        oracle.act(body, act, with));
            }
            default -> {
                int i = any(9);
                due("trace(" + i + ")", x.trace(i), oracle.trace(i));
            }
        }
    }
}
