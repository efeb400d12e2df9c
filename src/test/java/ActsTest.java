import java.util.function.IntBinaryOperator;

/** Promises 33 to 35: body, act, trace. What each act is was worked out by hand from the document's bodies. */
final class ActsTest {
    private static final Check CHECK = new Check("ActsTest");

    private ActsTest() {
    }

    private static void due(String call, long got, long want) {
        CHECK.due(call, got, want);
    }

    public static void main(String[] args) {
        bodiesCome();
        bodiesAreBad();
        actsOfEachKind();
        tracesOfEachKind();
        noSuchAct();
        tracesAreBad();
        CHECK.end();
    }

    private static void bodiesCome() {
        BellGround x = new BellGround();
        for (int k = 0; k < 50; k++) {
            due("body " + k, x.body(k % 8), k);
            due("count(6)", x.count(6), k + 1);
        }
        due("one more", x.body(0), BellGround.FULL);
        due("one more of no kind", x.body(8), BellGround.BAD);
        due("the last, of kind 1, hums", x.act(49, 0, 1), 1 + 49 + 3);
        due("fifty", x.count(6), 50);
        due("they are no bells in the ground", x.count(0), 0);
    }

    private static void bodiesAreBad() {
        BellGround x = new BellGround();
        int[] wrong = {-1, 8, Integer.MIN_VALUE, Integer.MAX_VALUE};
        for (int kind : wrong) {
            due("body(" + kind + ")", x.body(kind), BellGround.BAD);
        }
        due("none", x.count(6), 0);
    }

    /** By kind: hums, lies, rings, tells with x and the number n. */
    private static final IntBinaryOperator[][] ACTS = {
        {(x, n) -> x + n, (x, n) -> 2 * (x + n), (x, n) -> x ^ n, (x, n) -> 2 * (x + n) - (1 ^ n)},
        {(x, n) -> x + n + 3, (x, n) -> 2 * (x + n + 3), (x, n) -> x ^ n, (x, n) -> 2 * (x + n + 3) - (1 ^ n)},
        {(x, n) -> x + n, (x, n) -> -2 * (x + n), (x, n) -> x ^ n, (x, n) -> -2 * (x + n) - (1 ^ n)},
        {(x, n) -> x + n, (x, n) -> -2 * (x + 1 + n), (x, n) -> 3 * (x ^ n),
            (x, n) -> -2 * (x + 1 + n) - 3 * (1 ^ n)},
        {(x, n) -> x + n + 3, (x, n) -> 2 * (x + n + 3), (x, n) -> (x ^ n) - (n + 5),
            (x, n) -> 2 * (x + n + 3) - (1 ^ n) + n + 5},
        {(x, n) -> x + n, (x, n) -> -2 * (x + 1 + n), (x, n) -> 3 * (x ^ n),
            (x, n) -> (-2 * (x + 1 + n) - 3 * (1 ^ n)) ^ 5},
        {(x, n) -> 2 * (x + n), (x, n) -> 4 * (x + n), (x, n) -> x ^ n, (x, n) -> 4 * (x + n) - (1 ^ n)},
        {(x, n) -> x + n + 3, (x, n) -> 2 * (x + n + 3) + (2 ^ n) - (n + 5), (x, n) -> (x ^ n) - (n + 5),
            (x, n) -> 2 * (x + n + 3) + (2 ^ n) - (n + 5) - ((1 ^ n) - (n + 5)) - 1},
    };

    private static void actsOfEachKind() {
        BellGround x = new BellGround();
        for (int n = 0; n < 50; n++) {
            x.body((n * 3 + n / 8) % 8);
        }
        int[] told = {0, 1, 7, -1, -50, 1000003, Integer.MAX_VALUE, Integer.MIN_VALUE};
        for (int n = 0; n < 50; n += 1) {
            for (int act = 0; act < 4; act++) {
                int with = told[(n + act) % told.length];
                due("act(" + n + ", " + act + ", " + with + ")", x.act(n, act, with),
                        ACTS[(n * 3 + n / 8) % 8][act].applyAsInt(with, n));
            }
        }
    }

    private static final int[][][] TRACES = {
        {{1}, {10, 1}, {11}, {2, 10, 1, 11}},
        {{20, 1}, {10, 20, 1}, {11}, {2, 10, 20, 1, 11}},
        {{1}, {30, 10, 1}, {11}, {2, 30, 10, 1, 11}},
        {{1}, {41, 30, 10, 1}, {40, 11}, {2, 41, 30, 10, 1, 40, 11}},
        {{20, 1}, {10, 20, 1}, {50, 11, 20, 1}, {2, 10, 20, 1, 50, 11, 20, 1}},
        {{1}, {41, 30, 10, 1}, {40, 11}, {60, 2, 41, 30, 10, 1, 40, 11}},
        {{70, 1}, {10, 70, 1}, {11}, {2, 10, 70, 1, 11}},
        {{20, 1}, {80, 10, 20, 1, 50, 11, 20, 1}, {50, 11, 20, 1},
            {81, 2, 80, 10, 20, 1, 50, 11, 20, 1, 50, 11, 20, 1}},
    };

    private static void tracesOfEachKind() {
        for (int kind = 0; kind < 8; kind++) {
            BellGround x = new BellGround();
            x.body(kind);
            for (int act = 3; act >= 0; act--) {
                int[] trace = TRACES[kind][act];
                x.act(0, act, 5);
                due("bodies of kind " + kind + ", act " + act, x.count(7), trace.length);
                for (int i = 0; i < trace.length; i++) {
                    due("kind " + kind + ", act " + act + ", trace(" + i + ")", x.trace(i), trace[i]);
                }
                due("kind " + kind + ", act " + act + ", behind the trace", x.trace(trace.length), BellGround.BAD);
            }
        }
    }

    private static void noSuchAct() {
        BellGround x = new BellGround();
        due("no bodies", x.act(0, 0, 7), 0);
        x.body(0);
        int[][] wrong = {{1, 0}, {-1, 0}, {0, 4}, {0, -1}, {Integer.MAX_VALUE, 0}, {Integer.MIN_VALUE, 0},
            {0, Integer.MAX_VALUE}, {0, Integer.MIN_VALUE}};
        for (int[] one : wrong) {
            due("an act", x.act(0, 3, 7), 13);
            due("its trace", x.trace(0), 2);
            due("act(" + one[0] + ", " + one[1] + ", 7)", x.act(one[0], one[1], 7), 0);
            due("no trace", x.trace(0), BellGround.BAD);
            due("none ran", x.count(7), 0);
        }
    }

    private static void tracesAreBad() {
        BellGround x = new BellGround();
        due("before any act", x.trace(0), BellGround.BAD);
        x.body(7);
        x.act(0, 3, 0);
        int[] wrong = {-1, 14, 23, 24, Integer.MIN_VALUE, Integer.MAX_VALUE};
        for (int i : wrong) {
            due("trace(" + i + ")", x.trace(i), BellGround.BAD);
        }
        due("the last", x.trace(13), 1);
    }
}
