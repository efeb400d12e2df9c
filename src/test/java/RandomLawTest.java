import java.util.Random;

/** Texts drawn by seeds: faults and what the law gives are as another reading of the grammar has them. */
final class RandomLawTest {
    private static final int TEXTS = 4000;
    private static final Check CHECK = new Check("RandomLawTest");

    private RandomLawTest() {
    }

    public static void main(String[] args) {
        Random random = new Random(7);
        int faults = 0;
        for (int k = 0; k < TEXTS; k++) {
            String text = k % 3 == 0 ? RandomText.of(random) : RandomText.spoilt(random);
            int fault = OracleText.faultOf(text);
            faults += fault < 0 ? 0 : 1;
            BellGround x = new BellGround();
            CHECK.due("law " + text, Check.tell(x, text), fault < 0 ? 1 : -100 - fault);
            if (fault < 0) {
                humsBy(x, text, random);
            }
        }
        CHECK.holds("faults are there: " + faults, faults > TEXTS / 4 && faults < TEXTS * 3 / 4);
        CHECK.end();
    }

    private static void humsBy(BellGround x, String text, Random random) {
        x.mend(0, 3, random.nextInt(10));
        x.mend(0, 4, random.nextInt(2));
        for (int bell = 0; bell < 4; bell++) {
            int cell = 6 * bell + random.nextInt(6);
            x.bell(cell, 100 * random.nextInt(10) + 10 * random.nextInt(10) + bell / 3);
            x.mend(cell, 0, random.nextInt(10));
            for (int k = 0; k < 3; k++) {
                int nc = 100 * random.nextInt(10) + random.nextInt(25);
                int listens = random.nextInt(25);
                int[] values = {far(nc % 100, cell), far(cell, listens), Math.abs(nc / 100 - x.of(bell, 11)),
                    x.of(bell, 12), x.of(cell, 0), x.of(0, 20), x.of(0, 21)};
                int loud = Math.min(99, Math.max(0, OracleText.worth(text, values)));
                CHECK.due("hum(" + bell + ", " + nc + ", " + listens + ") by " + text, x.hum(bell, nc, listens),
                        bell < 3 ? loud : loud / 2);
            }
        }
    }

    private static int far(int a, int b) {
        return Math.abs(a / 5 - b / 5) + Math.abs(a % 5 - b % 5);
    }
}
