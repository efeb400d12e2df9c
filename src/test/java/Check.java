import java.nio.charset.StandardCharsets;

/** Counts the answers that are due and tells those that are not. */
final class Check {
    private final String name;
    private int passed;
    private int failed;

    Check(String name) {
        this.name = name;
    }

    void due(String call, long got, long want) {
        if (got == want) {
            passed++;
            return;
        }
        failed++;
        System.out.println(name + ": " + call + " answered " + got + ", due is " + want);
    }

    void holds(String what, boolean so) {
        due(what, so ? 1 : 0, 1);
    }

    /** Ends the program: with 1 if an answer was not the one that is due. */
    void end() {
        System.out.println(name + ": " + passed + " answers as due, " + failed + " not");
        if (failed > 0 || passed == 0) {
            System.exit(1);
        }
    }

    /** Puts a text on the tape and makes it the law: what law() answers. */
    static int tell(BellGround x, String text) {
        for (byte letter : text.getBytes(StandardCharsets.ISO_8859_1)) {
            x.feed(letter & 255);
        }
        return x.law();
    }

    /** A shelf with a row of bytes. */
    static void bytes(BellGround x, int shelf, int... values) {
        x.row(shelf, 0, values.length);
        for (int i = 0; i < values.length; i++) {
            x.put(shelf, i, values[i]);
        }
    }
}
