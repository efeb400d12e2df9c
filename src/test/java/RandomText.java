import java.util.Random;

/** Texts drawn by the law's grammar, some of them spoilt. */
final class RandomText {
    private static final int MOST_BYTES = 120;
    private static final String NAMES = "dgqzswf";
    private static final String[] SIGNS = {"|", "&", "<=>", "+-", "*/%"};
    private static final String ALL = "dgqzswf0123456789|&<=>+-*/%!()?; x";

    private RandomText() {
    }

    static String of(Random random) {
        String text = "";
        int lines = 1 + random.nextInt(3);
        for (int k = 0; k < lines; k++) {
            String line = part(random, 0, 0, 3 + random.nextInt(6));
            if (random.nextInt(3) > 0 || k + 1 < lines) {
                line += "?" + part(random, 0, 0, 3 + random.nextInt(6));
            }
            text += k == 0 ? line : ";" + line;
        }
        return text.length() > MOST_BYTES ? of(random) : text;
    }

    /** A text by which most bells are neither mute nor as loud as can be. */
    static String plain(Random random) {
        String[] others = {"z", "s", "w", "f*5", "z*s", "(q>3)*7", "d*g", "!q*4", "s/2", "z%3"};
        String text = 20 + random.nextInt(60) + "-" + random.nextInt(9) + "*d-" + random.nextInt(9) + "*g-"
                + random.nextInt(9) + "*q-" + others[random.nextInt(others.length)];
        return random.nextInt(3) > 0 ? text : part(random, 0, 0, 3) + "?" + text + ";"
                + (20 + random.nextInt(30)) + "-" + others[random.nextInt(others.length)];
    }

    /** One or more of its bytes are changed, dropped, or come anew. */
    static String spoilt(Random random) {
        StringBuilder text = new StringBuilder(of(random));
        for (int k = random.nextInt(3); k >= 0 && text.length() > 0; k--) {
            int at = random.nextInt(text.length());
            char other = random.nextInt(30) == 0 ? (char) random.nextInt(256) : ALL.charAt(random.nextInt(ALL.length()));
            switch (random.nextInt(4)) {
                case 0 -> text.setCharAt(at, other);
                case 1 -> text.deleteCharAt(at);
                case 2 -> text.insert(at, other);
                default -> text.setLength(at);
            }
        }
        return text.length() > MOST_BYTES ? text.substring(0, MOST_BYTES) : text.toString();
    }

    private static String part(Random random, int level, int open, int room) {
        if (level == SIGNS.length) {
            return operand(random, open, room);
        }
        String part = part(random, level + 1, open, room);
        for (int k = 0; k < room && random.nextInt(6) < (level > 2 ? 2 : 1); k++) {
            part += SIGNS[level].charAt(random.nextInt(SIGNS[level].length()))
                    + part(random, level + 1, open, room / 2);
            if (level == 2) {
                break;
            }
        }
        return part;
    }

    private static String operand(Random random, int open, int room) {
        switch (random.nextInt(7)) {
            case 0:
                return open < 6 && room > 0 ? "(" + part(random, 0, open + 1, room / 2) + ")" : "d";
            case 1:
                return open < 6 && room > 0 ? (random.nextInt(3) == 0 ? "!" : "-")
                        + operand(random, open + 1, room / 2) : "q";
            case 2:
                return String.valueOf(random.nextInt(10000));
            case 3:
                return String.valueOf(random.nextInt(60));
            default:
                return String.valueOf(NAMES.charAt(random.nextInt(NAMES.length())));
        }
    }
}
