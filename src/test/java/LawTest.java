/** Promises 7 and 8: feed, law. What a law gives is seen by hum: one true bell in a row of five cells. */
final class LawTest {
    private static final Check CHECK = new Check("LawTest");

    private LawTest() {
    }

    private static void due(String call, long got, long want) {
        CHECK.due(call, got, want);
    }

    public static void main(String[] args) {
        theTapeFills();
        theTapeEmpties();
        numbersAndNames();
        signsBind();
        signsGive();
        intsWrap();
        linesCount();
        humsAreHeld();
        faults();
        openOnes();
        faultsLeaveTheLaw();
        textAfterText();
        longTexts();
        CHECK.end();
    }

    private static void theTapeFills() {
        BellGround x = new BellGround();
        int[] wrong = {-1, 256, Integer.MIN_VALUE, Integer.MAX_VALUE};
        for (int letter : wrong) {
            due("feed(" + letter + ")", x.feed(letter), BellGround.BAD);
        }
        for (int k = 1; k <= 120; k++) {
            due("feed the " + k + "th", x.feed(k % 2 == 0 ? 0 : 255), k);
            due("count(4)", x.count(4), k);
        }
        due("feed when it is full", x.feed('d'), BellGround.FULL);
        for (int letter : wrong) {
            due("feed(" + letter + ") when it is full", x.feed(letter), BellGround.BAD);
        }
        due("count(4) when it is full", x.count(4), 120);
    }

    private static void theTapeEmpties() {
        BellGround x = new BellGround();
        due("an empty tape", x.law(), -100);
        x.feed('d');
        due("a law", x.law(), 1);
        due("the tape is empty", x.count(4), 0);
        x.feed('x');
        x.feed('d');
        due("no law", x.law(), -100);
        due("the tape is empty, too", x.count(4), 0);
        due("and fed anew", x.feed('d'), 1);
    }

    /** A row of five cells: the bell in cell 3 with note 8 and depth 6, soil 7, WET 4, FROST 1. */
    private static BellGround ground() {
        BellGround x = new BellGround();
        x.land(15);
        x.bell(3, 860);
        x.mend(3, 0, 7);
        x.mend(0, 3, 4);
        x.mend(0, 4, 1);
        return x;
    }

    /** Struck at cell 1 by note 3, heard at cell 4: d 2, g 1, q 5, z 6, s 7, w 4, f 1. */
    private static void gives(String text, int loud) {
        BellGround x = ground();
        due("law " + text, Check.tell(x, text), 1);
        due("loud by " + text, x.hum(0, 301, 4), loud);
    }

    private static void numbersAndNames() {
        gives("0", 0);
        gives("7", 7);
        gives("42", 42);
        gives("099", 99);
        gives("0007", 7);
        gives("9999-9990", 9);
        gives("d", 2);
        gives("g", 1);
        gives("q", 5);
        gives("z", 6);
        gives("s", 7);
        gives("w", 4);
        gives("f", 1);
        gives("w*10+f", 41);
    }

    private static void signsBind() {
        gives("2+3*4", 14);
        gives("(2+3)*4", 20);
        gives("20-3-4", 13);
        gives("20-(3-4)", 21);
        gives("99/3/4", 8);
        gives("99%10*5", 45);
        gives("60/5*2", 24);
        gives("10*z/4", 15);
        gives("3<2+2", 1);
        gives("3+(2<2)", 3);
        gives("(1<2)<1", 0);
        gives("5&0|3", 1);
        gives("3|5&0", 1);
        gives("(3|5)&0", 0);
        gives("1=1&2=2", 1);
        gives("-d*-3", 6);
        gives("-2+9", 7);
        gives("9--2", 11);
        gives("!0*7", 7);
        gives("!0+7", 8);
        gives("-(2-9)", 7);
        gives("!!7", 1);
        gives("!-!0", 0);
        gives("-!0+9", 8);
        gives("0&0=0", 0);
        gives("0&1|1", 1);
    }

    private static void signsGive() {
        gives("7|9", 1);
        gives("0|0", 0);
        gives("0|-5", 1);
        gives("2&4", 1);
        gives("2&0", 0);
        gives("0&4", 0);
        gives("3<4", 1);
        gives("4<4", 0);
        gives("5<4", 0);
        gives("4=4", 1);
        gives("4=5", 0);
        gives("5>4", 1);
        gives("4>4", 0);
        gives("4>5", 0);
        gives("!0", 1);
        gives("!3", 0);
        gives("9/2", 4);
        gives("9-9/-2", 13);
        gives("10+(-9/2)", 6);
        gives("10+(-9%2)", 9);
        gives("10+9%-2", 11);
        gives("9/0", 0);
        gives("9%0", 0);
        gives("5+9/(d-2)", 5);
        gives("5+9%(d-2)", 5);
        gives("1|2/0", 1);
    }

    private static void intsWrap() {
        // 16 to the 8th is 0, half of it the least int
        gives("16*16*16*16*16*16*16*16", 0);
        gives("8*16*16*16*16*16*16*16<0", 1);
        gives("8*16*16*16*16*16*16*16-1>0", 1);
        gives("-(8*16*16*16*16*16*16*16)<0", 1);
        gives("(8*16*16*16*16*16*16*16)/(0-1)<0", 1);
        gives("(8*16*16*16*16*16*16*16)%(0-1)=0", 1);
        // 999700029999 less 233 times 16 to the 8th
        gives("9999*9999*9999<0", 1);
        gives("-(9999*9999*9999/9999/9999)+0", 10);
    }

    private static void linesCount() {
        gives("1?9", 9);
        gives("0?9", 0);
        gives("0?9;8", 8);
        gives("0?9;8;7", 8);
        gives("5?9;8", 9);
        gives("-5?9;8", 9);
        gives("0?9;0?8;q?7;6", 7);
        gives("0?9;0?8;0?7", 0);
        gives("4;1?9", 4);
        gives("0;9", 0);
        gives("0?99;d>1?d*20;g", 40);
        gives("d>2?99;g=1&q=5?z*s+w;50", 46);
        gives("1?0;9", 0);
        gives("1?0|3", 1);
        gives("0|1?0|3;5", 1);
        gives("1?((((((9))))))", 9);
        gives("((((((1))))))?9", 9);
        gives("0?1;((((((8))))))", 8);
        gives("0?1;0|2", 1);
        gives("!w?1;f?2+3*4;3", 14);
    }

    private static void humsAreHeld() {
        gives("99", 99);
        gives("100", 99);
        gives("9999", 99);
        gives("-1", 0);
        gives("0-9999", 0);
        BellGround x = ground();
        x.bell(2, 861);
        Check.tell(x, "7");
        due("half of 7, cut", x.hum(1, 301, 4), 3);
        Check.tell(x, "9999");
        due("half of what is held", x.hum(1, 301, 4), 49);
        Check.tell(x, "-7");
        due("half of nothing", x.hum(1, 301, 4), 0);
    }

    private static void faulty(String text, int place) {
        due("law " + text, Check.tell(new BellGround(), text), -100 - place);
    }

    private static void faults() {
        faulty("", 0);
        String begins = "dgqzswf0123456789!-(";
        for (int letter = 0; letter < 256; letter++) {
            String text = String.valueOf((char) letter);
            boolean names = letter > 0 && begins.indexOf(letter) >= 0;
            boolean whole = names && letter != '!' && letter != '-' && letter != '(';
            due("law of byte " + letter, Check.tell(new BellGround(), text), whole ? 1 : names ? -101 : -100);
        }
        String goesOn = "|&<=>+-*/%?;";
        for (int letter = 0; letter < 256; letter++) {
            boolean on = letter > 0 && goesOn.indexOf(letter) >= 0;
            due("law of d and byte " + letter, Check.tell(new BellGround(), "d" + (char) letter), on ? -102 : -101);
            due("law of d, byte " + letter + " and 1", Check.tell(new BellGround(), "d" + (char) letter + "1"),
                    on ? 1 : -101);
        }
        String[] texts = {"12345", "00000", "1234d", "d d", " d", "d;", ";d", "d;;d", "d?", "?d", "d??d", "d?g?q", "d?g;q?",
            "d?g;q?z?", "(d", "(d;g)", "(d?g)", "d)", "()", "(d))", "(d)g", "d<g<q", "d=g=q", "d<g=q", "d>g+1<q",
            "d<g&q<z<s", "d||g", "d&&g", "d+*g", "d*+g", "d+", "dg", "1g", "d!", "!", "-", "!*d", "(d+)", "((d)", "d<(g<q)<z",
            "d==g", "d<=g", "D", "d\n", "d?g:q", "12345d", "1?2;3?4;5?6;"};
        int[] places = {4, 4, 4, 1, 0, 2, 0, 2, 2, 0, 2, 3, 6, 7, 2, 2, 2, 1, 1, 3, 3, 3, 3, 3, 5, 7, 2, 2, 2, 2, 2, 1, 1,
            1, 1, 1, 1, 3, 4, 7, 2, 2, 0, 1, 3, 4, 12};
        for (int k = 0; k < texts.length; k++) {
            faulty(texts[k], places[k]);
        }
    }

    private static void openOnes() {
        String[] open = {"(", "!", "-"};
        for (String sign : open) {
            String six = sign.repeat(6);
            String close = sign.equals("(") ? "))))))" : "";
            gives(six + "9" + close + "+1-1", sign.equals("!") ? 1 : 9);
            faulty(six + sign + "9", 6);
            for (String other : open) {
                faulty(six + other, 6);
            }
            faulty(six, 6);
            faulty("d+" + six + sign + "9", 8);
            gives(six + "3" + close + "+" + six + "3" + close, sign.equals("!") ? 2 : 6);
        }
        gives("((((((9-2-1))))))", 6);
        gives("9-((((((9-2))))))", 2);
        gives("0-((((((2-9))))))", 7);
        gives("9--(((((2)))))", 11);
        faulty("9--((((((2))))))", 8);
        gives("(((!!!0+!!!0)))", 2);
        faulty("(((!!!0+!!!!0)))", 11);
        gives("((((((5))))))", 5);
        gives("(5)+(5)+(5)+(5)+(5)+(5)+(5)+(5)", 40);
        gives("!0+!0+!0+!0+!0+!0+!0+!0+!0", 9);
        gives("-(-(-(5)-1)-1)+9", 4);
        faulty("-(-(-(5)-1)-1", 13);
        faulty("-(-(-(-5", 6);
        gives("((1)+(((((4))))))", 5);
        faulty("((1)+((((((4)))))))", 10);
    }

    /** Nothing of one text is left for the next. */
    private static void textAfterText() {
        BellGround x = ground();
        String[] texts = {"1+2*3", "9", "0?5", "-(1-8)", "d+", "", "(d", "8"};
        int[] loud = {7, 9, 0, 7, 7, 7, 7, 8};
        for (int k = 0; k < texts.length; k++) {
            Check.tell(x, texts[k]);
            due("by " + texts[k] + " after others", x.hum(0, 301, 4), loud[k]);
        }
    }

    private static void faultsLeaveTheLaw() {
        BellGround x = ground();
        int before = x.hum(0, 301, 4);
        due("by no text: 40 + 5 - 4 - 3 - 30 - 6 - 7 - 4, held", before, 0);
        due("near by no text: 45 - 6 - 7 - 4", x.hum(0, 803, 3), 28);
        due("no law yet", Check.tell(x, "d+"), -102);
        due("still by no text", x.hum(0, 803, 3), 28);
        due("a law", Check.tell(x, "11"), 1);
        due("by it", x.hum(0, 803, 3), 11);
        due("no other law", Check.tell(x, "22;"), -103);
        due("still by it", x.hum(0, 803, 3), 11);
        due("another law", Check.tell(x, "22"), 1);
        due("by the other", x.hum(0, 803, 3), 22);
    }

    private static void longTexts() {
        gives("0" + "?1;0".repeat(29) + "?6", 0);
        gives("0" + "?1;0".repeat(29) + ";9", 0);
        gives("0?1;1" + "+1".repeat(57), 58);
        gives("1" + "+1".repeat(59), 60);
        faulty("1" + "+1".repeat(59) + "+", 120);
        gives("0?1;".repeat(29) + "z*7", 42);
        gives("0|0&0<0+0*((0|0&0<0+0*((0|0&0<0+0*((5))))))", 0);
        gives("1+2*(1+2*(1+2*(1+2*(1+2*(1+2*1)))))", 99);
        gives("0+1*(0+1*(0+1*(0+1*(0+1*(0+1*7)))))", 7);
        gives("0|(0|(0|(0|(0|(0|z=6)))))", 1);
    }
}
