/** 'Terms', TOKENS: each byte that there is, the longest row of letters, 1 to 4 digits, blanks, 700 bytes. */
public final class EdgesOfTokensTest {
    private static final String SIGNS = ";()+-*/<=";

    private EdgesOfTokensTest() {
    }

    public static void main(String[] args) {
        eachByteAlone();
        eachByteBehindAWord();
        eachByteBetweenNumbers();
        eachByteAsAPart();
        theLongestRow();
        eachLetterOfAWord();
        digits();
        digitsOfRules();
        fiveDigitsWhereNoNumberStands();
        blanks();
        blanksAtTheEnd();
        sevenHundred();
        theTape();
        onlyTheFirstBytes();
        Checks.finish();
    }

    private static boolean isBlank(int b) {
        return b == 32 || b == 10;
    }

    private static boolean isLetter(int b) {
        return b >= 97 && b <= 122;
    }

    private static boolean isDigit(int b) {
        return b >= 48 && b <= 57;
    }

    private static void fault(String text, int fault, int place) {
        TurnBrothers x = new TurnBrothers();
        Checks.same("land of " + text, fault, Checks.land(x, text));
        Checks.same("place in " + text, place, x.fault());
    }

    private static void eachByteAlone() {
        for (int b = 0; b < 256; b++) {
            boolean blank = isBlank(b);
            fault(String.valueOf((char) b), blank ? 0 : 1, blank ? -1 : 0);
            fault("term 2;" + (char) b, blank ? 0 : 1, blank ? -1 : 7);
        }
    }

    private static void eachByteBehindAWord() {
        for (int b = 0; b < 256; b++) {
            String text = "term" + (char) b + "1;";
            if (isBlank(b) || b == '0') {
                fault(text, 0, -1);
            } else if (isLetter(b)) {
                fault(text, 1, 0);
            } else {
                fault(text, isDigit(b) ? 2 : 1, 4);
            }
        }
    }

    private static void eachByteBetweenNumbers() {
        for (int b = 0; b < 256; b++) {
            String text = "stays 1" + (char) b + "1;";
            if (isDigit(b) || b == '+' || b == '-' || b == '*' || b == '/' || b == '<' || b == '=') {
                fault(text, 0, -1);
            } else {
                fault(text, 1, isBlank(b) || b == ';' ? 8 : 7);
            }
        }
    }

    private static void eachByteAsAPart() {
        for (int b = 0; b < 256; b++) {
            String text = "likes " + (char) b + ";";
            if (isDigit(b)) {
                fault(text, 0, -1);
            } else if (isLetter(b)) {
                fault(text, 3, 6);
            } else {
                fault(text, 1, isBlank(b) || b == '(' ? 7 : 6);
            }
        }
        for (int i = 0; i < SIGNS.length(); i++) {
            fault("term " + SIGNS.charAt(i) + "1;", 1, 5);
        }
    }

    private static void theLongestRow() {
        fault("termterm 1;", 1, 0);
        fault("terms 1;", 1, 0);
        fault("ter 1;", 1, 0);
        fault("t erm 1;", 1, 0);
        fault("term1;", 0, -1);
        fault("term 1x;", 1, 6);
        fault("stays 1or 1;", 0, -1);
        fault("stays 1or1and1;", 0, -1);
        fault("stays not1;", 0, -1);
        fault("stays notyear;", 3, 6);
        fault("stays yearor 1;", 3, 6);
        fault("stays year1;", 1, 10);
        fault("stays1;", 0, -1);
        fault("staysyear;", 1, 0);
        fault("stays year-year<year;", 0, -1);
        fault("stays yea r;", 3, 6);
        fault("deed1 2 3 4;elder0;", 0, -1);
        fault("city1 2 3;city", 5, 10);
        fault("a".repeat(700), 1, 0);
        fault("stays " + "a".repeat(694), 3, 6);
    }

    /** Another letter at any place, one fewer, one more: no such word. */
    private static void eachLetterOfAWord() {
        String[] lines = {"city 1 1 1;", "deed 1 1 1 1;", "elder 0;", "younger 0;", "harvests 1;", "term 1;", "friend 1 1;",
            "champion 1 1;", "gate 1 1;", "stays 1;", "likes 1;"};
        for (String line : lines) {
            String word = line.substring(0, line.indexOf(' '));
            String behind = line.substring(word.length());
            fault("deed 0 0 0 0;" + line, 0, -1);
            for (String other : spoilt(word)) {
                fault("deed 0 0 0 0;" + other + behind, 1, 13);
            }
        }
        for (String value : "store walls debt glory year men".split(" ")) {
            fault("stays " + value + ";", 0, -1);
            for (String other : spoilt(value)) {
                fault("stays " + other + ";", 3, 6);
            }
        }
        for (String value : "glory rules lean store debt".split(" ")) {
            fault("likes " + value + ";", 0, -1);
            for (String other : spoilt(value)) {
                fault("likes " + other + ";", 3, 6);
            }
        }
        for (String word : "and or".split(" ")) {
            fault("stays 1 " + word + " 1;", 0, -1);
            for (String other : spoilt(word)) {
                fault("stays 1 " + other + " 1;", 1, 8);
            }
        }
        for (String other : spoilt("not")) {
            fault("stays " + other + " 1;", 3, 6);
        }
    }

    private static String[] spoilt(String word) {
        String[] others = new String[2 * word.length() + 5];
        for (int i = 0; i < word.length(); i++) {
            char letter = word.charAt(i) == 'q' ? 'z' : 'q';
            others[2 * i] = word.substring(0, i) + letter + word.substring(i + 1);
            others[2 * i + 1] = word.substring(0, i) + word.charAt(i) + word.substring(i);
        }
        int at = 2 * word.length();
        others[at] = word + "q";
        others[at + 1] = "q" + word;
        others[at + 2] = word.substring(1);
        others[at + 3] = word.substring(0, word.length() - 1);
        others[at + 4] = word + word;
        return others;
    }

    private static void digits() {
        for (int many = 1; many <= 40; many++) {
            String number = "0".repeat(many - 1) + "3";
            fault("term " + number + ";", many <= 4 ? 0 : 2, many <= 4 ? -1 : 5);
            fault("friend 1 " + number + ";", many <= 4 ? 0 : 2, many <= 4 ? -1 : 9);
        }
        fault("term 10000;", 2, 5);
        fault("term 65537;", 2, 5);
        fault("term 4294967297;", 2, 5);
        fault("term 18446744073709551617;", 2, 5);
        fault("city 99999 0 0;", 2, 5);
        fault("term 1 2;", 1, 7);
    }

    private static void digitsOfRules() {
        for (int many = 1; many <= 20; many++) {
            fault("stays " + "9".repeat(many) + ";", many <= 4 ? 0 : 2, many <= 4 ? -1 : 6);
            fault("likes 1+(" + "0".repeat(many) + ");", many <= 4 ? 0 : 2, many <= 4 ? -1 : 9);
        }
        TurnBrothers x = Checks.landed("likes 9999;friend 1 1;");
        Checks.same("four digits", 9999, x.friend(0, 3));
        Checks.same("zeros ahead", 7, Checks.landed("likes 0007;friend 1 1;").friend(0, 3));
    }

    private static void fiveDigitsWhereNoNumberStands() {
        fault("12345", 1, 0);
        fault("term 1;12345;", 1, 7);
        fault("term 1 12345;", 1, 7);
        fault("city 1 2 3 12345;", 1, 11);
        fault("deed 1 2 3 4 12345;", 1, 13);
        fault("friend 1 2 12345;", 1, 11);
        fault("gate 1 2 12345;", 1, 9);
        fault("champion 1 2 12345;", 1, 13);
        fault("stays 1 12345;", 1, 8);
        fault("stays (1)12345;", 1, 9);
        fault("stays year 12345;", 1, 11);
    }

    private static void blanks() {
        fault("\n\n term \n 1 \n;\n", 0, -1);
        fault("city 1 2 3;\n\n deed 1-2-3-4;", 0, -1);
        fault("friend - \n 9 9;", 0, -1);
        fault("stays\n(\n1\n)\n+\n1\n;", 0, -1);
        fault("stays 1 + 2*3<4 or( year );", 0, -1);
        fault("term\r1;", 1, 4);
        fault("term\t1;", 1, 4);
        fault("term 1; \f", 1, 8);
        fault("term 1;\u00a0", 1, 7);
        fault("   term 6;", 2, 8);
        fault("\n\n\nx", 1, 3);
    }

    private static void blanksAtTheEnd() {
        fault("", 0, -1);
        fault(" ", 0, -1);
        fault("term", 1, 4);
        fault("term ", 1, 5);
        fault("term \n\n ", 1, 8);
        fault("term 1 ", 1, 7);
        fault("term 1;", 0, -1);
        fault("term 1; ", 0, -1);
        fault("stays 1 and \n", 1, 13);
        fault("deed 0 -  ", 1, 10);
    }

    private static void sevenHundred() {
        fault("term 1" + " ".repeat(693) + ";", 0, -1);
        fault("term 1;" + " ".repeat(693), 0, -1);
        fault(" ".repeat(693) + "term 1;", 0, -1);
        fault("term 1" + " ".repeat(694), 1, 700);
        fault(" ".repeat(694) + "term 1", 1, 700);
        fault(" ".repeat(695) + "term2", 1, 700);
        fault(" ".repeat(699) + "!", 1, 699);
        fault(" ".repeat(700), 0, -1);
        fault("stays " + "1+".repeat(346) + "1;", 0, -1);
        fault("stays " + "1+".repeat(347), 1, 700);
        fault("term " + "1".repeat(695), 2, 5);
    }

    private static void theTape() {
        TurnBrothers x = new TurnBrothers();
        for (int many = 20; many <= 700; many += 20) {
            Checks.same("feed", many, x.feed(0x20202020, 0x0a0a0a0a, 0, -1, Integer.MIN_VALUE));
            Checks.same("the tape", many, x.count(15));
        }
        int[] before = Checks.state(x);
        Checks.same("feed above 700", -1, x.feed(1, 2, 3, 4, 5));
        Checks.stayed("behind a feed above 700", before, x);
        Checks.illegalAt(x, "land of 701", () -> x.land(701));
        Checks.illegalAt(x, "land of -1", () -> x.land(-1));
        Checks.same("land of none", 0, x.land(0));
        Checks.same("the tape is empty", 0, x.count(15));
        Checks.illegalAt(x, "land of 1 of 0", () -> x.land(1));
        Checks.same("feed of an empty one", 20, x.feed(0x7465726d, 0x20343b2f, 0, 0, 0));
        Checks.illegalAt(x, "land of 21 of 20", () -> x.land(21));
        Checks.illegalAt(x, "land of the most", () -> x.land(Integer.MAX_VALUE));
        Checks.illegalAt(x, "land of the least", () -> x.land(Integer.MIN_VALUE));
        Checks.same("land of 8 bytes", 1, x.land(8));
        Checks.same("the eighth is no line", 7, x.fault());
        x.feed(0x7465726d, 0x20343b2f, 0, 0, 0);
        Checks.same("land of 7 bytes", 0, x.land(7));
        Checks.same("its term", 4, x.count(6));
        x.feed(0x20202020, 0x20202020, 0x20202020, 0x20202020, 0x2020203b);
        Checks.same("land of all of it", 1, x.land(20));
        Checks.same("the twentieth", 19, x.fault());
    }

    /** Of each number the highest first: twenty bytes, each of them where it should be. */
    private static void onlyTheFirstBytes() {
        String text = "term 1;term 2;term 3";
        for (int n = 0; n <= 20; n++) {
            TurnBrothers x = new TurnBrothers();
            x.term(5);
            Checks.feed(x, text);
            int fault = n <= 7 && n % 7 == 0 ? 0 : n < 11 ? 1 : 5;
            Checks.same("land of " + n + " bytes", fault, x.land(n));
            Checks.same("its place", fault == 0 ? -1 : placeIn(n), x.fault());
            Checks.same("the tape is empty", 0, x.count(15));
            Checks.same("the term", fault == 0 ? 1 : 5, x.count(6));
        }
    }

    /** A word cut short is at its first byte, a line cut short at the text's length. */
    private static int placeIn(int n) {
        if (n < 4) {
            return 0;
        }
        return n < 7 ? n : 7;
    }
}
