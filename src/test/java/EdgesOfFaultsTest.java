/** 'Terms', FAULTS: each of them, the first along the text, of one TOKEN the least. */
public final class EdgesOfFaultsTest {
    /** Each LINE, its TOKENS apart; what must stand ahead of it. N: a NUMBER, S: one with '-' perhaps. */
    private static final String[] LINES = {"city N N N", "deed N S S S", "harvests N", "term N", "friend S N",
        "champion N N", "gate N N"};
    private static final String[] WORDS = {"city", "deed", "elder", "younger", "harvests", "term", "friend", "champion",
        "gate", "stays", "likes", "or", "and", "not", "store", "walls", "debt", "glory", "year", "men", "rules", "lean",
        "a", "z", "xyz"};
    private static final String STAYS = " store walls debt glory year men ";
    private static final String LIKES = " glory rules lean store debt ";
    private static final String DEED = "deed 0 0 0 0;";

    private static TurnBrothers x;

    private EdgesOfFaultsTest() {
    }

    public static void main(String[] args) {
        x = Checks.landed(LandTest.CITY);
        x.years(2);
        x.gift(1, 2);
        x.see(3, 40);
        x.image();
        whatBeginsALine();
        whatStandsForEachNumber();
        whatEndsEachLine();
        tooSoon();
        tooSoonInRules();
        seconds();
        secondsElsewhere();
        deedsToldAhead();
        wordsAsParts();
        wordsBehindParts();
        withinSixOthers();
        withinFiveOthers();
        sevenNots();
        theFirstAlongTheText();
        ofOneTokenTheLeast();
        Checks.same("the image is there behind all faults", true, x.restore());
        Checks.same("and an act", 1, x.undo());
        Checks.finish();
    }

    private static void fault(String text, int fault, int place) {
        Checks.fault(x, text, fault, place);
    }

    /** A TEXT without a FAULT, told to another object: what stands stays as it is. */
    private static void good(String text) {
        Checks.landed(text);
    }

    private static void whatBeginsALine() {
        for (String word : WORDS) {
            boolean begins = " city deed elder younger harvests term friend champion gate stays likes ".contains(" " + word + " ");
            fault(word, 1, begins ? word.length() : 0);
            fault("term 1;" + word + ";", word.equals("term") ? 5 : 1, begins && !word.equals("term") ? 7 + word.length() : 7);
        }
        for (String token : new String[] {"0", "9999", "12345", ";", "(", ")", "+", "-", "*", "/", "<", "=", "!", "A"}) {
            fault(token, 1, 0);
            fault("term 1;" + token, 1, 7);
            fault(token + "term 1;", 1, 0);
        }
    }

    /** What can't stand for the k-th NUMBER of a LINE is fault 1 there. */
    private static void whatStandsForEachNumber() {
        for (String line : LINES) {
            String[] tokens = line.split(" ");
            String ahead = tokens[0] + " ";
            for (int i = 1; i < tokens.length; i++) {
                for (String word : WORDS) {
                    fault(ahead + word, 1, ahead.length());
                }
                for (String sign : new String[] {";", "(", ")", "+", "*", "/", "<", "=", "!", "_", "#"}) {
                    fault(ahead + sign + "1", 1, ahead.length());
                }
                if (tokens[i].equals("S")) {
                    fault(ahead + "- -1", 1, ahead.length() + 2);
                    fault(ahead + "-term", 1, ahead.length() + 1);
                    fault(ahead + "-;", 1, ahead.length() + 1);
                } else {
                    fault(ahead + "-1", 1, ahead.length());
                }
                fault(ahead + "12345", 2, ahead.length());
                ahead += "1 ";
            }
        }
    }

    private static void whatEndsEachLine() {
        for (String line : LINES) {
            String text = line.replace('N', '1').replace('S', '2') + " ";
            for (String word : WORDS) {
                fault(text + word, 1, text.length());
            }
            for (String sign : new String[] {"(", ")", "+", "-", "*", "/", "<", "=", "!", ":"}) {
                fault(text + sign + ";", 1, text.length());
            }
            if (!line.startsWith("harvests")) {
                fault(text + "1;", 1, text.length());
                fault(text + "12345;", 1, text.length());
            }
            fault(text + ";;", 1, text.length() + 1);
            good(text + ";");
        }
    }

    /** Where a LINE ends too soon, the FAULT is at the text's length, blanks and all. */
    private static void tooSoon() {
        String[] whole = {"city 1 2 3", "deed 1 2 3 4", "deed 1 - 2 - 3 - 4", "harvests 1 2 3", "term 1", "friend 1 2",
            "friend - 1 2", "champion 1 2", "gate 1 2"};
        for (String line : whole) {
            cutShort("", line);
            cutShort("deed 1 1 1 1 ; ", line);
        }
        cutShort(DEED, "elder 0 0 0 0 0 0");
        cutShort(DEED, "younger 0 0");
    }

    private static void cutShort(String ahead, String line) {
        String text = ahead;
        for (String token : line.split(" ")) {
            text += token;
            fault(text, 1, text.length());
            fault(text + " \n", 1, text.length() + 2);
            text += " ";
        }
    }

    private static void tooSoonInRules() {
        cutShort("", "stays ( not 1 + store * ( 2 - debt ) / 3 < 4 and not not walls or year = men )");
        cutShort("term 1;", "likes ( ( ( ( ( glory + 1 ) = 2 ) < rules ) or lean ) and store ) - debt");
    }

    private static void seconds() {
        String[] once = {"city 1 2 3;", "elder 0;", "younger 0;", "harvests 1;", "term 1;", "stays 1;", "likes 1;"};
        for (String line : once) {
            String word = line.substring(0, line.indexOf(' '));
            for (String other : once) {
                String text = DEED + line + (other.equals(line) ? "" : other);
                fault(text + word, 5, text.length());
                fault(text + line, 5, text.length());
                fault(text + "\n" + word + " 12345;", 5, text.length() + 1);
                fault(text + word + word, 1, text.length());
            }
        }
        good(DEED + String.join("", once));
        for (String line : new String[] {"deed 1 1 1 1;", "friend 1 1;", "champion 1 1;", "gate 1 1;"}) {
            good(line + line);
        }
        good("city 1 1 1;");
    }

    /** A second one is fault 5 only where one could stand. */
    private static void secondsElsewhere() {
        fault("city 1 2 3;term city", 1, 16);
        fault("city 1 2 city", 1, 9);
        fault("city 1 2 3 city", 1, 11);
        fault("term term", 1, 5);
        fault("stays 1 stays", 1, 8);
        fault("stays stays", 3, 6);
        fault("stays 1;likes stays;", 3, 14);
        fault("likes 1;stays 1+likes", 3, 16);
        fault(DEED + "elder 0 elder", 1, 21);
        fault(DEED + "elder elder", 1, 19);
        fault("harvests 1 harvests", 1, 11);
        // a LINE with a FAULT ends the TEXT: of the next TEXT it is the first
        fault("city 1 2 3;city", 5, 11);
        good("city 1 2 3;");
    }

    private static void deedsToldAhead() {
        fault("elder 0;", 3, 6);
        fault("elder 0;deed 0 0 0 0;", 3, 6);
        fault("younger 6;", 3, 8);
        fault(DEED + "elder 1;", 3, 19);
        fault(DEED + "elder 0 1;", 3, 21);
        fault(DEED + "elder 0 0 0 0 0 1;", 3, 29);
        fault(DEED + "elder 1;" + DEED, 3, 19);
        fault(DEED.repeat(7) + "elder 7;", 3, 97);
        fault(DEED.repeat(7) + "elder 8;", 3, 97);
        fault(DEED.repeat(7) + "younger 9999;", 3, 99);
        good(DEED.repeat(7) + "elder 6;younger 0006;");
        good(DEED + "elder 0;" + DEED + "younger 1 0;");
        fault(DEED + "elder 0;" + DEED + "younger 1 0 2;", 3, 46);
    }

    private static void wordsAsParts() {
        String[] ahead = {"", "1+", "1-", "1*", "1/", "1<", "1=", "(", "not ", "1 and ", "1 or ", "(1+(", "not not (not "};
        for (String before : ahead) {
            boolean maySayNot = !before.endsWith("+") && !before.endsWith("-") && !before.endsWith("*")
                    && !before.endsWith("/") && !before.endsWith("<") && !before.endsWith("=");
            for (String word : WORDS) {
                int at = 6 + before.length();
                asAPart("stays " + before, word, STAYS, maySayNot, at);
                asAPart("likes " + before, word, LIKES, maySayNot, at);
            }
        }
    }

    private static void asAPart(String ahead, String word, String values, boolean maySayNot, int at) {
        if (values.contains(" " + word + " ") || maySayNot && word.equals("not")) {
            // behind it the TEXT ends too soon
            fault(ahead + word, 1, at + word.length());
        } else {
            fault(ahead + word, 3, at);
            fault(ahead + word + " 1;", 3, at);
        }
    }

    private static void wordsBehindParts() {
        for (String part : new String[] {"1", "store", "(1)", "not 1", "1+1", "1<2"}) {
            String text = "stays " + part + " ";
            for (String word : WORDS) {
                if (word.equals("and") || word.equals("or")) {
                    good(text + word + " 1;");
                } else {
                    fault(text + word + ";", 1, text.length());
                }
            }
            fault(text + "7;", 1, text.length());
            fault(text + "(1);", 1, text.length());
            fault(text + ");", 1, text.length());
        }
        fault("stays 1<2<3;", 1, 9);
        fault("stays 1=2=3;", 1, 9);
        fault("stays 1<2=3;", 1, 9);
        good("stays (1<2)<3;");
        good("stays 1<(2=3) and 1<2;");
        fault("stays 1<=2;", 1, 8);
        fault("stays ();", 1, 7);
        fault("stays (1;", 1, 8);
        fault("stays (1));", 1, 9);
    }

    private static void withinSixOthers() {
        String[] ahead = {"stays ((((((", "likes ((((((", "stays 1+(2-(3*(4/(5<(6=(", "stays not(not(not(not(not(not(",
            "stays 1 or(1 and(1 or(1 and(1 or(1 and(", "stays (((((1)))))+((((((", "stays (1)+(1)+(1)+(1)+(1)+(1)+((((((" };
        for (String text : ahead) {
            for (String word : WORDS) {
                fault(text + word, 2, text.length());
            }
            for (String token : new String[] {"0", "9999", "12345", "(", "((", "()", "not not"}) {
                fault(text + token, 2, text.length());
                fault(text + " " + token + "))))));", 2, text.length() + 1);
            }
            for (String sign : new String[] {")", ";", "+", "-", "*", "/", "<", "=", "!", "A", "%"}) {
                fault(text + sign, 1, text.length());
            }
            fault(text, 1, text.length());
            fault(text + "  ", 1, text.length() + 2);
        }
    }

    private static void withinFiveOthers() {
        good("stays (((((1)))));");
        good("likes (((((glory)))));");
        good("stays (((((not store)))));");
        good("stays 1+(2-(3*(4/(5<(6)))));");
        good("stays not(not(not(not(not(not 1)))));");
        good("stays (((((1)))))+(((((2)))))*(((((3)))));");
        good("stays (((((1)))));likes (((((1)))));");
        fault("stays (((((1));", 1, 14);
        fault("stays (((((1))))));", 1, 17);
    }

    private static void sevenNots() {
        String six = "not ".repeat(6);
        good("stays " + six + "1;");
        good("likes " + six + "glory;");
        fault("stays " + six + "not 1;", 2, 30);
        fault("stays " + six + "not", 2, 30);
        fault("stays " + six + "not not 1;", 2, 30);
        fault("stays " + six + "not 12345;", 2, 30);
        fault("stays " + six + "nots", 3, 30);
        fault("stays " + six + "lean", 3, 30);
        fault("stays " + six + ";", 1, 30);
        fault("stays " + six, 1, 30);
        fault("stays " + six + "12345", 2, 30);
        good("stays " + six + "(" + six + "1);");
        fault("stays " + six + "(" + six + "not 1);", 2, 55);
        good("stays " + six + "1 and " + six + "1 or " + six + "1;");
        fault("stays " + six + "1 and " + six + "not 1;", 2, 60);
        fault("stays " + six + "1 or " + six + "not 1;", 2, 59);
        fault("likes not not\nnot not not not   not 1;", 2, 32);
        // within five others six of them, within six others none
        good("stays (((((" + six + "1)))));");
        fault("stays (((((" + six + "not 1)))));", 2, 35);
        fault("stays ((((((not", 2, 12);
    }

    private static void theFirstAlongTheText() {
        fault("city 1000 100 1000;", 2, 5);
        fault("city 1 100 1000;", 2, 7);
        fault("city 1 1 1000", 2, 9);
        fault("city 1 1;city 1000", 1, 8);
        fault("elder 0;term 6;", 3, 6);
        fault("term 6;elder 0;", 2, 5);
        fault("term 1;term 6;", 5, 7);
        fault("stays x;stays 1;", 3, 6);
        fault("stays 1;stays x;", 5, 8);
        fault("stays 12345+x;", 2, 6);
        fault("stays x+12345;", 3, 6);
        fault("stays ((((((1;", 2, 12);
        fault("stays (x((((((1;", 3, 7);
        fault(DEED + "elder 0 1 12345;", 3, 21);
        fault(DEED + "elder 0 12345 1;", 2, 21);
        fault(DEED.repeat(7) + "elder 7;" + DEED, 3, 97);
        fault(DEED.repeat(8) + "elder 7;", 2, 91);
        fault("harvests 100 1 1 1 1 1 1 1 1 1 1;", 2, 9);
        fault("friend 10 10;", 2, 7);
        fault("friend -10 10;", 2, 8);
        fault("! city", 1, 0);
        fault("term 1;!term", 1, 7);
    }

    private static void ofOneTokenTheLeast() {
        // 1 ahead of 2: five digits where no NUMBER can stand
        fault("term 1 12345;", 1, 7);
        fault("stays 1 12345;", 1, 8);
        fault("12345;", 1, 0);
        // 2 ahead of 3: five digits, or the seventh DEED of a WAY, that isn't told
        fault("elder 12345;", 2, 6);
        fault(DEED + "elder 0 0 0 0 0 0 1;", 2, 31);
        fault(DEED + "elder 0 0 0 0 0 0 9999;", 2, 31);
        fault(DEED + "younger 0 0 0 0 0 12345;", 2, 31);
        // 2 ahead of 3: a word that is no VALUE, where an EXPR within six others would begin
        fault("stays ((((((lean", 2, 12);
        fault("likes ((((((walls", 2, 12);
        fault("stays ((((((or", 2, 12);
        // 1 ahead of 5: a second one where none can stand
        fault("city 1 2 3;term city", 1, 16);
        // 3 ahead of 5
        fault("stays 1;likes stays", 3, 14);
        // 2 alone: the eighth of a kind isn't a second one
        fault("gate 1 1;".repeat(8), 2, 63);
        fault("harvests 1 1 1 1 1 1 1 1 1 1 12345;", 2, 29);
    }
}
