/** 'Terms', EXPR: ints that wrap, '/', what holds, where STAYS stays, what VALUES are at their bounds. */
public final class EdgesOfRulesTest {
    private static final int MAX = Integer.MAX_VALUE;
    private static final int MIN = Integer.MIN_VALUE;
    private static final String MOST = "(2147*1000*1000+483*1000+647)";
    private static final String LEAST = "(0-2147*1000*1000-483*1000-648)";
    private static final String MINUS_ONE = "(0-1)";

    private EdgesOfRulesTest() {
    }

    public static void main(String[] args) {
        intsThatWrap();
        cutDownToZero();
        byZero();
        testsAtTheirEdge();
        whatHolds();
        oneOrZero();
        aloneAsItIs();
        fromTheLeft();
        staysAboveZero();
        valuesOfStays();
        menOfStays();
        valuesOfLikes();
        alike();
        asLongAsCanBe();
        Checks.finish();
    }

    private static void gives(int due, String expr) {
        String text = "friend 7 0;likes " + expr + ";";
        Checks.same(text, due, Checks.landed(text).friend(0, 4));
    }

    private static void intsThatWrap() {
        gives(MAX, MOST);
        gives(MIN, LEAST);
        gives(MIN, MOST + "+1");
        gives(MAX - 1, MOST + "-1");
        gives(MAX, LEAST + "-1");
        gives(MIN + 1, LEAST + "+1");
        gives(-2, MOST + "+" + MOST);
        gives(0, LEAST + "+" + LEAST);
        gives(-2, MOST + "*2");
        gives(1, MOST + "*" + MOST);
        gives(0, LEAST + "*2");
        gives(MIN, LEAST + "*" + MINUS_ONE);
        gives(MIN, "0-" + LEAST);
        gives(9999 * 9999, "9999*9999");
        gives(9999 * 9999 * 22, "9999*9999*22");
        gives(0, "256*256*256*256");
        gives(MIN, "256*256*256*128");
    }

    private static void cutDownToZero() {
        gives(3, "7/2");
        gives(-3, "(0-7)/2");
        gives(-3, "7/(0-2)");
        gives(3, "(0-7)/(0-2)");
        gives(0, "1/2");
        gives(0, "(0-1)/2");
        gives(0, "9998/9999");
        gives(1, "9999/9999");
        gives(MIN, LEAST + "/" + MINUS_ONE);
        gives(MIN, LEAST + "/1");
        gives(-MAX, MOST + "/" + MINUS_ONE);
        gives(0, "0/5");
    }

    private static void byZero() {
        gives(0, "5/0");
        gives(0, "0/0");
        gives(0, "(0-5)/0");
        gives(0, LEAST + "/0");
        gives(1, "5/0+1");
        gives(0, "5/(3/0)");
        gives(0, "5/(lean-7)");
        gives(0, "8/0/0*9");
        gives(0, "1/(256*256*256*256)");
    }

    private static void testsAtTheirEdge() {
        gives(1, "1<2");
        gives(0, "2<2");
        gives(0, "3<2");
        gives(1, "2=2");
        gives(0, "1=2");
        gives(0, "3=2");
        gives(1, LEAST + "<" + MOST);
        gives(0, MOST + "<" + LEAST);
        gives(0, LEAST + "=" + MOST);
        gives(1, MOST + "+1<0");
        gives(1, MOST + "+1=" + LEAST);
        gives(1, "0-1<0");
        gives(0, "0<0-1");
    }

    private static void whatHolds() {
        gives(1, "1 and 1");
        gives(1, "2 and 4");
        gives(1, MINUS_ONE + " and " + MINUS_ONE);
        gives(1, LEAST + " and 1");
        gives(0, "1 and 0");
        gives(0, "0 and 1");
        gives(0, "0 and 0");
        gives(1, "0 or " + MINUS_ONE);
        gives(1, LEAST + " or 0");
        gives(1, "2 or 4");
        gives(0, "0 or 0");
        gives(0, "256*256*256*256 or 0");
        gives(0, "not 1");
        gives(0, "not 2");
        gives(0, "not " + MINUS_ONE);
        gives(0, "not " + LEAST);
        gives(1, "not 0");
        gives(1, "not 256*256*256*256");
    }

    private static void oneOrZero() {
        gives(1, "not not 9");
        gives(0, "not not not 9");
        gives(1, "not not not not not not 9");
        gives(2, "(3 or 0)+(5 and 5)");
        gives(11, "(4<5)*10+(not 0)");
        gives(1, "(3 or 4)=1");
        gives(1, "3<4 and 4=4 and not 5<4");
        gives(0, "not 3<4");
        gives(1, "not 4<3 or 0");
    }

    private static void aloneAsItIs() {
        gives(0, "0");
        gives(9999, "9999");
        gives(9999, "((9999))");
        gives(-5, "(((((0-5)))))");
        gives(7, "lean");
    }

    private static void fromTheLeft() {
        gives(-8, "1-4-5");
        gives(2, "1-4+5");
        gives(2, "100/10/5");
        gives(50, "100/10*5");
        gives(0, "1/2*2");
        gives(1, "2*1/2");
        gives(-98, "2-10*10");
        gives(1, "1 or 1 and 0");
        gives(0, "(1 or 1) and 0");
        gives(1, "0 and 0 or 1");
    }

    private static void staysAboveZero() {
        stays(false, "0");
        stays(true, "1");
        stays(true, "9999");
        stays(false, MINUS_ONE);
        stays(false, LEAST);
        stays(true, MOST);
        stays(false, MOST + "+1");
        stays(true, LEAST + "-1");
        stays(false, "5/0");
        stays(false, "year-1");
        stays(true, "year");
        stays(false, "1-year");
        stays(true, "2-year");
    }

    /** Whether BROTHER 0 STAYS behind YEAR 0, by a STAYS alone. */
    private static void stays(boolean due, String expr) {
        TurnBrothers x = Checks.landed("stays " + expr + ";");
        x.years(1);
        Checks.same("stayed by " + expr, due ? 1 : 0, x.count(8));
        Checks.same("who rules by " + expr, due ? 0 : 1, x.count(4));
    }

    /** At the end of YEAR 0 each VALUE is as the DEED and the HARVEST left it. */
    private static void valuesOfStays() {
        String edge = "city 999 99 999;deed 0 20 99 20;elder 0;stays ";
        String[] most = {"store=999", "walls=99", "debt=999", "glory=20", "year=1", "men=0"};
        for (String test : most) {
            Checks.same(test, 1, Checks.landed(edge + test + ";").then(1, 5) == 0 ? 1 : 0);
            Checks.same("not " + test, 1, Checks.landed(edge + "not " + test + ";").then(1, 5));
        }
        String low = "city 0 0 0;harvests 0;deed 0 -20 -99 -20;elder 0;stays ";
        String[] least = {"store=0", "walls=0", "debt=0", "glory=0-20", "year=1", "men=0"};
        for (String test : least) {
            Checks.same(test, 0, Checks.landed(low + test + ";").then(1, 5));
            Checks.same("not " + test, 1, Checks.landed(low + "not " + test + ";").then(1, 5));
        }
        TurnBrothers his = Checks.landed("deed 0 0 0 5;elder 0;stays year=2 and glory=0;");
        his.years(2);
        Checks.same("glory of him whose turn is done", 1, his.count(8));
        Checks.same("the younger one", 1, his.count(4));
    }

    private static void menOfStays() {
        String friends = "friend -1 9;friend 0 8;friend 1 7;friend 9 6;";
        TurnBrothers x = Checks.landed(friends + "stays year=1 and men=17 or year=3 and men=13;");
        x.years(3);
        Checks.same("men of the elder, then of the younger one", 2, x.count(8));
        Checks.same("who rules on", 1, x.count(4));
        x = Checks.landed(friends + "stays year=1 and men=13 or year=2 and men=17;");
        x.years(2);
        Checks.same("men of the other one", 0, x.count(8));
        Checks.same("all of 54", 0, Checks.landed("friend 0 9;".repeat(6) + "stays men=54;").then(1, 5));
        Checks.same("none of 54", 1, Checks.landed("friend 1 9;".repeat(6) + "stays men;").then(1, 5));
    }

    private static void valuesOfLikes() {
        TurnBrothers x = Checks.landed("city 999 0 998;likes store+1000*(debt-998);friend 0 1;");
        Checks.same("store and debt for 0", 999, x.friend(0, 3));
        Checks.same("store and debt for 1", 999, x.friend(0, 4));
        for (int lean = -9; lean <= 9; lean++) {
            TurnBrothers y = Checks.landed("likes lean;friend " + lean + " 1;");
            Checks.same("lean for 0", -lean, y.friend(0, 3));
            Checks.same("lean for 1", lean, y.friend(0, 4));
            Checks.same("follows by lean", lean > 0 ? 1 : 0, y.friend(0, 2));
        }
        TurnBrothers z = Checks.landed("likes rules;friend 0 1;");
        for (int year = 0; year < 4; year++) {
            Checks.same("rules for 0", 1 - year % 2, z.friend(0, 3));
            Checks.same("rules for 1", year % 2, z.friend(0, 4));
            Checks.same("follows him who rules", year % 2, z.friend(0, 2));
            z.years(1);
        }
        TurnBrothers glory = Checks.landed("likes glory;friend 0 1;deed 0 0 0 20;deed 0 0 0 -20;elder 0;younger 1;");
        glory.years(4);
        Checks.same("glory of 0", 40, glory.friend(0, 3));
        Checks.same("glory of 1", -40, glory.friend(0, 4));
    }

    private static void alike() {
        Checks.same("alike", 0, Checks.landed("likes 5;friend 9 1;").friend(0, 2));
        Checks.same("one more for 1", 1, Checks.landed("likes 5+(0<lean);friend 9 1;").friend(0, 2));
        Checks.same("one more for 0", 0, Checks.landed("likes 5+(0<lean);friend -9 1;").friend(0, 2));
        // the difference of both would wrap
        String far = "likes (0<lean)*" + MOST + "+(lean<0)*" + LEAST + ";friend ";
        Checks.same("the most for 1, the least for 0", 1, Checks.landed(far + "1 1;").friend(0, 2));
        Checks.same("the least for 1, the most for 0", 0, Checks.landed(far + "-1 1;").friend(0, 2));
    }

    /** 700 bytes of rules: all of it counts. */
    private static void asLongAsCanBe() {
        String stays = "stays " + "1+".repeat(166) + "1=167;";
        String likes = "likes " + "1+".repeat(161) + "lean;";
        String text = stays + likes + "friend 9 9;";
        text += " ".repeat(700 - text.length());
        TurnBrothers x = Checks.landed(text);
        Checks.same("the whole of likes", 170, x.friend(0, 4));
        Checks.same("the whole of stays", 1, x.stays(0));
        StringBuilder parts = new StringBuilder("friend 1 1;likes 1");
        while (parts.length() < 697) {
            parts.append("-1");
        }
        parts.append(" ".repeat(699 - parts.length())).append(';');
        Checks.same("a row of parts", 1 - (parts.indexOf(" ;") - 18) / 2, Checks.landed(parts.toString()).friend(0, 3));
        String deep = "1 or 0 and 0=0+1*";
        String all = (deep + "(not not ").repeat(5) + deep + "1" + ")".repeat(5);
        gives(1, all);
    }
}
