/** Promises 1 to 9, and the language: the tape, LANDS, their FAULTS, what is there. */
public final class LandTest {
    static final String CITY = "city 30 25 10;deed 10 5 0 3;deed 40 -3 20 8;deed 0 0 -5 1;elder 0 1;younger 2;"
            + "harvests 20 5;term 2;friend -3 4;friend 2 5;friend 0 1;"
            + "champion 12 1;champion 8 2;gate 9 1;gate 7 0;stays 0;";

    private LandTest() {
    }

    public static void main(String[] args) {
        promise1();
        promise2();
        promise3();
        promise3Defaults();
        promise3Bounds();
        faultsOfLines();
        faultsOfTooMany();
        faultsOfRules();
        promise4();
        promise5();
        promise6();
        promise7();
        promise8();
        promise9();
        rules();
        ruleValues();
        Checks.finish();
    }

    private static void promise1() {
        TurnBrothers x = new TurnBrothers();
        int[] due = {50, 20, 0, 0, 0, 0, 1, 0, 0, 0, 0, 0, 0, 0, 0, 0, 0, 0, 0};
        for (int what = 0; what < due.length; what++) {
            Checks.same("new count " + what, due[what], x.count(what));
        }
        Checks.same("new fault", -1, x.fault());
        Checks.same("new restore", false, x.restore());
        Checks.same("new undo", -1, x.undo());
        Checks.noSuch("new deed", () -> x.deed(0, 0));
        Checks.noSuch("new friend", () -> x.friend(0, 0));
        Checks.noSuch("new way", () -> x.way(0, 0));
        int[] none = {0, 0, 0, 0, 0, -1};
        for (int what = 0; what < none.length; what++) {
            Checks.same("new brother 0, " + what, none[what], x.brother(0, what));
            Checks.same("new brother 1, " + what, none[what], x.brother(1, what));
        }
    }

    private static void promise2() {
        TurnBrothers x = new TurnBrothers();
        Checks.same("feed", 20, x.feed(0x7465726d, 0x20333b20, 0x20202020, 0x0a0a0a0a, 0x20202020));
        Checks.same("land of the highest bytes first", 0, x.land(7));
        Checks.same("the term told", 3, x.count(6));
        for (int i = 1; i <= 35; i++) {
            Checks.same("feed " + i, 20 * i, x.feed(-1, -1, -1, -1, -1));
        }
        Checks.same("feed above 700", -1, x.feed(0x20202020, 0, 0, 0, 0));
        Checks.same("none come", 700, x.count(15));
        Checks.same("bytes below 0 are no tokens", 1, x.land(700));
        Checks.same("at the first", 0, x.fault());
        Checks.same("the tape is empty", 0, x.count(15));
        Checks.same("feed again", 20, x.feed(0, 0, 0, 0, 0));
    }

    private static void promise3() {
        TurnBrothers x = Checks.landed(CITY);
        x.years(3);
        x.see(4, 5);
        x.image();
        x.years(21);
        x.see(0, 0);
        Checks.feed(x, "city 1 2 3;deed 1 1;");
        Checks.illegal("land of too many", () -> x.land(21));
        Checks.illegal("land of fewer than none", () -> x.land(-1));
        Checks.illegal("land of the least", () -> x.land(Integer.MIN_VALUE));
        Checks.same("the tape stays", 20, x.count(15));
        Checks.same("no fault yet", -1, x.fault());
        Checks.same("land with a fault", 1, x.land(20));
        Checks.same("its place", 19, x.fault());
        Checks.same("the tape is empty", 0, x.count(15));
        Checks.same("all else stays: store", 25, x.count(0));
        Checks.same("all else stays: year", 3, x.count(3));
        Checks.same("all else stays: deeds", 3, x.count(9));
        Checks.same("all else stays: acts", 1, x.count(13));
        Checks.same("all else stays: seen", 1, x.count(14));
        Checks.same("status 0", 1, x.count(16));
        Checks.same("status 1", 1, x.count(17));
        Checks.same("status 2", 1, x.count(18));
        Checks.same("the image stays", true, x.restore());
        Checks.same("another land", 0, Checks.land(x, "city 1 2 3;"));
        int[] due = {1, 2, 3, 0, 0, 0, 1, 0, 0, 0, 0, 0, 0, 0, 0, 0, 1, 1, 1};
        for (int what = 0; what < due.length; what++) {
            Checks.same("count behind another land " + what, due[what], x.count(what));
        }
        Checks.same("the image is gone", false, x.restore());
        Checks.same("the acts are gone", -1, x.undo());
        Checks.same("no fault", -1, x.fault());
        Checks.same("glory anew", 0, x.brother(0, 0));
        Checks.same("no way anew", 0, x.brother(0, 2));
        Checks.same("harvests anew", 21, x.then(1, 0));
    }

    private static void promise3Defaults() {
        TurnBrothers x = Checks.landed(CITY);
        Checks.feed(x, "city 1 2 3;junk");
        Checks.same("only the first bytes", 0, x.land(11));
        Checks.same("the first bytes' store", 1, x.count(0));
        Checks.same("an empty text", 0, x.land(0));
        Checks.same("store without", 50, x.count(0));
        Checks.same("walls without", 20, x.count(1));
        Checks.same("debt without", 0, x.count(2));
        Checks.same("term without", 1, x.count(6));
        Checks.same("harvest without", 70, x.then(1, 0));
        Checks.same("blanks alone", 0, Checks.land(x, " \n \n"));
        Checks.same("any order", 0, Checks.land(x, "term\n2 ;friend 1 1;\nstays men;city 7 8 9;"));
        Checks.same("its term", 2, x.count(6));
        Checks.same("a minus of its own", 0, Checks.land(x, "deed 0 - 20-99 -0;friend-9 9;"));
        Checks.same("builds", -20, x.deed(0, 1));
        Checks.same("owes", -99, x.deed(0, 2));
        Checks.same("glory", 0, x.deed(0, 3));
        Checks.same("lean", -9, x.friend(0, 0));
        Checks.same("zeros ahead", 0, Checks.land(x, "city 0999 0099 0000;"));
        Checks.same("999", 999, x.count(0));
    }

    private static void promise3Bounds() {
        TurnBrothers x = Checks.landed("city 999 99 999;deed 99 20 99 20;deed 0 -20 -99 -20;elder 0 1 0 1 0 1;"
                + "younger 1;harvests 0 99 1 2 3 4 5 6 7 8;term 5;friend 9 9;friend -9 0;champion 20 3;gate 20 3;");
        Checks.same("walls", 99, x.count(1));
        Checks.same("debt", 999, x.count(2));
        Checks.same("way", 6, x.brother(0, 2));
        Checks.same("term", 5, x.count(6));
        x.land(0);
        fault(x, "city 1000 0 0;", 2, 5);
        fault(x, "city 0 100 0;", 2, 7);
        fault(x, "city 0 0 1000;", 2, 9);
        fault(x, "deed 100 0 0 0;", 2, 5);
        fault(x, "deed 0 21 0 0;", 2, 7);
        fault(x, "deed 0 -21 0 0;", 2, 8);
        fault(x, "deed 0 0 100 0;", 2, 9);
        fault(x, "deed 0 0 -100 0;", 2, 10);
        fault(x, "deed 0 0 0 21;", 2, 11);
        fault(x, "deed 0 0 0 -21;", 2, 12);
        fault(x, "harvests 99 100;", 2, 12);
        fault(x, "term 0;", 2, 5);
        fault(x, "term 6;", 2, 5);
        fault(x, "friend 10 0;", 2, 7);
        fault(x, "friend -10 0;", 2, 8);
        fault(x, "friend 0 10;", 2, 9);
        fault(x, "champion 21 0;", 2, 9);
        fault(x, "champion 20 4;", 2, 12);
        fault(x, "gate 21 0;", 2, 5);
        fault(x, "gate 0 4;", 2, 7);
    }

    private static void fault(TurnBrothers x, String text, int fault, int place) {
        Checks.fault(x, text, fault, place);
    }

    private static void faultsOfLines() {
        TurnBrothers x = new TurnBrothers();
        fault(x, "x", 1, 0);
        fault(x, " ;", 1, 1);
        fault(x, "7;", 1, 0);
        fault(x, "77777;", 1, 0);
        fault(x, "store 1;", 1, 0);
        fault(x, "or;", 1, 0);
        fault(x, "City 0 0 0;", 1, 0);
        fault(x, "city", 1, 4);
        fault(x, "city 0 0 0", 1, 10);
        fault(x, "city 0 0 0 \n ", 1, 13);
        fault(x, "city 0 0;", 1, 8);
        fault(x, "city 0 0 0 0;", 1, 11);
        fault(x, "city -1 0 0;", 1, 5);
        fault(x, "city 0 0 00000;", 2, 9);
        fault(x, "city 0\t0 0;", 1, 6);
        fault(x, "city 0, 0 0;", 1, 6);
        fault(x, "city 0. 0 0;", 1, 6);
        fault(x, "city 0 0 0;\r", 1, 11);
        fault(x, "citys 0 0 0;", 1, 0);
        fault(x, "term1;term 1;", 5, 6);
        fault(x, "term 12345;", 2, 5);
        fault(x, "term 1 12345;", 1, 7);
        fault(x, "term -1;", 1, 5);
        fault(x, "deed -1 0 0 0;", 1, 5);
        fault(x, "deed 0 --1 0 0;", 1, 8);
        fault(x, "deed 0 -;", 1, 8);
        fault(x, "deed 0 0 0;", 1, 10);
        fault(x, "deed 0 0 0 0 0;", 1, 13);
        fault(x, "deed 0 0 0 x;", 1, 11);
        fault(x, "elder 0;", 3, 6);
        fault(x, "elder;", 1, 5);
        fault(x, "elder 12345;", 2, 6);
        fault(x, "elder 9999;", 3, 6);
        fault(x, "elder -0;", 1, 6);
        fault(x, "deed 0 0 0 0;younger 0 1;", 3, 23);
        fault(x, "deed 0 0 0 0;younger 0 x;", 1, 23);
        fault(x, "deed 0 0 0 0;younger 0", 1, 22);
        fault(x, "younger 0;deed 0 0 0 0;", 3, 8);
        fault(x, "harvests;", 1, 8);
        fault(x, "harvests -1;", 1, 9);
        fault(x, "friend 0;", 1, 8);
        fault(x, "friend 0 -1;", 1, 9);
        fault(x, "champion 1;", 1, 10);
        fault(x, "champion -1 1;", 1, 9);
        fault(x, "gate;", 1, 4);
        fault(x, "gate 1 1", 1, 8);
        Checks.same("status 0", 46, x.count(16));
    }

    private static void faultsOfTooMany() {
        TurnBrothers x = new TurnBrothers();
        String deeds = "deed 0 0 0 0;".repeat(7);
        Checks.same("7 deeds", 0, Checks.land(x, deeds));
        fault(x, deeds + " deed 0 0 0 0;", 2, 92);
        fault(x, deeds + "deed", 2, 91);
        Checks.same("6 friends", 0, Checks.land(x, "friend 0 0;".repeat(6)));
        fault(x, "friend 0 0;".repeat(6) + "friend 0 0;", 2, 66);
        Checks.same("7 champions", 0, Checks.land(x, "champion 0 0;".repeat(7)));
        fault(x, "champion 0 0;".repeat(8), 2, 91);
        Checks.same("7 gates", 0, Checks.land(x, "gate 0 0;".repeat(7)));
        fault(x, "gate 0 0;".repeat(8), 2, 63);
        Checks.same("a way of 6", 0, Checks.land(x, "deed 0 0 0 0;elder 0 0 0 0 0 0;"));
        fault(x, "deed 0 0 0 0;elder 0 0 0 0 0 0 0;", 2, 31);
        fault(x, "deed 0 0 0 0;elder 0 0 0 0 0 0 1;", 2, 31);
        fault(x, "deed 0 0 0 0;elder 0 0 0 0 0 0 x;", 1, 31);
        Checks.same("10 harvests", 0, Checks.land(x, "harvests 0 1 2 3 4 5 6 7 8 9;"));
        fault(x, "harvests 0 1 2 3 4 5 6 7 8 9 10;", 2, 29);
        fault(x, "harvests 0 1 2 3 4 5 6 7 8 9 x;", 1, 29);
        String[] once = {"city 0 0 0;", "deed 0 0 0 0;elder 0;", "deed 0 0 0 0;younger 0;", "harvests 0;",
            "term 1;", "stays 0;", "likes 0;"};
        for (String line : once) {
            String last = line.substring(line.indexOf(';') + 1);
            last = last.isEmpty() ? line : last;
            fault(x, line + last, 5, line.length());
            fault(x, line + last.substring(0, last.indexOf(' ')), 5, line.length());
        }
        Checks.same("one of each way", 0, Checks.land(x, "deed 0 0 0 0;elder 0;younger 0;stays 1;likes 1;"));
    }

    private static void faultsOfRules() {
        TurnBrothers x = new TurnBrothers();
        fault(x, "stays;", 1, 5);
        fault(x, "stays", 1, 5);
        fault(x, "stays 1", 1, 7);
        fault(x, "stays lean;", 3, 6);
        fault(x, "stays rules;", 3, 6);
        fault(x, "likes men;", 3, 6);
        fault(x, "likes walls;", 3, 6);
        fault(x, "likes year;", 3, 6);
        fault(x, "stays z;", 3, 6);
        fault(x, "stays and;", 3, 6);
        fault(x, "stays city;", 3, 6);
        fault(x, "stays storeand walls;", 3, 6);
        fault(x, "stays not or;", 3, 10);
        fault(x, "stays 1+not 1;", 3, 8);
        fault(x, "stays 1<not 1;", 3, 8);
        fault(x, "stays 1*(2+x);", 3, 11);
        fault(x, "stays 12345;", 2, 6);
        fault(x, "stays 1 12345;", 1, 8);
        fault(x, "stays 1 1;", 1, 8);
        fault(x, "stays 1 store;", 1, 8);
        fault(x, "stays 1 not 1;", 1, 8);
        fault(x, "stays 1+;", 1, 8);
        fault(x, "stays -1;", 1, 6);
        fault(x, "stays 1--1;", 1, 8);
        fault(x, "stays 1<2<3;", 1, 9);
        fault(x, "stays 1=2<3;", 1, 9);
        fault(x, "stays 1);", 1, 7);
        fault(x, "stays (1;", 1, 8);
        fault(x, "stays ();", 1, 7);
        fault(x, "stays (1 2);", 1, 9);
        fault(x, "stays 1>2;", 1, 7);
        fault(x, "stays 1 and;", 1, 11);
        fault(x, "stays 1 or", 1, 10);
        Checks.same("six nots", 0, Checks.land(x, "stays not not not not not not 1;"));
        fault(x, "stays not not not not not not not 1;", 2, 30);
        fault(x, "stays not not not not not not x;", 3, 30);
        Checks.same("nots apart", 0, Checks.land(x, "stays not not not (not not not (not 1));"));
        Checks.same("nots beside and", 0, Checks.land(x, "stays not not not not 1 and not not not not 1;"));
        Checks.same("five others", 0, Checks.land(x, "stays (((((1)))));"));
        Checks.same("five others, in a row", 0, Checks.land(x, "stays (((((1)))))+(((((1)))));"));
        fault(x, "stays ((((((1))))));", 2, 12);
        fault(x, "stays ((((((store))))));", 2, 12);
        fault(x, "stays ((((((not 1))))));", 2, 12);
        fault(x, "stays ((((((x))))));", 2, 12);
        fault(x, "stays ((((((12345))))));", 2, 12);
        fault(x, "stays (((((((1)))))));", 2, 12);
        fault(x, "stays (((((()", 1, 12);
        fault(x, "stays ((((((", 1, 12);
        fault(x, "stays ((((((+", 1, 12);
        fault(x, "stays ((((((;", 1, 12);
        fault(x, "stays 1+(2*(3-(4/(5+(6+(7;", 2, 24);
    }

    private static void promise4() {
        TurnBrothers x = new TurnBrothers();
        Checks.same("fault at first", -1, x.fault());
        fault(x, "city 1;", 1, 6);
        Checks.illegal("land of too many", () -> x.land(1));
        Checks.same("stays behind an exception", 6, x.fault());
        Checks.land(x, "");
        Checks.same("none behind a land", -1, x.fault());
    }

    private static void promise5() {
        TurnBrothers x = Checks.landed(CITY);
        int[] due = {30, 25, 10, 0, 0, 0, 2, 0, 0, 3, 3, 2, 2, 0, 0, 0, 0, 0, 0};
        for (int what = 0; what < due.length; what++) {
            Checks.same("count " + what, due[what], x.count(what));
        }
        x.years(3);
        x.see(1, 1);
        x.feed(0, 0, 0, 0, 0);
        int[] then = {25, 27, 30, 3, 1, 1, 2, 0, 0, 3, 3, 2, 2, 1, 1, 20, 0, 0, 0};
        for (int what = 0; what < then.length; what++) {
            Checks.same("count then " + what, then[what], x.count(what));
        }
        Checks.noSuch("count -1", () -> x.count(-1));
        Checks.noSuch("count 19", () -> x.count(19));
        Checks.noSuch("count of the most", () -> x.count(Integer.MAX_VALUE));
        TurnBrothers poor = Checks.landed("city 0 0 0;deed 9 0 0 0;elder 0;harvests 0;stays year=1;");
        poor.years(3);
        Checks.same("put off: years 0 and 1", 2, poor.count(7));
        Checks.same("stayed once", 1, poor.count(8));
        Checks.same("who rules", 0, poor.count(4));
    }

    private static void promise6() {
        TurnBrothers x = Checks.landed(CITY);
        int[][] due = {{10, 5, 0, 3, 1}, {40, -3, 20, 8, 0}, {0, 0, -5, 1, 1}};
        for (int deed = 0; deed < 3; deed++) {
            for (int what = 0; what < 5; what++) {
                Checks.same("deed " + deed + ", " + what, due[deed][what], x.deed(deed, what));
            }
        }
        x.loan(9);
        Checks.same("39 of 40", 0, x.deed(1, 4));
        x.loan(1);
        Checks.same("40 of 40", 1, x.deed(1, 4));
        Checks.noSuch("deed 3", () -> x.deed(3, 0));
        Checks.noSuch("deed -1", () -> x.deed(-1, 0));
        Checks.noSuch("what 5", () -> x.deed(0, 5));
        Checks.noSuch("what -1", () -> x.deed(0, -1));
    }

    private static void promise7() {
        TurnBrothers x = Checks.landed(CITY);
        int[][] due = {{0, 0, 2, 5, 5, 0}, {0, 0, 1, 2, 5, 2}};
        checkBrothers(x, due);
        x.years(3);
        int[][] then = {{11, 2, 2, 5, 5, 0}, {1, 1, 1, 2, 5, 2}};
        checkBrothers(x, then);
        x.undo();
        x.years(1);
        Checks.same("his next deed", 1, x.brother(0, 5));
        Checks.noSuch("brother 2", () -> x.brother(2, 0));
        Checks.noSuch("brother -1", () -> x.brother(-1, 0));
        Checks.noSuch("what 6", () -> x.brother(0, 6));
        Checks.noSuch("what -1", () -> x.brother(1, -1));
    }

    private static void checkBrothers(TurnBrothers x, int[][] due) {
        for (int brother = 0; brother < 2; brother++) {
            for (int what = 0; what < 6; what++) {
                Checks.same("brother " + brother + ", " + what, due[brother][what], x.brother(brother, what));
            }
        }
    }

    private static void promise8() {
        TurnBrothers x = Checks.landed(CITY);
        Checks.same("way 0, 0", 0, x.way(0, 0));
        Checks.same("way 0, 1", 1, x.way(0, 1));
        Checks.same("way 1, 0", 2, x.way(1, 0));
        Checks.noSuch("way 0, 2", () -> x.way(0, 2));
        Checks.noSuch("way 1, 1", () -> x.way(1, 1));
        Checks.noSuch("way 0, -1", () -> x.way(0, -1));
        Checks.noSuch("way 2, 0", () -> x.way(2, 0));
        Checks.noSuch("way -1, 0", () -> x.way(-1, 0));
    }

    private static void promise9() {
        TurnBrothers x = Checks.landed(CITY);
        int[][] due = {{-3, 4, 0, 0, 0}, {2, 5, 1, 0, 0}, {0, 1, 0, 0, 0}};
        for (int friend = 0; friend < 3; friend++) {
            for (int what = 0; what < 5; what++) {
                Checks.same("friend " + friend + ", " + what, due[friend][what], x.friend(friend, what));
            }
        }
        Checks.noSuch("friend 3", () -> x.friend(3, 0));
        Checks.noSuch("friend -1", () -> x.friend(-1, 0));
        Checks.noSuch("what 5", () -> x.friend(0, 5));
        Checks.noSuch("what -1", () -> x.friend(0, -1));
        TurnBrothers y = Checks.landed("likes lean;friend 5 1;friend -5 1;friend 0 1;");
        Checks.same("lean of brother 0", -5, y.friend(0, 3));
        Checks.same("lean of brother 1", 5, y.friend(0, 4));
        Checks.same("follows 1", 1, y.friend(0, 2));
        Checks.same("below 0 of brother 0", 5, y.friend(1, 3));
        Checks.same("follows 0", 0, y.friend(1, 2));
        Checks.same("both alike: 0", 0, y.friend(2, 2));
        TurnBrothers z = Checks.landed("likes rules;friend 9 1;");
        Checks.same("the ruler's", 0, z.friend(0, 2));
        z.years(1);
        Checks.same("the next ruler's", 1, z.friend(0, 2));
    }

    /** What an EXPR gives, told by LIKES of BROTHER 1 with LEAN 7, STORE 50, DEBT 3. */
    private static int given(String expr) {
        return Checks.landed("city 50 0 3;friend 7 0;likes " + expr + ";").friend(0, 4);
    }

    private static void rules() {
        Checks.same("product ahead of sum", 7, given("1+2*3"));
        Checks.same("parentheses", 9, given("(1+2)*3"));
        Checks.same("minus from the left", -4, given("1-2-3"));
        Checks.same("over from the left", 2, given("20/5/2"));
        Checks.same("over and times from the left", 8, given("20/5*2"));
        Checks.same("cut down to 0", -3, given("(0-7)/2"));
        Checks.same("over 0", 0, given("5/0"));
        Checks.same("over 0 below 0", 0, given("(0-5)/(2-2)"));
        Checks.same("ints wrap", 9999 * 9999 * 9999, given("9999*9999*9999"));
        Checks.same("the least over -1", Integer.MIN_VALUE,
                given("(0-2*8192*8192*16)/(0-1)"));
        Checks.same("less", 1, given("1<2"));
        Checks.same("not less", 0, given("2<2"));
        Checks.same("same", 1, given("2+2=4"));
        Checks.same("not same", 0, given("2=3"));
        Checks.same("sums in a test", 1, given("1+1<2*2"));
        Checks.same("a test in parentheses", 3, given("(1<2)+2"));
        Checks.same("not of a test", 0, given("not 1<2"));
        Checks.same("not of 0", 1, given("not 0"));
        Checks.same("not of what isn't 0", 0, given("not 5"));
        Checks.same("not not", 1, given("not not 5"));
        Checks.same("not of below 0", 0, given("not (0-1)"));
        Checks.same("and", 1, given("2 and 4"));
        Checks.same("and 0", 0, given("2 and 0"));
        Checks.same("or", 1, given("0 or 4"));
        Checks.same("or of both", 1, given("3 or 4"));
        Checks.same("or 0", 0, given("0 or 0"));
        Checks.same("and ahead of or", 1, given("1 or 0 and 0"));
        Checks.same("and ahead of or, behind", 1, given("0 and 0 or 1"));
        Checks.same("three and", 1, given("1 and 2 and 3"));
        Checks.same("not ahead of and", 0, given("not 0 and 0"));
        Checks.same("a part alone", 9999, given("9999"));
        Checks.same("words side by side with signs", 57, given("store+lean"));
        Checks.same("debt", 3, given("debt"));
        Checks.same("glory", 0, given("glory"));
        Checks.same("rules", 0, given("rules"));
        String deep = "0 or 1 and 1=0+1*";
        Checks.same("as deep as can be", 1, given((deep + "(").repeat(5) + deep + "1" + ")".repeat(5)));
        Checks.same("as deep as can be, 0", 0, given((deep + "(").repeat(5) + deep + "2" + ")".repeat(5)));
        StringBuilder longest = new StringBuilder("friend 1 1;likes 1");
        while (longest.length() < 698) {
            longest.append("+1");
        }
        longest.append(" ;");
        TurnBrothers x = Checks.landed(longest.toString());
        Checks.same("the longest text's rule", 341, x.friend(0, 3));
    }

    /** STAYS at the end of the first YEAR: STORE 30, WALLS 12, DEBT 7, GLORY 4, YEAR 1. */
    private static void stayed(boolean due, String expr) {
        TurnBrothers x = Checks.landed("city 20 10 5;deed 10 2 2 4;elder 0;friend -1 4;friend 1 5;friend 0 2;stays "
                + expr + ";");
        x.years(1);
        Checks.same("stays " + expr, due ? 1 : 0, x.count(8));
        Checks.same("who rules by " + expr, due ? 0 : 1, x.count(4));
        Checks.same("in a row by " + expr, due ? 1 : 0, x.count(5));
    }

    private static void ruleValues() {
        stayed(true, "store=30");
        stayed(true, "walls=12");
        stayed(true, "debt=7");
        stayed(true, "glory=4");
        stayed(true, "year=1");
        stayed(true, "men=6");
        stayed(false, "men=5");
        stayed(false, "0");
        stayed(false, "0-1");
        stayed(true, "2");
        TurnBrothers x = Checks.landed("friend 1 3;friend -1 4;likes lean+3*rules;term 2;stays men=7;");
        x.years(1);
        Checks.same("the turn is not done yet", 0, x.count(8));
        x.years(1);
        Checks.same("men of him who rules as his turn is done", 1, x.count(8));
        x.years(1);
        Checks.same("he is asked each year", 2, x.count(8));
        Checks.same("in a row", 3, x.count(5));
    }
}
