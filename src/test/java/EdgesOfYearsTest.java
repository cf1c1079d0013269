/** 'Terms', ==== 2: what a YEAR does at the bounds of STORE, WALLS, DEBT, WAY, TERM and STAYS. */
public final class EdgesOfYearsTest {
    private static final int STORE = 0;
    private static final int WALLS = 1;
    private static final int DEBT = 2;
    private static final int YEAR = 3;
    private static final int RULER = 4;
    private static final int ROW = 5;
    private static final int TERM = 6;
    private static final int PUT_OFF = 7;
    private static final int STAYED = 8;

    private EdgesOfYearsTest() {
    }

    public static void main(String[] args) {
        harvestUpToTheMost();
        aTenthUpToTheMost();
        harvestsInTheirOrder();
        costThatIsThere();
        costThatIsNot();
        putOffChangesNothing();
        wallsKept();
        debtKept();
        gloryWithoutBound();
        theOrderOfAYear();
        wayInTheRound();
        wayOfYearsRuled();
        noWay();
        terms();
        termLoweredInAYear();
        termOfExactlyTheRow();
        nobodyStaysWithout();
        staysOn();
        followsAtTheEdge();
        theLastYear();
        Checks.finish();
    }

    /** One YEAR of a LAND: what count() tells then. */
    private static void year(String text, int what, int due) {
        TurnBrothers x = Checks.landed(text);
        x.years(1);
        Checks.same("count " + what + " behind a year of " + text, due, x.count(what));
    }

    private static void harvestUpToTheMost() {
        year("city 900 0 0;harvests 98;", STORE, 998);
        year("city 900 0 0;harvests 99;", STORE, 999);
        year("city 901 0 0;harvests 99;", STORE, 999);
        year("city 999 0 0;harvests 0;", STORE, 999);
        year("city 999 0 0;harvests 99;", STORE, 999);
        year("city 0 0 0;harvests 0;", STORE, 0);
        // what is above the most is gone ahead of the COST
        year("city 950 0 0;harvests 99;deed 99 0 0 0;elder 0;", STORE, 900);
    }

    private static void aTenthUpToTheMost() {
        int[][] due = {{0, 0}, {1, 1}, {9, 9}, {10, 11}, {19, 20}, {20, 22}, {99, 108}, {100, 110}, {899, 988}, {900, 990},
            {908, 998}, {909, 999}, {910, 999}, {919, 999}, {998, 999}, {999, 999}};
        for (int[] debt : due) {
            year("city 0 0 " + debt[0] + ";", DEBT, debt[1]);
            TurnBrothers x = Checks.landed("city 0 0 " + debt[0] + ";harvests 0;");
            Checks.same("store stays", 0, x.then(1, 0));
            Checks.same("walls stay", 0, x.then(1, 1));
        }
    }

    private static void harvestsInTheirOrder() {
        TurnBrothers one = Checks.landed("city 0 0 0;harvests 7;");
        TurnBrothers three = Checks.landed("city 0 0 0;harvests 1 5 9;");
        TurnBrothers ten = Checks.landed("city 0 0 0;harvests 1 2 3 4 5 6 7 8 9 10;");
        int[] threes = {0, 1, 6, 15, 16, 21, 30, 31};
        int[] tens = {0, 1, 3, 6, 10, 15, 21, 28, 36, 45, 55, 56, 58};
        for (int i = 0; i < tens.length; i++) {
            Checks.same("one harvest, " + i, 7 * i, one.then(i, 0));
            Checks.same("ten harvests, " + i, tens[i], ten.then(i, 0));
        }
        for (int i = 0; i < threes.length; i++) {
            Checks.same("three harvests, " + i, threes[i], three.then(i, 0));
        }
        ten.years(9);
        Checks.same("the tenth one", 55, ten.then(1, 0));
        ten.years(1);
        Checks.same("the first one again", 56, ten.then(1, 0));
    }

    private static void costThatIsThere() {
        String paid = "harvests 5;deed 15 1 2 3;elder 0;";
        year("city 10 0 0;" + paid, STORE, 0);
        year("city 10 0 0;" + paid, WALLS, 1);
        year("city 10 0 0;" + paid, DEBT, 2);
        year("city 10 0 0;" + paid, PUT_OFF, 0);
        year("city 11 0 0;" + paid, STORE, 1);
        year("city 0 0 0;harvests 0;deed 0 1 2 3;elder 0;", WALLS, 1);
        year("city 0 0 0;harvests 99;deed 99 1 2 3;elder 0;", STORE, 0);
        Checks.same("its glory", 3, Checks.landed("city 10 0 0;" + paid).then(1, 3));
        TurnBrothers x = Checks.landed("city 15 0 0;" + paid);
        Checks.same("15 of 15", 1, x.deed(0, 4));
        Checks.same("15 of 14", 0, Checks.landed("city 14 0 0;" + paid).deed(0, 4));
    }

    private static void costThatIsNot() {
        String dear = "harvests 5;deed 15 1 2 3;elder 0;";
        year("city 9 0 0;" + dear, STORE, 14);
        year("city 9 0 0;" + dear, PUT_OFF, 1);
        year("city 0 0 0;harvests 0;deed 1 0 0 0;elder 0;", PUT_OFF, 1);
        year("city 0 0 0;harvests 98;deed 99 0 0 0;elder 0;", PUT_OFF, 1);
        TurnBrothers x = Checks.landed("city 0 0 0;harvests 0;deed 1 0 0 0;elder 0;younger 0;");
        for (int i = 0; i <= 60; i++) {
            Checks.same("each year one more", i, x.then(i, 6));
        }
    }

    private static void putOffChangesNothing() {
        TurnBrothers x = Checks.landed("city 9 50 50;harvests 0;deed 10 20 99 20;deed 9 1 1 1;elder 0 1;");
        x.years(1);
        int[] due = {9, 50, 55, 1, 1, 0, 1, 1, 0};
        for (int what = 0; what < due.length; what++) {
            Checks.same("put off, count " + what, due[what], x.count(what));
        }
        Checks.same("no glory", 0, x.brother(0, 0));
        Checks.same("yet it counts as a year of his", 1, x.brother(0, 1));
        Checks.same("his next one is the second", 1, x.brother(0, 5));
    }

    private static void wallsKept() {
        int[][] due = {{79, 20, 99}, {80, 20, 99}, {99, 20, 99}, {99, 0, 99}, {98, 1, 99}, {99, 1, 99}, {20, -20, 0},
            {19, -20, 0}, {0, -20, 0}, {21, -20, 1}, {0, -1, 0}, {1, -1, 0}, {78, 20, 98}, {0, 0, 0}};
        for (int[] walls : due) {
            year("city 0 " + walls[0] + " 0;deed 0 " + walls[1] + " 0 0;elder 0;", WALLS, walls[2]);
        }
    }

    /** A tenth comes to the DEBT first. */
    private static void debtKept() {
        int[][] due = {{9, -9, 0}, {9, -10, 0}, {9, -8, 1}, {0, -99, 0}, {90, -99, 0}, {89, -99, 0}, {91, -99, 1}, {900, 8, 998},
            {900, 9, 999}, {900, 10, 999}, {999, 99, 999}, {999, -99, 900}, {950, -99, 900}, {0, 99, 99}};
        for (int[] debt : due) {
            year("city 0 0 " + debt[0] + ";deed 0 0 " + debt[1] + " 0;elder 0;", DEBT, debt[2]);
        }
    }

    private static void gloryWithoutBound() {
        TurnBrothers x = Checks.landed("deed 0 0 0 20;deed 0 0 0 -20;elder 0;younger 1;");
        for (int i = 0; i < 49; i++) {
            x.years(20);
        }
        x.years(19);
        Checks.same("500 years of 20", 10000, x.brother(0, 0));
        Checks.same("499 years of -20", -9980, x.brother(1, 0));
        Checks.same("60 more", 10600, x.then(60, 3));
        Checks.same("60 less", -10580, x.then(60, 4));
    }

    private static void theOrderOfAYear() {
        // the HARVEST is there when it is paid, the tenth ahead of what it OWES
        TurnBrothers x = Checks.landed("city 0 0 10;harvests 20;deed 20 0 89 0;elder 0;");
        x.years(1);
        Checks.same("paid from the harvest", 0, x.count(STORE));
        Checks.same("a tenth of 10 alone", 100, x.count(DEBT));
        Checks.same("a tenth of 100", 110, x.then(1, 2));
    }

    private static void wayInTheRound() {
        String deeds = "deed 0 0 0 0;".repeat(6);
        String way = "";
        for (int length = 1; length <= 6; length++) {
            way += " " + (length - 1);
            TurnBrothers x = Checks.landed(deeds + "elder" + way + ";stays 1;younger" + way + ";");
            for (int i = 0; i < 15; i++) {
                Checks.same("deed of year " + i + " in a way of " + length, i % length, x.brother(0, 5));
                Checks.same("the younger one waits", 0, x.brother(1, 5));
                x.years(1);
            }
        }
    }

    /** The YEARS that he RULED count, not those that went by. */
    private static void wayOfYearsRuled() {
        TurnBrothers x = Checks.landed("deed 0 0 0 1;deed 0 0 0 5;elder 0 1;younger 1 0 0;");
        int[] elder = {0, 1, 1, 6, 6, 7, 7, 12, 12};
        int[] younger = {0, 0, 5, 5, 6, 6, 7, 7, 12};
        for (int i = 0; i < elder.length; i++) {
            Checks.same("elder's glory in " + i, elder[i], x.then(i, 3));
            Checks.same("younger's glory in " + i, younger[i], x.then(i, 4));
        }
        x.years(7);
        Checks.same("years of the elder", 4, x.brother(0, 1));
        Checks.same("years of the younger", 3, x.brother(1, 1));
        Checks.same("the elder's next", 0, x.brother(0, 5));
        Checks.same("the younger's next", 1, x.brother(1, 5));
    }

    private static void noWay() {
        TurnBrothers x = Checks.landed("city 0 5 0;harvests 0;deed 99 1 1 1;younger 0;");
        Checks.same("nothing to be put off", 0, x.then(1, 6));
        Checks.same("the younger one's is", 1, x.then(2, 6));
        Checks.same("of 60 his alone", 30, x.then(60, 6));
        Checks.same("no deed", -1, x.brother(0, 5));
        Checks.same("his deed", 0, x.brother(1, 5));
    }

    private static void terms() {
        for (int term = 1; term <= 5; term++) {
            TurnBrothers x = Checks.landed("term " + term + ";");
            for (int i = 0; i < 20; i++) {
                Checks.same("who rules in " + i + " by " + term, i / term % 2, x.count(RULER));
                Checks.same("in a row in " + i + " by " + term, i % term, x.count(ROW));
                Checks.same("year", i, x.count(YEAR));
                x.years(1);
            }
        }
    }

    private static void termLoweredInAYear() {
        for (int row = 1; row <= 4; row++) {
            for (int term = 1; term <= 5; term++) {
                TurnBrothers x = Checks.landed("term 5;");
                x.years(row);
                x.term(term);
                Checks.same("he rules as yet", 0, x.count(RULER));
                Checks.same("as many in a row", row, x.count(ROW));
                x.years(1);
                boolean turned = row + 1 >= term;
                Checks.same("term " + term + " behind " + row, turned ? 1 : 0, x.count(RULER));
                Checks.same("in a row then", turned ? 0 : row + 1, x.count(ROW));
            }
        }
    }

    private static void termOfExactlyTheRow() {
        TurnBrothers x = Checks.landed("term 3;stays year<7;");
        int[] stayed = {0, 0, 0, 1, 2, 3, 4, 4, 4, 4, 4};
        int[] ruler = {0, 0, 0, 0, 0, 0, 0, 1, 1, 1, 0};
        int[] row = {0, 1, 2, 3, 4, 5, 6, 0, 1, 2, 0};
        for (int i = 0; i < stayed.length; i++) {
            Checks.same("stayed in " + i, stayed[i], x.count(STAYED));
            Checks.same("ruler in " + i, ruler[i], x.count(RULER));
            Checks.same("row in " + i, row[i], x.count(ROW));
            x.years(1);
        }
        x.years(5);
        x.undo();
        Checks.same("term", 3, x.count(TERM));
    }

    private static void nobodyStaysWithout() {
        TurnBrothers x = new TurnBrothers();
        for (int i = 0; i < 40; i++) {
            x.years(20);
        }
        Checks.same("stayed", 0, x.count(STAYED));
    }

    private static void staysOn() {
        TurnBrothers x = Checks.landed("stays 1;");
        for (int i = 0; i < 49; i++) {
            x.years(20);
        }
        Checks.same("stayed each year", 980, x.count(STAYED));
        Checks.same("in a row", 980, x.count(ROW));
        Checks.same("his years", 980, x.brother(0, 1));
        Checks.same("none of the other one", 0, x.brother(1, 1));
    }

    private static void followsAtTheEdge() {
        TurnBrothers x = Checks.landed("friend -9 1;friend -1 1;friend 0 1;friend 1 1;friend 9 1;");
        Checks.same("of the elder", 7, x.brother(0, 3));
        Checks.same("of the younger", 24, x.brother(1, 3));
        TurnBrothers y = Checks.landed("likes lean*lean;friend -9 1;friend 9 9;");
        Checks.same("both alike: of the elder", 3, y.brother(0, 3));
        Checks.same("both alike: their men", 10, y.brother(0, 4));
        Checks.same("none of the younger", 0, y.brother(1, 3));
        Checks.same("no men", 0, y.brother(1, 4));
        TurnBrothers all = Checks.landed("friend 1 9;".repeat(6));
        Checks.same("all bits", 63, all.brother(1, 3));
        Checks.same("all men", 54, all.brother(1, 4));
    }

    private static void theLastYear() {
        TurnBrothers x = Checks.landed("city 0 0 0;harvests 0 0 0 0 0 0 0 0 0 7;stays year=1000;");
        for (int i = 0; i < 49; i++) {
            x.years(20);
        }
        x.years(18);
        Checks.same("998", 998, x.count(YEAR));
        Checks.same("years(2)", -1, x.years(2));
        Checks.same("years(1)", 999, x.years(1));
        Checks.same("years(1) again", -1, x.years(1));
        Checks.same("then goes beyond", 1, x.stays(0));
        Checks.same("store in 999", 693, x.count(STORE));
        Checks.same("the harvest of 999", 700, x.then(1, 0));
        Checks.same("undo", 39, x.undo());
        Checks.same("998 again", 998, x.count(YEAR));
        Checks.same("999 again", 999, x.years(1));
    }
}
