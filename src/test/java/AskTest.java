/** Promises 16 to 27 and 30 to 38: what is asked of the YEARS to come, of GATES and of FRIENDS. */
public final class AskTest {
    /** Who does 0 for 5, then 1 for 3, by turns, and no harvests. */
    private static final String TWO = "city 10 0 0;deed 5 0 0 1;deed 3 0 0 2;harvests 0;elder 0;younger 1;";

    private AskTest() {
    }

    public static void main(String[] args) {
        promise16();
        promise17();
        promise18();
        promise19();
        promise20();
        promise21();
        promise21ByTurns();
        promise22();
        promise23();
        promise24();
        promise25();
        promise26();
        promise27();
        promise30();
        promise31();
        promise32();
        promise33();
        promise34();
        promise35();
        promise36();
        promise37();
        promise38();
        nothingChanges();
        Checks.finish();
    }

    private static void promise16() {
        TurnBrothers x = Checks.landed(LandTest.CITY);
        int[][] due = {
            {30, 25, 10, 0, 0, 0, 0}, {40, 30, 11, 3, 0, 0, 0}, {5, 27, 32, 11, 0, 1, 0},
            {25, 27, 30, 11, 1, 1, 0}, {30, 27, 28, 11, 2, 0, 0}, {40, 32, 30, 14, 2, 0, 0},
            {5, 29, 53, 22, 2, 1, 0}};
        for (int years = 0; years < due.length; years++) {
            for (int what = 0; what < 7; what++) {
                Checks.same("then " + years + ", " + what, due[years][what], x.then(years, what));
            }
        }
        TurnBrothers poor = Checks.landed(TWO);
        Checks.same("put off in 4", 2, poor.then(4, 6));
        poor.years(3);
        Checks.same("those so far, too", 2, poor.then(1, 6));
        Checks.same("from now on", 1, poor.then(0, 6));
        Checks.same("60", 58, Checks.landed(TWO).then(60, 6));
        Checks.noSuch("then what 7", () -> x.then(1, 7));
        Checks.noSuch("then what -1, ahead", () -> x.then(61, -1));
        Checks.illegal("then 61", () -> x.then(61, 6));
        Checks.illegal("then -1", () -> x.then(-1, 0));
    }

    private static void promise17() {
        TurnBrothers x = Checks.landed("term 2;stays year=6;");
        Checks.same("stays first", 6, x.stays(0));
        Checks.same("who", 0, x.stays(1));
        x.years(1);
        Checks.same("from now on", 5, x.stays(0));
        x.years(5);
        Checks.same("no more", -1, x.stays(0));
        Checks.same("none", -1, x.stays(1));
        TurnBrothers late = Checks.landed("stays year=60;");
        Checks.same("in 60", 60, late.stays(0));
        Checks.same("the other one", 1, late.stays(1));
        Checks.same("not in 61", -1, Checks.landed("stays year=61;").stays(0));
        Checks.noSuch("stays what 2", () -> x.stays(2));
        Checks.noSuch("stays what -1", () -> x.stays(-1));
    }

    private static void promise18() {
        Checks.same("never asked", 1, new TurnBrothers().fair());
        Checks.same("year<3", 3, Checks.landed("stays year<3;").fair());
        Checks.same("none is fair", -1, Checks.landed("stays 1;").fair());
        Checks.same("year<5", 5, Checks.landed("term 2;stays year<5;").fair());
        // by 1, 2 and 3 a turn is done in the 30th year, by 4 in the 28th
        Checks.same("in 30", 4, Checks.landed("stays 29<year;").fair());
        TurnBrothers behind = Checks.landed("stays 30<year;");
        Checks.same("behind 30", 1, behind.fair());
        behind.years(1);
        Checks.same("from now on", 4, behind.fair());
        TurnBrothers x = Checks.landed("stays year=1;");
        x.years(1);
        Checks.same("those who stayed ahead don't count", 1, x.fair());
    }

    private static void promise19() {
        Checks.same("of like ones the least", 1, Checks.landed("term 4;").least());
        // only the younger one's deed is too dear: the longer the elder rules, the fewer are put off
        TurnBrothers x = Checks.landed("city 0 0 0;harvests 0;deed 0 0 0 0;deed 9 0 0 0;elder 0;younger 1;");
        // of 30 years the younger has 15, 14, 15, 14, 15 by terms of 1 to 5
        Checks.same("the first of the fewest", 2, x.least());
        x.years(1);
        // from year 1 on: 15, 15 (or 16), so the terms are counted from now on
        Checks.same("from now on", leastByHand(1), x.least());
    }

    /** Years of the younger one by each term, set when the elder has ruled so many years by term 1. */
    private static int leastByHand(int gone) {
        int best = 1;
        int fewest = Integer.MAX_VALUE;
        for (int term = 1; term <= 5; term++) {
            int ruler = gone % 2;
            int row = 0;
            int putOff = 0;
            for (int i = 0; i < 30; i++) {
                putOff += ruler;
                row++;
                if (row >= term) {
                    ruler = 1 - ruler;
                    row = 0;
                }
            }
            if (putOff < fewest) {
                fewest = putOff;
                best = term;
            }
        }
        return best;
    }

    private static void promise20() {
        TurnBrothers x = Checks.landed(LandTest.CITY);
        Checks.same("cost(1)", 0, x.cost(1));
        Checks.same("cost(2)", 0, x.cost(2));
        // alone: 15 less 35 is -20; by turns: 25 less 30 is -5
        Checks.same("cost(3)", -15, x.cost(3));
        // alone: 20 less 38 is -18; by turns: 30 less 28 is 2
        Checks.same("cost(4)", -20, x.cost(4));
        TurnBrothers stays = Checks.landed("city 0 0 0;harvests 0;deed 0 0 10 0;younger 0;stays 0;");
        // by turns the younger one owes 10, and the elder a tenth of that
        Checks.same("more alone", 11, stays.cost(3));
        TurnBrothers all = Checks.landed("city 0 0 0;harvests 0;deed 0 0 10 0;younger 0;stays 1;");
        Checks.same("he stays anyway", 0, all.cost(60));
        Checks.illegal("cost(0)", () -> x.cost(0));
        Checks.illegal("cost(61)", () -> x.cost(61));
        Checks.illegal("cost(-1)", () -> x.cost(-1));
    }

    private static void promise21() {
        TurnBrothers x = Checks.landed(LandTest.CITY);
        Checks.same("plan 1", 8, x.plan(1, 0));
        Checks.same("begins with", 1, x.plan(1, 1));
        Checks.same("plan 2", 11, x.plan(2, 0));
        Checks.same("the least of like ones", 0, x.plan(2, 1));
        Checks.noSuch("plan what 2, ahead", () -> x.plan(5, 2));
        Checks.noSuch("plan what -1", () -> x.plan(1, -1));
        Checks.illegal("plan 0", () -> x.plan(0, 0));
        Checks.illegal("plan 5", () -> x.plan(5, 1));
        TurnBrothers bad = Checks.landed("deed 0 0 0 -1;deed 0 0 0 -2;");
        Checks.same("none is best", 0, bad.plan(1, 0));
        Checks.same("he begins with none", -1, bad.plan(1, 1));
        TurnBrothers like = Checks.landed("deed 0 0 0 -1;deed 0 0 0 0;deed 0 0 0 0;");
        Checks.same("none is last", 1, like.plan(1, 1));
        TurnBrothers dear = Checks.landed("city 0 0 0;harvests 4;deed 4 0 0 1;deed 5 0 0 20;term 4;");
        Checks.same("what he can pay behind the harvest", 0, dear.plan(1, 1));
        // he saves in the first year, pays 5 of 8 in the second, 5 of 7 in the third, 5 of 6 in the fourth
        Checks.same("he saves", 60, dear.plan(4, 0));
        Checks.same("by doing none", -1, dear.plan(4, 1));
        dear.years(4);
        Checks.same("the other one's gain", 20, dear.plan(1, 0));
    }

    private static void promise21ByTurns() {
        TurnBrothers x = Checks.landed("city 10 0 0;harvests 0;deed 10 0 0 5;deed 10 0 0 1;deed 0 0 0 0;");
        Checks.same("by turns", 5, x.plan(2, 0));
        TurnBrothers empties = Checks.landed("city 10 0 0;harvests 0;deed 10 0 0 5;deed 9 0 0 4;deed 1 0 0 3;");
        // 9 leaves 1, with which the other one gains 3; 10 leaves none
        Checks.same("he leaves nothing", 5, empties.plan(2, 0));
        Checks.same("by that", 0, empties.plan(2, 1));
        // each 1 spent: 3; by turns 3, 3, 3, 3 give 0
        TurnBrothers even = Checks.landed("deed 0 0 0 3;");
        Checks.same("even", 0, even.plan(4, 0));
        Checks.same("odd", 3, even.plan(3, 0));
        // who gains glory stays: doing 1 he rules on
        TurnBrothers on = Checks.landed("harvests 0;deed 0 0 0 1;deed 0 5 0 0;stays 24<walls;");
        Checks.same("to rule on is worth more", 1, on.plan(2, 0));
        Checks.same("build, then gain", 1, on.plan(2, 1));
        Checks.same("two years more", 2, on.plan(3, 0));
        on.years(1);
        Checks.same("for the younger one, too", 1, on.plan(2, 1));
    }

    private static void promise22() {
        TurnBrothers x = Checks.landed(LandTest.CITY);
        Checks.same("wins 0 0", true, x.wins(0, 0));
        Checks.same("wins 0 1", true, x.wins(0, 1));
        Checks.same("wins 1 0", false, x.wins(1, 0));
        Checks.same("wins 1 1", false, x.wins(1, 1));
        Checks.noSuch("champion 2", () -> x.wins(2, 0));
        Checks.noSuch("champion -1", () -> x.wins(-1, 0));
        Checks.noSuch("gate 2", () -> x.wins(0, 2));
        Checks.noSuch("gate -1", () -> x.wins(0, -1));
        TurnBrothers edge = Checks.landed("city 0 29 0;champion 10 1;champion 10 2;gate 8 3;gate 7 3;gate 13 1;gate 12 2;");
        Checks.same("as strong is not more", false, edge.wins(0, 0));
        Checks.same("one more", true, edge.wins(0, 1));
        Checks.same("5 more, as strong", false, edge.wins(0, 2));
        Checks.same("5 more, one more", true, edge.wins(1, 3));
        Checks.same("another kind", false, edge.wins(0, 3));
    }

    /** A LAND without walls, in which champions win where kinds are alike. */
    private static String siege(String kinds, String gates) {
        StringBuilder text = new StringBuilder("city 0 0 0;");
        for (char kind : kinds.toCharArray()) {
            text.append("champion 5 ").append(kind).append(';');
        }
        for (char kind : gates.toCharArray()) {
            text.append("gate 9 ").append(kind).append(';');
        }
        return text.toString();
    }

    private static void promise23() {
        TurnBrothers x = Checks.landed(LandTest.CITY);
        Checks.same("how many", 1, x.assault(-1));
        Checks.same("champion 0", 0, x.assault(0));
        Checks.same("champion 1", -1, x.assault(1));
        Checks.noSuch("champion 2", () -> x.assault(2));
        Checks.noSuch("champion -2", () -> x.assault(-2));
        TurnBrothers none = Checks.landed("champion 20 0;");
        Checks.same("without gates", 0, none.assault(-1));
        Checks.same("without gates he has none", -1, none.assault(0));
        TurnBrothers kinds = Checks.landed(siege("0012", "2010"));
        int[] due = {1, 3, 2, 0};
        checkAssault(kinds, 4, due);
        // the first one wins everywhere, but goes where the second one can't win
        TurnBrothers row = Checks.landed("city 0 0 0;champion 20 0;champion 5 1;gate 9 1;gate 10 1;");
        checkAssault(row, 2, 1, 0);
        // three who win at one gate alone: the first one goes there
        checkAssault(Checks.landed(siege("111", "1")), 1, 0, -1, -1);
        // none behind all gates: the first one takes what the second could have
        checkAssault(Checks.landed(siege("111", "10")), 1, 0, -1, -1);
        checkAssault(Checks.landed(siege("01", "11")), 1, -1, 0);
        checkAssault(Checks.landed(siege("0123012", "2103210")), 7, 2, 1, 0, 3, 6, 5, 4);
        Checks.same("fewer gates than champions", 3, Checks.landed(siege("0000000", "000")).assault(-1));
    }

    private static void checkAssault(TurnBrothers x, int many, int... gates) {
        Checks.same("how many win", many, x.assault(-1));
        for (int i = 0; i < gates.length; i++) {
            Checks.same("the gate of " + i, gates[i], x.assault(i));
        }
    }

    private static void promise24() {
        TurnBrothers x = Checks.landed(LandTest.CITY);
        Checks.same("how many", 1, x.bought(0));
        Checks.same("who: a champion is the least", 1, x.bought(1));
        TurnBrothers none = Checks.landed("city 0 99 0;champion 9 0;gate 0 1;");
        Checks.same("none is needed", 0, none.bought(0));
        Checks.same("nobody", 0, none.bought(1));
        // two champions at one gate: the gate alone
        TurnBrothers gate = Checks.landed(siege("11", "01"));
        Checks.same("a gate", 1, gate.bought(0));
        Checks.same("gate 1", 1 << 8, gate.bought(1));
        // kind 0 is a pair, kind 1 has three champions before one gate
        TurnBrothers both = Checks.landed(siege("0111", "01"));
        Checks.same("both", 2, both.bought(0));
        Checks.same("champion 0 and gate 1", 1 | 1 << 8, both.bought(1));
        TurnBrothers all = Checks.landed("city 0 0 0;" + "champion 20 0;".repeat(7) + "gate 0 0;".repeat(7));
        Checks.same("seven", 7, all.bought(0));
        Checks.same("the champions", 127, all.bought(1));
        TurnBrothers gates = Checks.landed("city 0 0 0;" + "champion 20 0;".repeat(7) + "gate 0 0;".repeat(6));
        Checks.same("six", 6, gates.bought(0));
        Checks.same("the gates", 63 << 7, gates.bought(1));
        Checks.noSuch("bought what 2", () -> x.bought(2));
        Checks.noSuch("bought what -1", () -> x.bought(-1));
    }

    private static void promise25() {
        TurnBrothers x = Checks.landed(LandTest.CITY);
        Checks.same("any", 100, x.odds(0, 5, 0));
        Checks.same("one man", 75, x.odds(0, 5, 1));
        Checks.same("four", 50, x.odds(0, 5, 4));
        Checks.same("five", 25, x.odds(0, 5, 5));
        Checks.same("six", 0, x.odds(0, 5, 6));
        Checks.same("by three tenths", 3 * 3 + 3 * 7, x.odds(0, 3, 2));
        Checks.same("brother 1", 3, x.odds(1, 3, 5));
        TurnBrothers six = Checks.landed("friend 1 9;".repeat(6));
        Checks.same("all 54", 531441, six.odds(1, 9, 54));
        Checks.same("45 or more", 531441 + 6 * 59049, six.odds(1, 9, 45));
        Checks.same("any of a million", 1000000, six.odds(1, 9, 0));
        Checks.same("nobody's", 1, six.odds(0, 9, 0));
        Checks.same("nobody's one", 0, six.odds(0, 9, 1));
        Checks.noSuch("brother 2, ahead", () -> x.odds(2, 0, 0));
        Checks.noSuch("brother -1", () -> x.odds(-1, 5, 0));
        Checks.illegal("tenths 0", () -> x.odds(0, 0, 0));
        Checks.illegal("tenths 10", () -> x.odds(0, 10, 0));
        Checks.illegal("men -1", () -> x.odds(0, 5, -1));
        Checks.illegal("men 55", () -> x.odds(0, 5, 55));
    }

    private static void promise26() {
        Checks.same("without likes nothing moves", 0, Checks.landed(LandTest.CITY).moved(0, 99));
        TurnBrothers x = Checks.landed("likes glory+lean;friend 2 1;friend -1 1;friend 0 1;friend 9 1;");
        Checks.same("by 3", 0, x.moved(0, 3));
        Checks.same("by 4, alike is enough for 0", 1, x.moved(0, 4));
        Checks.same("by 18", 1 | 8, x.moved(0, 18));
        Checks.same("to 1 by 1", 4, x.moved(1, 1));
        Checks.same("to 1 by 2", 4, x.moved(1, 2));
        Checks.same("to 1 by 3", 6, x.moved(1, 3));
        TurnBrothers less = Checks.landed("likes 0-glory;friend 1 1;");
        Checks.same("those who like less glory", 0, less.moved(0, 9));
        Checks.noSuch("brother 2, ahead", () -> x.moved(2, 0));
        Checks.noSuch("brother -1", () -> x.moved(-1, 1));
        Checks.illegal("glory 0", () -> x.moved(0, 0));
        Checks.illegal("glory 100", () -> x.moved(1, 100));
    }

    private static void promise27() {
        TurnBrothers x = Checks.landed(LandTest.CITY);
        Checks.same("how many", 2, x.parties(0));
        Checks.same("the first", 0, x.parties(1));
        TurnBrothers none = new TurnBrothers();
        Checks.same("one way of nobody", 1, none.parties(0));
        Checks.same("it is the first", 0, none.parties(1));
        TurnBrothers one = Checks.landed("friend 3 1;");
        Checks.same("one way", 1, one.parties(0));
        Checks.same("of brother 1", 1, one.parties(1));
        Checks.same("a lean of 0", 2, Checks.landed("friend 0 1;").parties(0));
        // apart: each has 9 less 2; together on a side one has -7
        TurnBrothers apart = Checks.landed("friend -9 1;friend 9 1;");
        Checks.same("apart", 1, apart.parties(0));
        Checks.same("apart, the first", 2, apart.parties(1));
        // 0 with 1: 2 - 2 = 0; alone: -2 - 4, or 2 - 4
        TurnBrothers three = Checks.landed("friend 2 1;friend 2 1;friend 0 1;");
        Checks.same("no less than 0", 2, three.parties(0));
        TurnBrothers torn = Checks.landed("friend -1 1;friend 1 1;friend 3 1;");
        // together for 1: 3, 5, 7; for 0: 5, 3, 1; friend 0 alone: 1 less 4
        Checks.same("torn", 2, torn.parties(0));
        Checks.noSuch("parties what 2", () -> x.parties(2));
        Checks.noSuch("parties what -1", () -> x.parties(-1));
        TurnBrothers even = Checks.landed("friend 2 1;friend -3 1;");
        // apart by their leans: 2 - 2, 3 - 2; together for 0: -2 + 2, 3 + 2; for 1: 2 + 2, -3 + 2
        Checks.same("even", 2, even.parties(0));
        Checks.same("even, the first", 0, even.parties(1));
    }

    private static void promise30() {
        TurnBrothers x = Checks.landed(TWO);
        Checks.same("nothing seen: all", 24, x.another(0));
        Checks.same("the first of all", 10, x.another(1));
        Checks.same("so without", 1, x.another(2));
        x.see(1, 7);
        Checks.same("deed 1 in the first year", 1, x.another(0));
        Checks.same("as one number", 11, x.another(1));
        Checks.same("not so without", 0, x.another(2));
        x.see(2, 4);
        Checks.same("both are so", 1, x.another(0));
        x.see(2, 3);
        Checks.same("not both", 0, x.another(0));
        Checks.same("none", -1, x.another(1));
        x.forget();
        x.see(2, 0);
        Checks.same("deed 0 in the second year", 20, x.another(1));
        x.years(1);
        Checks.same("only how many years are kept: from now on", 10, x.another(1));
        x.forget();
        x.see(1, 0);
        Checks.same("in the next one", 10, x.another(1));
        Checks.same("the year of the younger one", 1, x.another(0));
        Checks.noSuch("another what 3", () -> x.another(3));
        Checks.noSuch("another what -1", () -> x.another(-1));
        TurnBrothers late = Checks.landed("city 20 0 0;harvests 0;deed 1 0 0 0;deed 0 0 0 0;elder 1;younger 1;");
        late.see(12, 19);
        Checks.same("deed 0 in any of 12 years", 12, late.another(0));
        late.see(11, 20);
        Checks.same("in the twelfth", 120, late.another(1));
        late.forget();
        late.see(30, 19);
        late.see(12, 20);
        Checks.same("not in the thirteenth", 0, late.another(0));
        TurnBrothers wayless = Checks.landed("city 20 0 0;harvests 0;deed 1 0 0 0;");
        wayless.see(30, 19);
        Checks.same("in place of none", 12, wayless.another(0));
        Checks.same("without a way nothing is done", 0, wayless.another(2));
        TurnBrothers putOff = Checks.landed("city 4 0 0;harvests 0;deed 1 0 0 0;deed 9 0 0 0;elder 0;younger 0;");
        putOff.see(1, 4);
        Checks.same("put off in its place", 11, putOff.another(1));
        Checks.same("that alone", 1, putOff.another(0));
    }

    private static void promise31() {
        TurnBrothers x = Checks.landed(TWO);
        Checks.same("most unlike", 2, x.next(0));
        Checks.same("how many", 3, x.next(1));
        x.see(1, 7);
        Checks.same("one deed alone", 1, x.next(0));
        Checks.same("one store", 1, x.next(1));
        x.see(1, 8);
        Checks.same("none", -1, x.next(0));
        Checks.same("none at all", 0, x.next(1));
        Checks.same("without deeds", -1, new TurnBrothers().next(0));
        Checks.same("without deeds none", 0, new TurnBrothers().next(1));
        // a store of 20 that one deed of 1 to 7 lessens in one of 12 years
        TurnBrothers many = Checks.landed("city 20 0 0;harvests 0;deed 1 0 0 0;deed 2 0 0 0;deed 3 0 0 0;deed 4 0 0 0;"
                + "deed 5 0 0 0;deed 6 0 0 0;deed 7 0 0 0;");
        Checks.same("the first of like ones", 1, many.next(0));
        Checks.same("7 that are done, and none as yet", 8, many.next(1));
        many.see(30, 18);
        Checks.same("the first again", 1, many.next(0));
        Checks.same("one that is done, or not as yet", 2, many.next(1));
        many.see(1, 20);
        Checks.same("not in the first year", 2, many.next(0));
        TurnBrothers late = Checks.landed("city 9 0 0;harvests 0;deed 2 0 0 0;deed 1 0 0 0;term 1;");
        late.see(11, 9);
        Checks.same("in the twelfth", 12, late.next(0));
        Checks.same("by two deeds", 2, late.next(1));
        // only walls differ, till he stays by them, and the other one's deed of 99 isn't done in the 30th year
        TurnBrothers last = Checks.landed("city 0 20 0;harvests 0 0 0 0 0 0 0 0 0 33;deed 0 1 0 0;deed 99 0 0 0;"
                + "younger 1;stays year=29 and 20<walls;");
        Checks.same("in the thirtieth", 30, last.next(0));
        Checks.same("99 or none", 2, last.next(1));
        Checks.noSuch("next what 2", () -> x.next(2));
        Checks.noSuch("next what -1", () -> x.next(-1));
    }

    private static void promise32() {
        TurnBrothers x = Checks.landed(TWO);
        Checks.same("how many rest", 2, x.game(0, 1, 0));
        Checks.same("the first", 1, x.game(0, 1, 1));
        Checks.same("told the other way", 2, x.game(1, 0, 0));
        Checks.same("the first then", 1, x.game(1, 0, 1));
        Checks.noSuch("deed 2", () -> x.game(2, 0, 0));
        Checks.noSuch("deed -1", () -> x.game(0, -1, 0));
        Checks.noSuch("game what 2, ahead", () -> x.game(0, 0, 2));
        Checks.noSuch("game what -1", () -> x.game(0, 1, -1));
        Checks.noSuch("both no deed", () -> x.game(9, 9, 0));
        Checks.illegal("both are one", () -> x.game(0, 0, 0));
        // the better deed is worth more than 3: both choose it
        TurnBrothers glory = Checks.landed("deed 0 0 0 0;deed 0 0 0 9;deed 0 0 0 5;");
        Checks.same("one couple", 1, glory.game(0, 1, 0));
        Checks.same("both the second", 11, glory.game(0, 1, 1));
        Checks.same("both the first", 0, glory.game(1, 0, 1));
        Checks.same("choices, not deeds", 0, glory.game(1, 2, 1));
        // 3 more, alike: he doesn't gain more by the other choice
        TurnBrothers alike = Checks.landed("deed 0 0 0 0;deed 0 0 0 3;");
        Checks.same("no more by the other", 3, alike.game(0, 1, 0));
        Checks.same("the first of these", 1, alike.game(0, 1, 1));
        // what the first one pays is gone: the other one's deed isn't done, and yet it is one choice
        TurnBrothers dear = Checks.landed("city 9 0 0;harvests 0;deed 9 0 0 9;deed 0 0 0 1;");
        Checks.same("the other one takes what is left", 1, dear.game(0, 1, 0));
        Checks.same("so they rest", 1, dear.game(0, 1, 1));
        TurnBrothers poor = Checks.landed("city 0 0 0;harvests 0;deed 9 0 0 9;deed 8 0 0 8;");
        Checks.same("3 less, done or not", 2, poor.game(0, 1, 0));
        TurnBrothers one = Checks.landed("term 5;deed 0 0 0 9;deed 0 0 0 8;elder 1;");
        Checks.same("they are two, though one rules in both", 2, one.game(0, 1, 0));
        TurnBrothers harvest = Checks.landed("city 0 0 0;harvests 0 9;deed 9 0 0 9;deed 0 0 0 0;");
        Checks.same("harvests of their years", 1, harvest.game(0, 1, 0));
        Checks.same("only the other one can pay", 10, harvest.game(0, 1, 1));
    }

    private static void promise33() {
        TurnBrothers x = Checks.landed("city 0 0 100;deed 0 0 0 3;elder 0;stays 0;");
        Checks.same("store now", 0, x.cities(5, 0, 0));
        Checks.same("debt now", 100, x.cities(5, 0, 1));
        Checks.same("glory now", 0, x.cities(5, 0, 2));
        for (int seed = -3; seed < 40; seed++) {
            byHand(x, seed * 77777777);
        }
        Checks.noSuch("cities what 3, ahead", () -> x.cities(1, 61, 3));
        Checks.noSuch("cities what -1", () -> x.cities(1, 1, -1));
        Checks.illegal("n 61", () -> x.cities(1, 61, 0));
        Checks.illegal("n -1", () -> x.cities(1, -1, 2));
    }

    /** The elder gains 3 a year that he rules, the younger none; the turn changes each year, or he falls. */
    private static void byHand(TurnBrothers x, int seed) {
        int store = 0;
        int debt = 100;
        int glory = 0;
        int ruler = 0;
        int s = seed;
        for (int n = 1; n <= 60; n++) {
            s = s * 1103515245 + 12345;
            store = Math.min(999, store + (s >> 16 & 0x7fff) % 60);
            debt = Math.min(999, debt + debt / 10);
            s = s * 1103515245 + 12345;
            if ((s >> 16 & 0x7fff) % 9 == 0) {
                ruler = 1 - ruler;
            }
            glory += ruler == 0 ? 3 : 0;
            ruler = 1 - ruler;
            if (n < 12 || n == 60) {
                Checks.same("store of seed " + seed + " in " + n, store, x.cities(seed, n, 0));
                Checks.same("debt of seed " + seed + " in " + n, debt, x.cities(seed, n, 1));
                Checks.same("glory of seed " + seed + " in " + n, glory, x.cities(seed, n, 2));
            }
        }
    }

    private static void promise34() {
        Checks.same("in two years", 2, Checks.landed(LandTest.CITY).ruin());
        Checks.same("so now", 0, Checks.landed("city 4 0 5;").ruin());
        Checks.same("as much is not more", -1, Checks.landed("city 5 0 5;harvests 0;").ruin());
        Checks.same("never", -1, new TurnBrothers().ruin());
        // 10 11 12 13 14 15 16 17 18 19 20 22 .. against 60: in 22 years
        TurnBrothers late = Checks.landed("city 59 0 10;harvests 0;");
        int debt = 10;
        int years = 0;
        while (debt <= 59) {
            debt += debt / 10;
            years++;
        }
        Checks.same("late", years, late.ruin());
        late.years(1);
        Checks.same("from now on", years - 1, late.ruin());
        String eaten = " 0 1;harvests 0;deed 1 0 0 0;elder 0;younger 0;";
        Checks.same("in the last year", 60, Checks.landed("city 60" + eaten).ruin());
        Checks.same("not in 61", -1, Checks.landed("city 61" + eaten).ruin());
    }

    private static void promise35() {
        TurnBrothers still = new TurnBrothers();
        Checks.same("now", 0, still.highest(0));
        Checks.same("20", 20, still.highest(1));
        TurnBrothers x = Checks.landed("city 0 10 0;deed 0 7 0 0;deed 0 -7 0 0;elder 0;younger 1;");
        Checks.same("the first of like ones", 1, x.highest(0));
        Checks.same("17", 17, x.highest(1));
        x.years(1);
        Checks.same("now again", 0, x.highest(0));
        TurnBrothers up = Checks.landed("city 0 40 0;deed 0 1 0 0;elder 0;younger 0;");
        Checks.same("kept to 99", 59, up.highest(0));
        Checks.same("99", 99, up.highest(1));
        TurnBrothers last = Checks.landed("city 0 39 0;deed 0 1 0 0;elder 0;younger 0;");
        Checks.same("in the 60th", 60, last.highest(0));
        Checks.noSuch("highest what 2", () -> x.highest(2));
        Checks.noSuch("highest what -1", () -> x.highest(-1));
    }

    private static void promise36() {
        TurnBrothers like = Checks.landed("city 0 0 0;harvests 0;");
        Checks.same("of like ones 0", 0, like.better(0));
        Checks.same("by none", 0, like.better(1));
        TurnBrothers x = Checks.landed("city 0 0 0;harvests 3 5;");
        Checks.same("the years of 5", 1, x.better(0));
        Checks.same("30 times 2", 60, x.better(1));
        x.years(1);
        Checks.same("the same ones from now on", 1, x.better(0));
        TurnBrothers debt = Checks.landed("city 0 0 9;harvests 0;deed 0 0 -9 0;younger 0;");
        Checks.same("he who pays the debt", 1, debt.better(0));
        Checks.same("by 9", 9, debt.better(1));
        TurnBrothers row = Checks.landed("city 0 0 0;harvests 1;stays 1;");
        Checks.same("he who rules all", 0, row.better(0));
        Checks.same("by all", 60, row.better(1));
        TurnBrothers less = Checks.landed("city 999 0 0;harvests 0;deed 1 0 0 0;deed 4 0 0 0;elder 1;younger 0;");
        Checks.same("he who spends less", 1, less.better(0));
        Checks.same("30 times 3", 90, less.better(1));
        Checks.noSuch("better what 2", () -> x.better(2));
        Checks.noSuch("better what -1", () -> x.better(-1));
    }

    private static void promise37() {
        TurnBrothers x = Checks.landed(LandTest.CITY);
        Checks.same("gate 0", 15, x.guarded(0));
        Checks.same("gate 1", 10, x.guarded(1));
        Checks.same("no champions", 0, Checks.landed("gate 5 1;").guarded(0));
        Checks.same("walls are enough", 0, Checks.landed("city 0 99 0;champion 4 1;gate 5 1;").guarded(0));
        Checks.same("the most", 25, Checks.landed("city 0 9 0;champion 20 1;gate 5 1;").guarded(0));
        Checks.noSuch("gate 2", () -> x.guarded(2));
        Checks.noSuch("gate -1", () -> x.guarded(-1));
    }

    private static void promise38() {
        TurnBrothers x = Checks.landed(LandTest.CITY);
        Checks.same("no more by it", -1, x.swap(0));
        Checks.same("a way of one", -1, x.swap(1));
        Checks.same("no way", -1, new TurnBrothers().swap(1));
        // 15 years each in 30: of a way of two the first is done 8 times
        TurnBrothers two = Checks.landed("deed 0 0 0 1;deed 0 0 0 2;elder 0 1;younger 1 0;");
        Checks.same("the better first", 1, two.swap(0));
        Checks.same("it is as it should be", -1, two.swap(1));
        // 15 years of a way of six: the first three are done 3 times, the others twice
        TurnBrothers six = Checks.landed("deed 0 0 0 1;deed 0 0 0 5;elder 0 0 0 0 1 1;younger 1 1 1 0 0 0;");
        Checks.same("the first of like ones", 4, six.swap(0));
        TurnBrothers later = Checks.landed("deed 0 0 0 1;deed 0 0 0 5;deed 0 0 0 7;elder 1 1 0 0 1 2;");
        Checks.same("the most", 25, later.swap(0));
        later.years(4);
        Checks.same("from now on", later(4), later.swap(0));
        Checks.noSuch("brother 2", () -> x.swap(2));
        Checks.noSuch("brother -1", () -> x.swap(-1));
    }

    /** The best change of that way, when so many years have gone, counted by hand. */
    private static int later(int gone) {
        int[] glory = {5, 5, 1, 1, 5, 7};
        int most = gloryOf(glory, gone);
        int best = -1;
        for (int i = 0; i < 6; i++) {
            for (int j = i + 1; j < 6; j++) {
                int[] other = glory.clone();
                other[i] = glory[j];
                other[j] = glory[i];
                if (gloryOf(other, gone) > most) {
                    most = gloryOf(other, gone);
                    best = 10 * i + j;
                }
            }
        }
        return best;
    }

    private static int gloryOf(int[] way, int gone) {
        int sum = 0;
        for (int year = gone; year < gone + 30; year++) {
            if (year % 2 == 0) {
                sum += way[year / 2 % 6];
            }
        }
        return sum;
    }

    private static void nothingChanges() {
        TurnBrothers x = Checks.landed(LandTest.CITY);
        x.years(3);
        x.see(2, 30);
        int[] before = new int[19];
        for (int what = 0; what < 19; what++) {
            before[what] = x.count(what);
        }
        x.then(60, 0);
        x.stays(0);
        x.fair();
        x.least();
        x.cost(60);
        x.plan(4, 0);
        x.assault(1);
        x.bought(0);
        x.odds(0, 5, 5);
        x.moved(0, 99);
        x.parties(0);
        x.another(0);
        x.next(0);
        x.game(0, 1, 0);
        x.cities(7, 60, 0);
        x.ruin();
        x.highest(0);
        x.better(0);
        x.swap(0);
        for (int what = 0; what < 19; what++) {
            Checks.same("count " + what + " behind all questions", before[what], x.count(what));
        }
        Checks.same("glory 0", 11, x.brother(0, 0));
        Checks.same("glory 1", 1, x.brother(1, 0));
        Checks.same("way", 1, x.way(0, 1));
        Checks.same("undo", 0, x.undo());
        Checks.same("store", 30, x.count(0));
    }
}
