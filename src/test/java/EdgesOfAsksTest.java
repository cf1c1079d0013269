/** 'Terms', ==== 3 and ==== 4: the first and the last value that counts for each question, none, all, of like ones which. */
public final class EdgesOfAsksTest {
    /** A YEAR of which nothing comes but what DEEDS bring. */
    private static final String BARE = "city 0 0 0;harvests 0;";

    private EdgesOfAsksTest() {
    }

    public static void main(String[] args) {
        thenNow();
        thenSixty();
        thenPutOff();
        staysInOne();
        staysInSixty();
        staysWho();
        fairInThirty();
        fairEachTerm();
        fairSetNow();
        leastOfLikeOnes();
        leastInThirty();
        leastOfFive();
        leastEachTerm();
        costOfOne();
        costOfSixty();
        costYearByYear();
        costAsksNobody();
        planOfOne();
        planWithoutDeeds();
        planOfFour();
        planLikeOnes();
        planPaysExactly();
        planAsksStays();
        Checks.finish();
    }

    private static void thenNow() {
        TurnBrothers x = Checks.landed(LandTest.CITY);
        int[] counts = {0, 1, 2, -1, -1, 4, 7};
        for (int year = 0; year < 9; year++) {
            for (int what = 0; what < 7; what++) {
                int due = counts[what] < 0 ? x.brother(what - 3, 0) : x.count(counts[what]);
                Checks.same("then(0, " + what + ")", due, x.then(0, what));
            }
            x.years(1);
        }
    }

    private static void thenSixty() {
        TurnBrothers x = Checks.landed(LandTest.CITY);
        TurnBrothers y = Checks.landed(LandTest.CITY);
        for (int years = 1; years <= 60; years++) {
            y.years(1);
            for (int what = 0; what < 7; what++) {
                Checks.same("then(" + years + ", " + what + ")", y.then(0, what), x.then(years, what));
            }
        }
    }

    private static void thenPutOff() {
        TurnBrothers x = Checks.landed(BARE + "deed 1 0 0 0;elder 0;younger 0;");
        Checks.same("none so far", 0, x.then(0, 6));
        Checks.same("sixty", 60, x.then(60, 6));
        for (int i = 0; i < 40; i++) {
            x.years(20);
        }
        Checks.same("those so far", 800, x.then(0, 6));
        Checks.same("those so far, too", 860, x.then(60, 6));
    }

    private static void staysInOne() {
        TurnBrothers x = Checks.landed("stays year=1;");
        Checks.same("in one", 1, x.stays(0));
        Checks.same("the elder", 0, x.stays(1));
        x.years(1);
        Checks.same("he who stayed does so no more", -1, x.stays(0));
        TurnBrothers always = Checks.landed("stays 1;");
        always.years(20);
        Checks.same("stayed so far don't count", 1, always.stays(0));
    }

    private static void staysInSixty() {
        for (int year = 58; year <= 62; year++) {
            TurnBrothers x = Checks.landed("stays year=" + year + ";");
            Checks.same("in " + year, year <= 60 ? year : -1, x.stays(0));
            Checks.same("who in " + year, year <= 60 ? (year - 1) % 2 : -1, x.stays(1));
            x.years(1);
            Checks.same("in one fewer than " + year, year <= 61 ? year - 1 : -1, x.stays(0));
        }
        Checks.same("never without", -1, new TurnBrothers().stays(0));
        Checks.same("nobody without", -1, new TurnBrothers().stays(1));
        Checks.same("never by 0", -1, Checks.landed("stays 0;").stays(1));
    }

    private static void staysWho() {
        for (int term = 1; term <= 5; term++) {
            for (int turn = 1; turn <= 60 / term; turn++) {
                TurnBrothers x = Checks.landed("term " + term + ";stays year=" + term * turn + ";");
                Checks.same("when", term * turn, x.stays(0));
                Checks.same("who", (turn - 1) % 2, x.stays(1));
            }
        }
    }

    private static void fairInThirty() {
        Checks.same("he stays in the thirtieth", 4, Checks.landed("stays year=30;").fair());
        Checks.same("he stays in the one behind", 1, Checks.landed("stays year=31;").fair());
        Checks.same("none is fair", -1, Checks.landed("stays 1;").fair());
        Checks.same("none is fair by a year of each",
                -1, Checks.landed("stays year=30 or year=28;").fair());
        Checks.same("only in the first", 2, Checks.landed("stays year=1;").fair());
        Checks.same("without stays", 1, Checks.landed("term 5;").fair());
    }

    private static void fairEachTerm() {
        for (int term = 1; term <= 5; term++) {
            TurnBrothers x = Checks.landed("stays year<" + term + ";");
            Checks.same("nobody is asked ahead of " + term, term, x.fair());
        }
        Checks.same("all five end a turn by then", -1, Checks.landed("stays year<6;").fair());
        // a term of 5 ends its turns in 5, 10 .. : of the others each ends one in another year
        Checks.same("the last one", 5, Checks.landed("stays year=1 or year=2 or year=3 or year=4;").fair());
    }

    /** Set now: what he RULED so far one behind the other counts. */
    private static void fairSetNow() {
        TurnBrothers x = Checks.landed("term 5;stays year=5;");
        x.years(4);
        for (int term = 1; term <= 5; term++) {
            x.term(term);
            Checks.same("all terms end in the fifth year", -1, x.fair());
            Checks.same("least, too, sees one term at a time", 1, x.least());
        }
        TurnBrothers y = Checks.landed("term 5;stays year=4;");
        y.years(2);
        // by 1 to 3 his turn is done in 3: the other one's is by 1 in 4
        Checks.same("set now", 2, y.fair());
        Checks.same("its own term stays", 5, y.count(6));
    }

    private static void leastOfLikeOnes() {
        Checks.same("all like: the least", 1, Checks.landed("term 5;").least());
        Checks.same("all put off: the least", 1, Checks.landed(BARE + "term 3;deed 1 0 0 0;elder 0;younger 0;").least());
        Checks.same("without deeds", 1, new TurnBrothers().least());
    }

    private static void leastInThirty() {
        String way = "deed 1 0 0 0;younger 0;term 1;";
        TurnBrothers x = Checks.landed("city 0 0 0;harvests 0 1 0 1 0 1 0 1 0 0;deed 1 0 0 0;younger 0;term 5;");
        Checks.same("by hand", leastByHand(new int[] {0, 1, 0, 1, 0, 1, 0, 1, 0, 0}), x.least());
        TurnBrothers y = Checks.landed("city 0 0 0;harvests 0 0 0 1 1 1 0;" + way);
        Checks.same("by hand again", leastByHand(new int[] {0, 0, 0, 1, 1, 1, 0}), y.least());
        String both = "harvests 0;deed 1 0 0 0;deed 0 0 0 0;elder 0;younger 0;";
        Checks.same("30 of 30 are done", 0, Checks.landed("city 30 0 0;" + both).then(30, 6));
        Checks.same("30 in store: of like ones the least", 1, Checks.landed("city 30 0 0;term 4;" + both).least());
        // the elder's deed is free: the younger pays 15, 14, 15, 14, 15 times in 30 by terms of 1 to 5, in 31
        // 15, 15 by 1 and 2
        String free = "harvests 0;deed 0 0 0 0;deed 1 0 0 0;elder 0;younger 1;";
        Checks.same("15 in store: none is put off", 1, Checks.landed("city 15 0 0;" + free).least());
        Checks.same("14 in store: fewer by 2", 2, Checks.landed("city 14 0 0;" + free).least());
        Checks.same("13 in store: fewest by 2", 2, Checks.landed("city 13 0 0;" + free).least());
    }

    /** The younger one pays 1 a YEAR, if it is there: by which TERM that fails least in 30 YEARS. */
    private static int leastByHand(int[] harvests) {
        int best = 0;
        int fewest = 99;
        for (int term = 1; term <= 5; term++) {
            int store = 0;
            int putOff = 0;
            for (int year = 0; year < 30; year++) {
                store += harvests[year % harvests.length];
                if (year / term % 2 == 1) {
                    putOff += store == 0 ? 1 : 0;
                    store -= store == 0 ? 0 : 1;
                }
            }
            if (putOff < fewest) {
                fewest = putOff;
                best = term;
            }
        }
        return best;
    }

    /** The younger one pays 1 in each of his YEARS; what can be paid comes in the second five of ten. */
    private static void leastOfFive() {
        TurnBrothers x = Checks.landed("city 0 0 0;harvests 0 0 0 0 0 1 1 1 1 1;deed 1 0 0 0;younger 0;");
        Checks.same("the last term", 5, x.least());
        int[] due = {0, 2, 2, 2, 2, 0};
        for (int term = 1; term <= 5; term++) {
            x.term(term);
            Checks.same("put off by " + term, due[term], x.then(30, 6));
        }
        Checks.same("whatever the term is now", 5, x.least());
    }

    /** The TERM set now, with the YEARS that he RULED so far: as if term() had been called. */
    private static void leastEachTerm() {
        for (int term = 1; term <= 5; term++) {
            int[] putOff = new int[6];
            TurnBrothers x = Checks.landed(BARE + "deed 0 0 0 0;deed 9 0 0 0;elder 0;younger 1;term " + term + ";");
            for (int years = 0; years < 4; years++) {
                int best = 1;
                for (int set = 1; set <= 5; set++) {
                    TurnBrothers y = Checks.landed(BARE + "deed 0 0 0 0;deed 9 0 0 0;elder 0;younger 1;term " + term + ";");
                    if (years > 0) {
                        y.years(years);
                    }
                    y.term(set);
                    putOff[set] = y.then(30, 6);
                    best = putOff[set] < putOff[best] ? set : best;
                }
                Checks.same("least behind " + years + " by " + term, best, x.least());
                x.years(1);
            }
        }
    }

    private static void costOfOne() {
        TurnBrothers x = Checks.landed("city 10 0 0;harvests 0;deed 4 0 3 0;deed 1 0 1 0;elder 0;younger 1;");
        Checks.same("the next year is his anyway", 0, x.cost(1));
        // alone: 4 and 3 again, so 10 - 8 - 6; by turns: 10 - 5 - 4
        Checks.same("below 0", -5, x.cost(2));
        x.years(1);
        Checks.same("the other one's next year", 0, x.cost(1));
        // the younger one: 6 - 2 - (3 + 2); by turns: 6 - 5 - (3 + 4)
        Checks.same("above 0", 5, x.cost(2));
    }

    private static void costOfSixty() {
        TurnBrothers x = Checks.landed("city 60 0 0;harvests 0;deed 1 0 0 0;elder 0;");
        for (int years = 1; years <= 60; years++) {
            Checks.same("cost(" + years + ")", -(years / 2), x.cost(years));
        }
        TurnBrothers y = Checks.landed("city 60 0 0;harvests 0;deed 1 0 0 0;younger 0;");
        for (int years = 1; years <= 60; years++) {
            Checks.same("cost(" + years + ") of him who does nothing", years / 2, y.cost(years));
        }
        Checks.same("nothing is done by either", 0, new TurnBrothers().cost(60));
    }

    /** In his YEARS alone, too, the HARVESTS and the DEEDS of his WAY come in their order. */
    private static void costYearByYear() {
        Checks.same("harvests alone", 0, Checks.landed("city 0 0 0;harvests 1 5 9;").cost(7));
        TurnBrothers x = Checks.landed("city 99 0 0;harvests 0;deed 1 0 0 0;deed 4 0 0 0;deed 9 0 0 0;elder 0 1 2;");
        // alone 1, 4, 9, 1 ..; by turns 1, none, 4, none, 9 ..
        int[] due = {0, 0, -4, -9, -10, -5, -14, -14};
        for (int years = 1; years < due.length; years++) {
            Checks.same("cost(" + years + ") of three deeds", due[years], x.cost(years));
        }
        TurnBrothers dear = Checks.landed("city 0 0 0;harvests 0 9;deed 9 0 0 0;elder 0;");
        // the second harvest comes in the other one's year: alone he pays it at once
        Checks.same("what isn't there is put off, alone, too", -9, dear.cost(2));
    }

    private static void costAsksNobody() {
        TurnBrothers x = Checks.landed("city 60 0 0;harvests 0;deed 1 0 0 0;elder 0;stays 1;");
        Checks.same("by turns he stays, too", 0, x.cost(60));
        TurnBrothers y = Checks.landed("city 60 0 0;harvests 0;deed 1 0 0 0;elder 0;term 5;stays year=5;");
        Checks.same("within his term", 0, y.cost(5));
        Checks.same("he stays by turns, too", 0, y.cost(6));
        Checks.same("in the seventh the other one rules", -1, y.cost(7));
    }

    private static void plan(String text, int years, int gain, int deed) {
        TurnBrothers x = Checks.landed(text);
        Checks.same("plan of " + years + " in " + text, gain, x.plan(years, 0));
        Checks.same("its beginning in " + text, deed, x.plan(years, 1));
    }

    private static void planOfOne() {
        plan("deed 0 0 0 20;", 1, 20, 0);
        plan("deed 0 0 0 -20;", 1, 0, -1);
        plan("deed 0 0 0 0;", 1, 0, 0);
        plan("deed 99 0 0 20;", 1, 0, -1);
        plan("deed 0 0 0 1;deed 0 0 0 2;deed 0 0 0 3;deed 0 0 0 4;deed 0 0 0 5;deed 0 0 0 6;deed 0 0 0 7;", 1, 7, 6);
        plan("deed 0 0 0 1;deed 0 0 0 2;deed 0 0 0 3;deed 0 0 0 4;deed 0 0 0 5;deed 0 0 0 6;deed 0 0 0 7;", 2, 0, 6);
    }

    private static void planWithoutDeeds() {
        TurnBrothers x = new TurnBrothers();
        for (int years = 1; years <= 4; years++) {
            Checks.same("no gain", 0, x.plan(years, 0));
            Checks.same("none", -1, x.plan(years, 1));
        }
    }

    private static void planOfFour() {
        plan("term 5;deed 0 0 0 20;", 4, 80, 0);
        plan("term 3;deed 0 0 0 20;", 4, 40, 0);
        plan("term 2;deed 0 0 0 20;", 4, 0, 0);
        plan("term 1;deed 0 0 0 20;", 4, 0, 0);
        plan("term 1;deed 0 0 0 20;", 3, 20, 0);
        plan("stays 1;deed 0 0 0 20;", 4, 80, 0);
        TurnBrothers x = Checks.landed("term 3;deed 0 0 0 20;");
        x.years(1);
        Checks.same("two years of his are left", 0, x.plan(4, 0));
        x.years(2);
        Checks.same("then three of the other one", 40, x.plan(4, 0));
    }

    private static void planLikeOnes() {
        plan("deed 0 0 0 3;deed 0 0 0 3;", 1, 3, 0);
        plan("deed 0 0 0 2;deed 0 0 0 3;deed 0 0 0 3;", 1, 3, 1);
        plan("deed 0 0 0 -1;deed 0 0 0 0;", 1, 0, 1);
        plan("deed 0 0 0 -1;deed 0 0 0 -1;", 1, 0, -1);
        plan("deed 0 0 0 -1;deed 0 0 0 -1;deed 0 0 0 0;deed 0 0 0 0;", 4, 0, 2);
        plan("deed 99 0 0 9;deed 98 0 0 5;deed 0 0 0 0;", 1, 0, 2);
    }

    private static void planPaysExactly() {
        plan("city 10 0 0;harvests 5;deed 15 0 0 7;", 1, 7, 0);
        plan("city 9 0 0;harvests 5;deed 15 0 0 7;", 1, 0, -1);
        plan("city 990 0 0;harvests 99;deed 99 0 0 7;", 4, 0, 0);
        // 999 at most: 10 harvests would pay more
        plan("city 0 0 0;harvests 0;deed 0 0 0 7;", 1, 7, 0);
        // what he does not pay the other one would
        plan("city 5 0 0;harvests 0;deed 5 0 0 1;deed 5 0 0 2;", 2, 2, 1);
        // in the second year the harvest of that year is there
        plan("city 0 0 0;harvests 0 9;deed 9 0 0 4;deed 0 0 0 1;", 2, -3, 1);
    }

    private static void planAsksStays() {
        plan("stays walls=20;deed 0 1 0 9;deed 0 0 0 5;", 2, 14, 1);
        plan("stays walls=20;deed 0 1 0 9;deed 0 0 0 5;", 1, 9, 0);
        plan("stays glory=2;deed 0 0 0 1;deed 0 0 0 2;", 2, 4, 1);
        plan("stays debt<3;deed 0 0 3 6;deed 0 0 0 1;", 2, 7, 1);
        plan("stays year=1;deed 0 0 0 20;", 3, 20, 0);
        plan("stays year=2;deed 0 0 0 20;", 3, -20, 0);
    }
}
