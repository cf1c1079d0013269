/** 'Terms', ==== 4: other DEEDS, games, seeds and comparisons (promises 30 to 36, 38): the first and the last that counts. */
public final class EdgesOfSightTest {
    private static final String BARE = "city 0 0 0;harvests 0;";
    private static final int MIN = Integer.MIN_VALUE;
    private static final int MAX = Integer.MAX_VALUE;

    private EdgesOfSightTest() {
    }

    public static void main(String[] args) {
        anotherWithoutDeeds();
        anotherOfAll();
        anotherInTwelve();
        anotherSeenInThirty();
        anotherOfItsOwn();
        anotherPutOff();
        anotherOfNone();
        anotherTurnsWithStays();
        nextOfNone();
        nextFirstOfLikeOnes();
        nextInTwelve();
        nextInThirty();
        nextOfLargeStores();
        nextCountsUnlikeOnes();
        gameOfLikeDeeds();
        gameNoMore();
        gameThreeLess();
        gameDoneOrNot();
        gameOfOneRuler();
        gameOfAllCouples();
        citiesOfNone();
        citiesOfOne();
        citiesWhereHeFalls();
        citiesFallFromThisYearOn();
        citiesOfSeedsThatWrap();
        citiesLeaveTheYears();
        ruinNow();
        ruinInSixty();
        highestNow();
        highestInSixty();
        betterOfLikeOnes();
        betterInSixty();
        swapOfNone();
        swapFirstOfLikeOnes();
        swapInThirty();
        swapIfMore();
        Checks.finish();
    }

    private static void another(TurnBrothers x, int many, int first, int without) {
        Checks.same("how many", many, x.another(0));
        Checks.same("the first", first, x.another(1));
        Checks.same("without", without, x.another(2));
    }

    private static void anotherWithoutDeeds() {
        TurnBrothers x = new TurnBrothers();
        another(x, 0, -1, 1);
        x.see(1, 70);
        another(x, 0, -1, 1);
        x.see(2, 70);
        another(x, 0, -1, 0);
    }

    private static void anotherOfAll() {
        for (int deeds = 0; deeds <= 7; deeds++) {
            TurnBrothers x = Checks.landed("deed 1 1 1 1;".repeat(deeds));
            another(x, 12 * deeds, deeds == 0 ? -1 : 10, 1);
        }
    }

    /** A DEED of COST 1 in one YEAR, seen to be done behind the first, the second .. */
    private static void anotherInTwelve() {
        for (int year = 1; year <= 14; year++) {
            TurnBrothers x = Checks.landed("city 5 0 0;harvests 0;deed 0 0 0 0;deed 1 0 0 0;");
            if (year > 1) {
                x.see(year - 1, 5);
            }
            x.see(year, 4);
            another(x, year <= 12 ? 1 : 0, year <= 12 ? 10 * year + 1 : -1, 0);
        }
    }

    private static void anotherSeenInThirty() {
        TurnBrothers x = Checks.landed("city 5 0 0;harvests 0;deed 1 0 0 0;");
        x.see(30, 4);
        another(x, 12, 10, 0);
        x.see(12, 4);
        another(x, 12, 10, 0);
        x.see(11, 5);
        another(x, 1, 120, 0);
        x.see(30, 5);
        another(x, 0, -1, 0);
        x.forget();
        x.see(30, 5);
        another(x, 0, -1, 1);
        // a change behind the last that is seen is none
        x.forget();
        x.see(3, 5);
        another(x, 9, 40, 1);
    }

    private static void anotherOfItsOwn() {
        TurnBrothers x = Checks.landed("city 50 0 0;harvests 0;deed 1 0 0 0;deed 2 0 0 0;elder 0;younger 1;");
        x.see(1, 49);
        x.see(2, 47);
        // in the first two years his way's own one alone, in ten both
        another(x, 2 + 20, 10, 1);
        x.see(12, 32);
        another(x, 12, 10, 1);
        x.see(12, 31);
        another(x, 0, -1, 0);
    }

    private static void anotherPutOff() {
        TurnBrothers x = Checks.landed("city 4 0 0;harvests 0;deed 4 0 0 0;deed 5 0 0 0;elder 0;younger 0;");
        x.see(1, 4);
        // put off in its place: his next one is the other one's, who pays
        another(x, 1, 11, 0);
        x.see(2, 0);
        another(x, 1, 11, 0);
    }

    private static void anotherOfNone() {
        TurnBrothers x = Checks.landed("city 9 0 0;harvests 0;deed 4 0 0 0;elder 0;");
        x.see(1, 5);
        // his own, or in place of none ahead of it: then his own is put off
        x.see(3, 1);
        another(x, 12, 10, 1);
        x.see(2, 1);
        another(x, 1, 20, 0);
    }

    /** By another DEED he STAYS, so others RULE in the YEARS behind it. */
    private static void anotherTurnsWithStays() {
        TurnBrothers x = Checks.landed("city 99 0 0;harvests 0;deed 1 0 0 0;deed 1 1 0 0;deed 9 0 0 0;elder 0;younger 2;"
                + "stays walls=1 and year<3;");
        x.see(1, 98);
        x.see(2, 97);
        // the elder stays by walls of 1 and pays 1 again, or the younger one does a deed of 1
        another(x, 3, 11, 0);
        x.see(3, 88);
        // the younger one stays, who built, and pays 9
        another(x, 1, 21, 0);
    }

    private static void next(TurnBrothers x, int year, int many) {
        Checks.same("the next year", year, x.next(0));
        Checks.same("how many unlike", many, x.next(1));
    }

    private static void nextOfNone() {
        next(new TurnBrothers(), -1, 0);
        TurnBrothers x = Checks.landed("deed 1 0 0 0;");
        x.see(1, 999);
        next(x, -1, 0);
        x.forget();
        next(x, 1, 2);
    }

    private static void nextFirstOfLikeOnes() {
        // all alike: one store behind each year
        next(Checks.landed(BARE + "deed 0 0 0 0;"), 1, 1);
        next(Checks.landed(BARE + "deed 9 0 0 0;"), 1, 1);
        next(Checks.landed("city 9 0 0;harvests 0;deed 9 0 0 0;"), 1, 2);
        TurnBrothers x = Checks.landed("city 9 0 0;harvests 0;deed 9 0 0 0;");
        for (int year = 1; year <= 8; year++) {
            x.see(year, 9);
            next(x, year + 1, 2);
        }
    }

    /** The DEEDS of the twelfth YEAR count, those of the thirteenth not. */
    private static void nextInTwelve() {
        TurnBrothers x = Checks.landed("city 9 0 0;harvests 0;deed 1 0 0 0;deed 2 0 0 0;");
        x.see(11, 9);
        next(x, 12, 2);
        x.see(12, 9);
        next(x, -1, 0);
        x.forget();
        x.see(12, 7);
        next(x, 1, 2);
    }

    /** Up to 999 each STORE is told from each other one. */
    private static void nextOfLargeStores() {
        int[] costs = {1, 3, 63, 64, 65, 96, 99};
        for (int store : new int[] {99, 128, 129, 164, 640, 899, 960, 998, 999}) {
            StringBuilder text = new StringBuilder("city " + store + " 0 0;harvests 0;");
            for (int cost : costs) {
                text.append("deed ").append(cost).append(" 0 0 0;");
            }
            // each is paid in place of none in the first year, or none as yet
            next(Checks.landed(text.toString()), 1, 8);
        }
        TurnBrothers x = Checks.landed("city 998 0 0;harvests 0 10 0;deed 9 0 0 0;deed 10 0 0 0;deed 20 0 0 0;");
        // behind the first: 998, 989, 988, 978; behind the second: 999, 998, 990, 989, 988, 979
        next(x, 2, 6);
        // who builds leaves the rule to the younger one, who pays 96 till 39 are left: 999, 903 .. 39 behind the
        // eleventh year first
        next(Checks.landed("city 999 20 0;harvests 0;deed 0 0 0 0;deed 96 0 0 0;deed 0 1 0 0;elder 0;younger 1;"
                + "friend 9 1;stays men or walls<21;"), 11, 11);
    }

    /** STORES are unlike behind one YEAR alone: behind the 31st that doesn't count. */
    private static void nextInThirty() {
        next(Checks.landed(unlikeBehind(29)), 29, 2);
        next(Checks.landed(unlikeBehind(30)), 30, 2);
        next(Checks.landed(unlikeBehind(31)), 1, 1);
    }

    /** Who builds once makes the other one STAY ahead of the last YEAR, so that nobody pays 99 then. */
    private static String unlikeBehind(int last) {
        StringBuilder text = new StringBuilder("city 0 20 0;deed 0 1 0 0;deed 99 0 0 0;harvests");
        for (int i = 0; i < 10; i++) {
            text.append(i != (last - 1) % 10 ? " 0" : last == 31 ? " 25" : " 33");
        }
        text.append(last % 2 == 1 ? ";elder 1;" : ";younger 1;");
        text.append("stays year=").append(last - 1).append(" and 20<walls;");
        return text.toString();
    }

    private static void nextCountsUnlikeOnes() {
        TurnBrothers x = Checks.landed("city 50 0 0;harvests 0;deed 1 0 0 0;deed 1 5 5 5;deed 3 0 0 0;");
        // 50, 49 and 47
        Checks.same("like ones count once", 3, x.next(1));
        Checks.same("behind the second, in which none may be done as yet", 1, x.next(0));
    }

    private static void game(String text, int many, int first) {
        TurnBrothers x = Checks.landed(text);
        Checks.same("couples in " + text, many, x.game(0, 1, 0));
        Checks.same("the first in " + text, first, x.game(0, 1, 1));
    }

    private static void gameOfLikeDeeds() {
        // each takes what the other one doesn't
        game("deed 0 0 0 0;deed 0 0 0 0;", 2, 1);
        game("deed 0 0 0 5;deed 0 0 0 5;", 2, 1);
        game("deed 0 0 0 -5;deed 0 0 0 -5;", 2, 1);
    }

    private static void gameNoMore() {
        // 2 more is less than 3: two couples; 3 is as much: three; 4 is more: one
        game("deed 0 0 0 2;deed 0 0 0 0;", 2, 1);
        game("deed 0 0 0 3;deed 0 0 0 0;", 3, 0);
        game("deed 0 0 0 4;deed 0 0 0 0;", 1, 0);
        game("deed 0 0 0 0;deed 0 0 0 2;", 2, 1);
        game("deed 0 0 0 0;deed 0 0 0 3;", 3, 1);
        game("deed 0 0 0 0;deed 0 0 0 4;", 1, 11);
    }

    private static void gameThreeLess() {
        // neither is done: 0 each, less 3 for both of one deed
        game(BARE + "deed 9 0 0 20;deed 9 0 0 -20;", 2, 1);
        // the first one alone can pay, and his deed is worth no more than 3
        game("city 9 0 0;harvests 0;deed 9 0 0 3;deed 9 0 0 1;", 2, 1);
        game("city 9 0 0;harvests 0;deed 9 0 0 1;deed 9 0 0 5;", 1, 10);
    }

    private static void gameDoneOrNot() {
        // who isn't done gains none: 3 by the other choice, less 3, is no more, nor is it less
        game(BARE + "deed 9 0 0 20;deed 0 0 0 3;", 3, 1);
        game(BARE + "deed 9 0 0 20;deed 0 0 0 2;", 2, 1);
        game(BARE + "deed 9 0 0 20;deed 0 0 0 4;", 1, 11);
        game(BARE + "deed 9 0 0 20;deed 0 0 0 -2;", 2, 1);
        game(BARE + "deed 9 0 0 20;deed 0 0 0 -3;", 3, 0);
        game(BARE + "deed 9 0 0 20;deed 0 0 0 -4;", 1, 0);
        // 9 of 9 in the first year leaves none for the other one, but the harvest of his year pays
        game("city 9 0 0;harvests 0 9;deed 9 0 0 9;deed 0 0 0 0;", 1, 0);
        game("city 9 0 0;harvests 0 8;deed 9 0 0 9;deed 0 0 0 0;", 1, 1);
        game("city 8 0 0;harvests 0 1;deed 9 0 0 9;deed 0 0 0 0;", 1, 10);
        game("city 8 0 0;harvests 1 0;deed 9 0 0 9;deed 0 0 0 0;", 1, 1);
    }

    private static void gameOfOneRuler() {
        String stays = "stays 1;deed 0 0 0 5;deed 0 0 0 5;";
        game(stays, 2, 1);
        game("term 2;deed 0 0 0 9;deed 0 0 0 0;", 1, 0);
        TurnBrothers x = Checks.landed("deed 0 0 0 5;deed 0 0 0 5;elder 0;younger 0;");
        int[] before = Checks.state(x);
        Checks.same("told the other way", 1, x.game(1, 0, 1));
        Checks.stayed("nothing is done", before, x);
    }

    /** From free deeds: each couple rests, if what each would gain by the other choice is no more. */
    private static void gameOfAllCouples() {
        for (int a = -20; a <= 20; a += 4) {
            for (int b = -20; b <= 20; b++) {
                TurnBrothers x = Checks.landed("deed 0 0 0 " + a + ";deed 0 0 0 " + b + ";");
                int many = 0;
                int first = -1;
                int[] glory = {a, b};
                for (int i = 0; i < 2; i++) {
                    for (int j = 0; j < 2; j++) {
                        int less = i == j ? 3 : 0;
                        boolean one = glory[1 - i] - (3 - less) <= glory[i] - less;
                        boolean two = glory[1 - j] - (3 - less) <= glory[j] - less;
                        if (one && two) {
                            many++;
                            first = first < 0 ? 10 * i + j : first;
                        }
                    }
                }
                Checks.same("couples of " + a + " and " + b, many, x.game(0, 1, 0));
                Checks.same("the first of " + a + " and " + b, first, x.game(0, 1, 1));
            }
        }
    }

    private static int following(int seed) {
        return seed * 1103515245 + 12345;
    }

    private static int draw(int seed, int n) {
        return (seed >> 16 & 0x7fff) % n;
    }

    private static void citiesOfNone() {
        TurnBrothers x = Checks.landed(LandTest.CITY);
        x.years(3);
        for (int seed : new int[] {0, 1, -1, MIN, MAX}) {
            Checks.same("store now", 25, x.cities(seed, 0, 0));
            Checks.same("debt now", 30, x.cities(seed, 0, 1));
            Checks.same("glory now", 10, x.cities(seed, 0, 2));
        }
    }

    private static void citiesOfOne() {
        TurnBrothers x = Checks.landed("city 3 0 99;");
        for (int seed : new int[] {0, 1, -1, MIN, MAX, 12345, -12345, 1 << 16, 1 << 30}) {
            Checks.same("harvest of seed " + seed, 3 + draw(following(seed), 60), x.cities(seed, 1, 0));
            Checks.same("a tenth", 108, x.cities(seed, 1, 1));
        }
        TurnBrothers told = Checks.landed("city 3 0 99;harvests 50;");
        Checks.same("told harvests don't count", x.cities(7, 1, 0), told.cities(7, 1, 0));
    }

    private static void citiesWhereHeFalls() {
        TurnBrothers x = Checks.landed("deed 0 0 0 1;deed 0 0 0 10;elder 0;younger 1;");
        int fell = 0;
        for (int seed = 0; seed < 200; seed++) {
            boolean falls = draw(following(following(seed)), 9) == 0;
            fell += falls ? 1 : 0;
            Checks.same("glory by seed " + seed, falls ? -10 : 1, x.cities(seed, 1, 2));
        }
        Checks.same("some fell", true, fell > 5 && fell < 60);
    }

    /** 0 YEARS one behind the other so far: the other one has a whole TERM from this YEAR on. */
    private static void citiesFallFromThisYearOn() {
        for (int term = 1; term <= 5; term++) {
            TurnBrothers x = Checks.landed("deed 0 0 0 1;deed 0 0 0 -1;elder 0;younger 0;term " + term + ";");
            for (int seed = 0; seed < 60; seed++) {
                int s = seed;
                int ruler = 0;
                int row = 0;
                int glory = 0;
                for (int n = 1; n <= 12; n++) {
                    s = following(following(s));
                    if (draw(s, 9) == 0) {
                        ruler = 1 - ruler;
                        row = 0;
                    }
                    glory += ruler == 0 ? 1 : -1;
                    row++;
                    if (row == term) {
                        ruler = 1 - ruler;
                        row = 0;
                    }
                    Checks.same("seed " + seed + ", " + n + " years, term " + term, glory, x.cities(seed, n, 2));
                }
            }
        }
    }

    private static void citiesOfSeedsThatWrap() {
        TurnBrothers x = Checks.landed(BARE);
        for (int seed : new int[] {0, 1, -1, MIN, MAX, MIN + 1, MAX - 1, 0x7fff0000, 0x80000000, 99991}) {
            int s = seed;
            int store = 0;
            for (int n = 1; n <= 60; n++) {
                s = following(s);
                store = Math.min(999, store + draw(s, 60));
                s = following(s);
                Checks.same("store of seed " + seed + " in " + n, store, x.cities(seed, n, 0));
            }
        }
    }

    private static void citiesLeaveTheYears() {
        TurnBrothers x = Checks.landed(LandTest.CITY);
        int[] before = Checks.state(x);
        x.cities(5, 60, 0);
        Checks.stayed("all as it was", before, x);
    }

    private static void ruinNow() {
        Checks.same("one more", 0, Checks.landed("city 0 0 1;").ruin());
        Checks.same("as much, and more behind a year", 1, Checks.landed("city 10 0 10;harvests 0;").ruin());
        Checks.same("as much for ever", -1, Checks.landed(BARE).ruin());
        Checks.same("the most of both", -1, Checks.landed("city 999 0 999;").ruin());
        Checks.same("998 and 999", 0, Checks.landed("city 998 0 999;").ruin());
        Checks.same("the first time, though not for long", 1,
                Checks.landed("city 0 0 0;harvests 0;deed 0 0 1 0;deed 0 0 -1 0;elder 0;younger 1;").ruin());
    }

    private static void ruinInSixty() {
        for (int store = 57; store <= 63; store++) {
            TurnBrothers x = Checks.landed("city " + store + " 0 0;harvests 0;deed 1 0 0 0;elder 0;younger 0;");
            Checks.same("never below the debt of 0", -1, x.ruin());
            TurnBrothers y = Checks.landed("city " + store + " 0 1;harvests 0;deed 1 0 0 0;elder 0;younger 0;");
            Checks.same("in " + store, store <= 60 ? store : -1, y.ruin());
            y.years(1);
            Checks.same("from now on", store <= 61 ? store - 1 : -1, y.ruin());
        }
    }

    private static void highestNow() {
        TurnBrothers x = Checks.landed("city 0 50 0;deed 0 -1 0 0;deed 0 1 0 0;elder 0;younger 1;");
        Checks.same("now, and again in two", 0, x.highest(0));
        Checks.same("50", 50, x.highest(1));
        x.years(1);
        Checks.same("in one", 1, x.highest(0));
        Checks.same("50", 50, x.highest(1));
        TurnBrothers top = Checks.landed("city 0 98 0;deed 0 20 0 0;elder 0;younger 0;");
        Checks.same("99 first", 1, top.highest(0));
        Checks.same("99", 99, top.highest(1));
        TurnBrothers zero = Checks.landed("city 0 0 0;deed 0 -20 0 0;elder 0;");
        Checks.same("of zeros now", 0, zero.highest(0));
        Checks.same("0", 0, zero.highest(1));
    }

    /** WALLS that are paid for in the last YEAR alone. */
    private static void highestInSixty() {
        String up = " 0;deed 0 1 0 0;elder 0;younger 0;";
        for (int walls = 37; walls <= 41; walls++) {
            TurnBrothers x = Checks.landed("city 0 " + walls + up);
            Checks.same("when from " + walls, Math.min(60, 99 - walls), x.highest(0));
            Checks.same("how much from " + walls, Math.min(99, walls + 60), x.highest(1));
        }
    }

    private static void betterOfLikeOnes() {
        TurnBrothers x = Checks.landed("harvests 0;");
        Checks.same("nothing: brother 0", 0, x.better(0));
        Checks.same("by nothing", 0, x.better(1));
        x.years(1);
        Checks.same("brother 0, whoever rules", 0, x.better(0));
        TurnBrothers one = Checks.landed("city 0 0 0;harvests 0;deed 0 0 -1 0;younger 0;");
        Checks.same("no debt to pay", 0, one.better(0));
        TurnBrothers by = Checks.landed("city 0 0 1;harvests 0;deed 0 0 -1 0;younger 0;");
        Checks.same("one paid by the younger", 1, by.better(0));
        Checks.same("by one", 1, by.better(1));
        by.years(2);
        Checks.same("paid as it is", 0, by.better(0));
        Checks.same("by none", 0, by.better(1));
        // both become less: he whose years take less
        TurnBrothers less = Checks.landed("city 999 0 0;harvests 0;deed 2 0 0 0;deed 1 0 0 0;elder 0;younger 1;");
        Checks.same("who takes less", 1, less.better(0));
        Checks.same("by 30", 30, less.better(1));
    }

    private static void betterInSixty() {
        TurnBrothers row = Checks.landed("city 0 0 0;harvests 1;stays 1;");
        Checks.same("sixty of one", 60, row.better(1));
        TurnBrothers turns = Checks.landed("city 0 0 0;harvests 1;term 4;");
        // 8 turns of four for the first, 7 for the other one; one more or fewer of 60 would be 3
        Checks.same("32 to 28", 4, turns.better(1));
        turns.years(1);
        Checks.same("31 to 29", 2, turns.better(1));
        turns.years(1);
        Checks.same("30 to 30", 0, turns.better(1));
        turns.years(1);
        Checks.same("29 to 31", 2, turns.better(1));
        Checks.same("the younger one", 1, turns.better(0));
        TurnBrothers mean = Checks.landed("city 0 0 0;harvests 0 1;");
        Checks.same("1 in each of his 30", 30, mean.better(1));
        Checks.same("the younger one's harvests", 1, mean.better(0));
    }

    private static void swapOfNone() {
        Checks.same("no way", -1, new TurnBrothers().swap(0));
        Checks.same("a way of one", -1, Checks.landed("deed 0 0 0 9;elder 0;").swap(0));
        Checks.same("two alike", -1, Checks.landed("deed 0 0 0 9;elder 0 0;").swap(0));
        Checks.same("two of like glory", -1, Checks.landed("deed 0 0 0 9;deed 0 0 0 9;elder 0 1;").swap(0));
    }

    private static void swapFirstOfLikeOnes() {
        // 15 years of his in 30: the first three places of six come three times, the others twice
        String deeds = "deed 0 0 0 0;deed 0 0 0 1;";
        Checks.same("0 and 3", 3, Checks.landed(deeds + "elder 0 0 0 1 1 1;").swap(0));
        Checks.same("0 and 5", 5, Checks.landed(deeds + "elder 0 0 0 0 0 1;").swap(0));
        Checks.same("2 and 5", 25, Checks.landed(deeds + "elder 1 1 0 0 0 1;").swap(0));
        Checks.same("1 and 4", 14, Checks.landed(deeds + "elder 1 0 0 0 1 0;").swap(0));
        Checks.same("none is better", -1, Checks.landed(deeds + "elder 1 1 1 0 0 0;").swap(0));
        Checks.same("the younger one's", 3, Checks.landed(deeds + "younger 0 0 0 1 1 1;").swap(1));
        Checks.same("not the elder's", -1, Checks.landed(deeds + "younger 0 0 0 1 1 1;").swap(0));
        Checks.same("the most, not the first", 14,
                Checks.landed(deeds + "deed 0 0 0 9;elder 1 0 1 1 2 0;").swap(0));
    }

    /** His 15 YEARS in 30 are the first to the fifteenth: of a way of four the last place comes once less. */
    private static void swapInThirty() {
        String deeds = "deed 0 0 0 0;deed 0 0 0 1;";
        Checks.same("0 and 3 of four", 3, Checks.landed(deeds + "elder 0 0 0 1;").swap(0));
        Checks.same("of five all come alike", -1, Checks.landed(deeds + "elder 0 0 0 0 1;").swap(0));
        Checks.same("of three all come alike", -1, Checks.landed(deeds + "elder 0 0 1;").swap(0));
        Checks.same("of two the first comes once more", 1, Checks.landed(deeds + "elder 0 1;").swap(0));
        TurnBrothers x = Checks.landed(deeds + "elder 0 1;younger 0 1;");
        x.years(1);
        Checks.same("the elder's second is next", -1, x.swap(0));
        Checks.same("the younger one's first is next", 1, x.swap(1));
        x.years(1);
        Checks.same("the elder's second", -1, x.swap(0));
        Checks.same("the younger one's second", -1, x.swap(1));
    }

    private static void swapIfMore() {
        // paid in another order: only what is done counts
        TurnBrothers x = Checks.landed("city 5 0 0;harvests 0;deed 5 0 0 1;deed 5 0 0 9;elder 0 1;");
        Checks.same("9 in place of 1", 1, x.swap(0));
        TurnBrothers y = Checks.landed("city 5 0 0;harvests 0;deed 5 0 0 9;deed 5 0 0 1;elder 0 1;");
        Checks.same("9 as it is", -1, y.swap(0));
        TurnBrothers z = Checks.landed("city 5 0 0;harvests 0;deed 5 0 0 9;deed 5 0 0 9;elder 0 1;");
        Checks.same("as much is not more", -1, z.swap(0));
        int[] before = Checks.state(x);
        x.swap(0);
        Checks.stayed("the way stays", before, x);
    }
}
