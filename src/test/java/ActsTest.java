/** Promises 10 to 15, 28, 29, 39 and 40: YEARS, ACTS and their undoing, what is SEEN, the image. */
public final class ActsTest {
    private ActsTest() {
    }

    public static void main(String[] args) {
        yearByYear();
        bounds();
        promise10();
        promise11();
        promise12();
        promise13();
        promise14();
        promise15();
        fortyActs();
        promise28();
        promise29();
        promise39();
        promise40();
        Checks.finish();
    }

    private static void counts(TurnBrothers x, String when, int... due) {
        for (int what = 0; what < due.length; what++) {
            Checks.same(when + ", count " + what, due[what], x.count(what));
        }
    }

    private static void yearByYear() {
        TurnBrothers x = Checks.landed(LandTest.CITY);
        counts(x, "year 0", 30, 25, 10, 0, 0, 0);
        x.years(1);
        counts(x, "year 1", 40, 30, 11, 1, 0, 1);
        x.years(1);
        counts(x, "year 2", 5, 27, 32, 2, 1, 0);
        x.years(1);
        counts(x, "year 3", 25, 27, 30, 3, 1, 1);
        x.years(1);
        counts(x, "year 4", 30, 27, 28, 4, 0, 0);
        x.years(1);
        counts(x, "year 5", 40, 32, 30, 5, 0, 1);
        Checks.same("glory of 0", 14, x.brother(0, 0));
        Checks.same("glory of 1", 2, x.brother(1, 0));
        Checks.same("years of 0", 3, x.brother(0, 1));
        Checks.same("years of 1", 2, x.brother(1, 1));
    }

    private static void bounds() {
        TurnBrothers rich = Checks.landed("city 990 95 995;deed 0 20 99 1;elder 0;harvests 99;");
        rich.years(1);
        counts(rich, "kept above", 999, 99, 999);
        TurnBrothers low = Checks.landed("city 5 10 20;deed 5 -20 -99 -7;elder 0;harvests 0;");
        low.years(1);
        counts(low, "kept below", 0, 0, 0);
        Checks.same("glory below 0", -7, low.brother(0, 0));
        TurnBrothers tenth = Checks.landed("city 0 0 39;deed 1 5 5 5;elder 0;harvests 0;");
        tenth.years(1);
        counts(tenth, "put off", 0, 0, 42);
        Checks.same("how many were put off", 1, tenth.count(7));
        Checks.same("no glory for it", 0, tenth.brother(0, 0));
        TurnBrothers first = Checks.landed("city 0 0 10;deed 20 0 20 0;elder 0;");
        first.years(1);
        counts(first, "the harvest and the tenth first", 0, 0, 31);
    }

    private static void promise10() {
        TurnBrothers x = Checks.landed(LandTest.CITY);
        refused(x, 1, "years(0)", x.years(0));
        refused(x, 2, "years(-1)", x.years(-1));
        refused(x, 3, "years(21)", x.years(21));
        refused(x, 4, "years of the most", x.years(Integer.MAX_VALUE));
        refused(x, 5, "years of the least", x.years(Integer.MIN_VALUE));
        Checks.same("years(20)", 20, x.years(20));
        for (int i = 2; i < 50; i++) {
            x.years(20);
        }
        Checks.same("the year", 980, x.count(3));
        refused(x, 6, "years above 999", x.years(20));
        Checks.same("years up to 999", 999, x.years(19));
        refused(x, 7, "years at 999", x.years(1));
        Checks.same("no act of it", 40, x.count(13));
        Checks.same("then goes on", 0, x.then(60, 5) >> 1);
    }

    private static void refused(TurnBrothers x, int status, String call, int got) {
        Checks.same(call, -1, got);
        Checks.same("status 1 behind " + call, status, x.count(17));
    }

    private static void promise11() {
        TurnBrothers x = Checks.landed(LandTest.CITY);
        Checks.noSuch("change of brother 2", () -> x.change(2, 0, 0));
        Checks.noSuch("change of brother -1", () -> x.change(-1, 9, 0));
        Checks.noSuch("change to deed 3", () -> x.change(0, 0, 3));
        Checks.noSuch("change to deed -1, ahead", () -> x.change(0, 9, -1));
        Checks.same("no status for that", 0, x.count(17));
        refused(x, 1, "change(0, 2, 0)", x.change(0, 2, 0));
        refused(x, 2, "change(1, 1, 0)", x.change(1, 1, 0));
        refused(x, 3, "change(0, -1, 0)", x.change(0, -1, 0));
        Checks.same("no acts yet", 0, x.count(13));
        Checks.same("as it was", 1, x.change(0, 1, 2));
        Checks.same("as it is", 2, x.way(0, 1));
        Checks.same("the other way", 2, x.change(1, 0, 0));
        Checks.same("the other way is", 0, x.way(1, 0));
        Checks.same("to the same", 0, x.change(0, 0, 0));
        Checks.same("acts", 3, x.count(13));
        x.years(2);
        Checks.same("it is done", 45, x.count(0));
    }

    private static void promise12() {
        TurnBrothers x = Checks.landed(LandTest.CITY);
        refused(x, 1, "term(0)", x.term(0));
        refused(x, 2, "term(6)", x.term(6));
        refused(x, 3, "term(-1)", x.term(-1));
        Checks.same("as it was", 2, x.term(5));
        Checks.same("as it is", 5, x.count(6));
        x.years(4);
        Checks.same("four in a row", 4, x.count(5));
        Checks.same("a lesser one", 5, x.term(1));
        Checks.same("he rules as yet", 0, x.count(4));
        x.years(1);
        Checks.same("the turn is done behind the next year", 1, x.count(4));
        Checks.same("none in a row", 0, x.count(5));
        Checks.same("acts", 4, x.count(13));
    }

    private static void promise13() {
        TurnBrothers x = Checks.landed("city 10 0 950;");
        refused(x, 1, "loan(0)", x.loan(0));
        refused(x, 2, "loan(100)", x.loan(100));
        refused(x, 3, "loan(-1)", x.loan(-1));
        Checks.same("loan(99)", 109, x.loan(99));
        Checks.same("debt is kept", 999, x.count(2));
        Checks.same("loan(1)", 110, x.loan(1));
        TurnBrothers rich = Checks.landed("city 990 0 0;");
        Checks.same("store is kept", 999, rich.loan(10));
        Checks.same("debt", 10, rich.count(2));
        Checks.same("acts", 1, rich.count(13));
    }

    private static void promise14() {
        TurnBrothers x = Checks.landed("city 25 0 0;harvests 0;friend -3 4;friend 2 5;");
        Checks.noSuch("gift to friend 2", () -> x.gift(2, 1));
        Checks.noSuch("gift to friend -1", () -> x.gift(-1, 0));
        Checks.same("no status for that", 0, x.count(17));
        refused(x, 1, "gift of 0", x.gift(0, 0));
        refused(x, 2, "gift of 10", x.gift(0, 10));
        Checks.same("nearer to brother 0", -5, x.gift(1, 7));
        Checks.same("store", 18, x.count(0));
        Checks.same("kept to -9", -9, x.gift(0, 9));
        Checks.same("all of the gift is gone", 9, x.count(0));
        x.years(1);
        Checks.same("nearer to brother 1", -1, x.gift(0, 8));
        refused(x, 3, "gift of more than the store", x.gift(0, 2));
        Checks.same("gift of the whole store", 0, x.gift(0, 1));
        Checks.same("store", 0, x.count(0));
        x.loan(99);
        x.gift(1, 9);
        Checks.same("kept to 9", 9, x.gift(1, 9));
        Checks.same("follows him now", 1, x.friend(1, 2));
        Checks.same("acts", 8, x.count(13));
    }

    private static void promise15() {
        TurnBrothers x = Checks.landed(LandTest.CITY);
        Checks.same("nothing to undo", -1, x.undo());
        x.years(3);
        x.change(0, 0, 2);
        x.term(5);
        x.loan(50);
        x.gift(0, 9);
        x.see(5, 5);
        Checks.same("undo the gift", 4, x.undo());
        Checks.same("lean", -3, x.friend(0, 0));
        Checks.same("store", 75, x.count(0));
        Checks.same("undo the loan", 3, x.undo());
        Checks.same("store", 25, x.count(0));
        Checks.same("debt", 30, x.count(2));
        Checks.same("undo the term", 2, x.undo());
        Checks.same("term", 2, x.count(6));
        Checks.same("undo the change", 1, x.undo());
        Checks.same("way", 0, x.way(0, 0));
        Checks.same("undo the years", 0, x.undo());
        int[] due = {30, 25, 10, 0, 0, 0, 2, 0, 0, 3, 3, 2, 2, 0, 1};
        counts(x, "all undone", due);
        Checks.same("glory", 0, x.brother(0, 0));
        Checks.same("years he ruled", 0, x.brother(0, 1));
        Checks.same("nothing left", -1, x.undo());
        Checks.same("undo is no refused act", 0, x.count(17));
        TurnBrothers y = Checks.landed("city 0 0 0;deed 9 0 0 0;elder 0;harvests 0;stays year<2;");
        y.years(2);
        Checks.same("put off", 2, y.count(7));
        Checks.same("stayed", 1, y.count(8));
        y.undo();
        Checks.same("put off is undone", 0, y.count(7));
        Checks.same("stayed is undone", 0, y.count(8));
    }

    private static void fortyActs() {
        TurnBrothers x = Checks.landed("city 0 0 0;");
        for (int i = 1; i <= 43; i++) {
            x.loan(i);
            Checks.same("acts kept", Math.min(i, 40), x.count(13));
        }
        for (int i = 43; i >= 4; i--) {
            Checks.same("store ahead of undo", Math.min(999, i * (i + 1) / 2), x.count(0));
            Checks.same("undo " + i, i - 4, x.undo());
        }
        Checks.same("the latest 40 are undone", 6, x.count(0));
        Checks.same("no more", -1, x.undo());
    }

    private static void promise28() {
        TurnBrothers x = Checks.landed(LandTest.CITY);
        int[][] wrong = {{0, 5}, {31, 5}, {-1, 5}, {1, -1}, {1, 1000}, {Integer.MAX_VALUE, 0}};
        for (int i = 0; i < wrong.length; i++) {
            Checks.same("see of wrong numbers", -1, x.see(wrong[i][0], wrong[i][1]));
            Checks.same("status 2", i + 1, x.count(18));
        }
        Checks.same("see", 1, x.see(1, 0));
        Checks.same("see at the most", 2, x.see(30, 999));
        for (int i = 3; i <= 8; i++) {
            Checks.same("the same again", i, x.see(1, 0));
        }
        Checks.same("a ninth", -1, x.see(1, 0));
        Checks.same("status 2", 7, x.count(18));
        Checks.same("seen", 8, x.count(14));
        Checks.same("status 1", 0, x.count(17));
        Checks.same("no act", 0, x.count(13));
    }

    private static void promise29() {
        TurnBrothers x = Checks.landed(LandTest.CITY);
        x.see(1, 2);
        Checks.same("not so", 0, x.another(2));
        x.forget();
        Checks.same("seen", 0, x.count(14));
        Checks.same("all so", 1, x.another(2));
        Checks.same("the first again", 1, x.see(2, 2));
    }

    private static void promise39() {
        TurnBrothers x = Checks.landed(LandTest.CITY);
        x.image();
        x.years(1);
        x.image();
        x.years(1);
        Checks.same("restore", true, x.restore());
        Checks.same("the latest image", 1, x.count(3));
        Checks.same("its acts", 1, x.count(13));
        Checks.same("undo", 0, x.undo());
        Checks.same("the year", 0, x.count(3));
        Checks.same("restore again", true, x.restore());
        Checks.same("the image stays", 1, x.count(3));
        Checks.same("undo again", 0, x.undo());
        Checks.same("store", 30, x.count(0));
    }

    private static void promise40() {
        TurnBrothers x = Checks.landed(LandTest.CITY + "");
        Checks.same("none yet", false, x.restore());
        x.years(3);
        x.gift(0, 2);
        x.change(1, 0, 1);
        x.see(3, 300);
        x.years(99);
        x.image();
        x.undo();
        x.undo();
        x.undo();
        x.years(8);
        x.term(1);
        x.loan(9);
        x.gift(0, 9);
        x.gift(1, 9);
        x.change(0, 0, 1);
        x.forget();
        x.see(1, 1);
        x.see(2, 2);
        x.years(0);
        x.feed(1, 2, 3, 4, 5);
        Checks.same("restore", true, x.restore());
        int[] due = {23, 27, 30, 3, 1, 1, 2, 0, 0, 3, 3, 2, 2, 3, 1, 20, 0, 2, 0};
        counts(x, "restored", due);
        Checks.same("lean 0", -1, x.friend(0, 0));
        Checks.same("lean 1", 2, x.friend(1, 0));
        Checks.same("way 0", 0, x.way(0, 0));
        Checks.same("way 1", 1, x.way(1, 0));
        Checks.same("glory 0", 11, x.brother(0, 0));
        Checks.same("glory 1", 1, x.brother(1, 0));
        Checks.same("ruled 0", 2, x.brother(0, 1));
        Checks.same("ruled 1", 1, x.brother(1, 1));
        Checks.same("undo the change", 2, x.undo());
        Checks.same("way 1 as it was", 2, x.way(1, 0));
        Checks.same("undo the gift", 1, x.undo());
        Checks.same("lean as it was", -3, x.friend(0, 0));
        Checks.same("undo the years", 0, x.undo());
        Checks.same("the year", 0, x.count(3));
        Checks.land(x, "junk");
        Checks.same("behind a fault", true, x.restore());
        Checks.land(x, "");
        Checks.same("behind a land", false, x.restore());
    }
}
