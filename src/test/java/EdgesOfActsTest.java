/**
 * ACTS, what is SEEN and the image (promises 10 to 15, 28, 29, 39, 40) at their bounds: what is refused
 * changes STATUS alone, what throws changes nothing, and 40 ACTS are kept.
 */
public final class EdgesOfActsTest {
    private static final int MAX = Integer.MAX_VALUE;
    private static final int MIN = Integer.MIN_VALUE;
    /** Who RULES behind each third YEAR STAYS; FRIENDS follow by what changes. */
    private static final String STAYING = LandTest.CITY.replace("stays 0;", "stays year/3*3=year;likes glory+lean+rules;");

    private EdgesOfActsTest() {
    }

    public static void main(String[] args) {
        years();
        yearsUpTo999();
        change();
        changeWithoutAWay();
        changeThrowsAhead();
        term();
        loan();
        loanKept();
        gift();
        giftThatIsThere();
        leanKept();
        giftThrowsAhead();
        undoNone();
        undoEach();
        fortyActsOfAllKinds();
        fortyYears();
        refusedIsNoAct();
        see();
        eightSeen();
        seenOfFewerYears();
        forget();
        imageOfNothing();
        imageOfForty();
        imageOfEight();
        imageInPlaceOfAnother();
        imageStaysBehindRestore();
        imageLeavesStatusAndTape();
        whatCountsInStatus();
        statusOverLands();
        Checks.finish();
    }

    private static TurnBrothers rich() {
        TurnBrothers x = Checks.landed(LandTest.CITY);
        x.years(3);
        x.loan(30);
        x.see(2, 30);
        return x;
    }

    private static void years() {
        TurnBrothers x = rich();
        for (int many : new int[] {0, -1, 21, 22, 999, MAX, MIN, MAX - 3}) {
            Checks.refused(x, 1, "years(" + many + ")", () -> x.years(many));
        }
        for (int many = 1; many <= 20; many++) {
            Checks.same("years(" + many + ")", 3 + many, x.years(many));
            Checks.same("the year", 3 + many, x.count(3));
            Checks.same("an act", 3, x.count(13));
            x.undo();
        }
    }

    private static void yearsUpTo999() {
        TurnBrothers x = rich();
        for (int year = 3; year < 979; year += 16) {
            x.years(16);
        }
        Checks.same("979", 979, x.count(3));
        Checks.same("979 and 20", 999, x.years(20));
        Checks.refused(x, 1, "999 and 1", () -> x.years(1));
        Checks.refused(x, 1, "999 and 20", () -> x.years(20));
        Checks.refused(x, 1, "999 and 0", () -> x.years(0));
        x.undo();
        x.years(1);
        Checks.refused(x, 1, "980 and 20", () -> x.years(20));
        Checks.same("980 and 19", 999, x.years(19));
        x.undo();
        x.years(18);
        Checks.refused(x, 1, "998 and 2", () -> x.years(2));
        Checks.same("998 and 1", 999, x.years(1));
    }

    private static void change() {
        String deeds = "deed 1 0 0 0;".repeat(7);
        for (int length = 1; length <= 6; length++) {
            TurnBrothers x = Checks.landed(deeds + "elder" + " 3".repeat(length) + ";younger" + " 4".repeat(7 - length) + ";");
            for (int i = 0; i < length; i++) {
                Checks.same("change of place " + i, 3, x.change(0, i, 6));
                Checks.same("it is", 6, x.way(0, i));
                Checks.same("change again", 6, x.change(0, i, 0));
                Checks.same("it is", 0, x.way(0, i));
            }
            Checks.same("the other way stays", 4, x.way(1, 0));
            for (int i : new int[] {length, length + 1, 6, 7, -1, MAX, MIN}) {
                Checks.refused(x, 1, "change of place " + i + " of " + length, () -> x.change(0, i, 0));
            }
            int other = 7 - length;
            Checks.refused(x, 1, "change of a place behind the other way", () -> x.change(1, other, 0));
            Checks.same("change of its last place", 4, x.change(1, other - 1, 2));
            Checks.same("acts", Math.min(40, 2 * length + 1), x.count(13));
        }
    }

    private static void changeWithoutAWay() {
        TurnBrothers x = Checks.landed("deed 1 1 1 1;younger 0;");
        Checks.refused(x, 1, "change without a way", () -> x.change(0, 0, 0));
        Checks.refused(x, 1, "change of -1 without a way", () -> x.change(0, -1, 0));
        Checks.same("to what it is", 0, x.change(1, 0, 0));
        Checks.same("is an act", 1, x.count(13));
    }

    private static void changeThrowsAhead() {
        TurnBrothers x = rich();
        for (int brother : new int[] {-1, 2, MAX, MIN}) {
            Checks.noSuchAt(x, "change of brother " + brother, () -> x.change(brother, 0, 0));
            Checks.noSuchAt(x, "change of brother, no place " + brother, () -> x.change(brother, 9, 0));
        }
        for (int deed : new int[] {-1, 3, 7, MAX, MIN}) {
            Checks.noSuchAt(x, "change to deed " + deed, () -> x.change(1, 0, deed));
            Checks.noSuchAt(x, "change to deed, no place " + deed, () -> x.change(0, -1, deed));
        }
        Checks.refused(x, 1, "no place alone", () -> x.change(0, 2, 2));
        TurnBrothers none = new TurnBrothers();
        Checks.noSuchAt(none, "change without deeds", () -> none.change(0, 0, 0));
    }

    private static void term() {
        TurnBrothers x = rich();
        for (int years : new int[] {0, 6, -1, MAX, MIN}) {
            Checks.refused(x, 1, "term(" + years + ")", () -> x.term(years));
        }
        int was = 2;
        for (int years : new int[] {1, 5, 5, 2, 3, 4, 1}) {
            int[] before = Checks.state(x);
            Checks.same("term(" + years + ")", was, x.term(years));
            Checks.same("it is", years, x.count(6));
            Checks.same("an act", before[13] + 1, x.count(13));
            Checks.same("he rules as yet", before[4], x.count(4));
            was = years;
        }
    }

    private static void loan() {
        for (int much : new int[] {0, 100, 101, -1, MAX, MIN}) {
            TurnBrothers x = rich();
            Checks.refused(x, 1, "loan(" + much + ")", () -> x.loan(much));
        }
        for (int much = 1; much <= 99; much++) {
            TurnBrothers x = Checks.landed("city 7 8 9;");
            Checks.same("loan(" + much + ")", 7 + much, x.loan(much));
            Checks.same("store", 7 + much, x.count(0));
            Checks.same("walls", 8, x.count(1));
            Checks.same("debt", 9 + much, x.count(2));
            Checks.same("an act", 1, x.count(13));
        }
    }

    private static void loanKept() {
        int[][] due = {{900, 900, 99, 999, 999}, {901, 0, 99, 999, 99}, {0, 901, 99, 99, 999}, {998, 0, 1, 999, 1},
            {0, 998, 1, 1, 999}, {999, 999, 1, 999, 999}, {999, 999, 99, 999, 999}, {998, 997, 1, 999, 998}};
        for (int[] one : due) {
            TurnBrothers x = Checks.landed("city " + one[0] + " 0 " + one[1] + ";");
            Checks.same("loan of " + one[2] + " at " + one[0], one[3], x.loan(one[2]));
            Checks.same("debt of " + one[2] + " at " + one[1], one[4], x.count(2));
            Checks.same("undo", 0, x.undo());
            Checks.same("store as it was", one[0], x.count(0));
            Checks.same("debt as it was", one[1], x.count(2));
        }
    }

    private static void gift() {
        TurnBrothers x = rich();
        for (int much : new int[] {0, 10, 11, -1, -9, MAX, MIN}) {
            Checks.refused(x, 1, "gift of " + much, () -> x.gift(2, much));
        }
        for (int much = 1; much <= 9; much++) {
            TurnBrothers elder = Checks.landed("city 50 0 0;friend 0 1;friend 0 1;");
            Checks.same("nearer to the elder by " + much, -much, elder.gift(1, much));
            Checks.same("of the store", 50 - much, elder.count(0));
            Checks.same("no debt", 0, elder.count(2));
            Checks.same("the other friend stays", 0, elder.friend(0, 0));
            TurnBrothers younger = Checks.landed("city 50 0 0;harvests 0;friend 0 1;");
            younger.years(1);
            Checks.same("nearer to the younger by " + much, much, younger.gift(0, much));
            Checks.same("of the store", 50 - much, younger.count(0));
        }
    }

    private static void giftThatIsThere() {
        for (int store = 0; store <= 10; store++) {
            TurnBrothers x = Checks.landed("city " + store + " 0 0;friend 5 1;");
            for (int much = 1; much <= 9; much++) {
                int one = much;
                if (much > store) {
                    Checks.refused(x, 1, "gift of " + much + " of " + store, () -> x.gift(0, one));
                } else {
                    Checks.same("gift of " + much + " of " + store, 5 - much, x.gift(0, much));
                    Checks.same("store then", store - much, x.count(0));
                    x.undo();
                }
            }
            Checks.same("lean as it was", 5, x.friend(0, 0));
            Checks.same("store as it was", store, x.count(0));
        }
    }

    private static void leanKept() {
        for (int lean = -9; lean <= 9; lean++) {
            TurnBrothers elder = Checks.landed("friend " + lean + " 1;");
            TurnBrothers younger = Checks.landed("friend " + lean + " 1;");
            younger.years(1);
            for (int much = 1; much <= 9; much++) {
                Checks.same("down from " + lean, Math.max(-9, lean - much), elder.gift(0, much));
                Checks.same("all of it is gone", 50 - much, elder.count(0));
                elder.undo();
                Checks.same("up from " + lean, Math.min(9, lean + much), younger.gift(0, much));
                Checks.same("all of it is gone", 70 - much, younger.count(0));
                younger.undo();
            }
        }
    }

    private static void giftThrowsAhead() {
        TurnBrothers x = rich();
        for (int friend : new int[] {-1, 3, 6, 7, MAX, MIN}) {
            Checks.noSuchAt(x, "gift to friend " + friend, () -> x.gift(friend, 1));
            Checks.noSuchAt(x, "gift of 0 to friend " + friend, () -> x.gift(friend, 0));
        }
        TurnBrothers none = new TurnBrothers();
        Checks.noSuchAt(none, "gift without friends", () -> none.gift(0, 1));
    }

    private static void undoNone() {
        TurnBrothers x = new TurnBrothers();
        int[] before = Checks.state(x);
        Checks.same("undo of none", -1, x.undo());
        Checks.stayed("behind it", before, x);
        x.loan(1);
        Checks.same("undo of one", 0, x.undo());
        Checks.stayed("as ahead of it", before, x);
        Checks.same("undo of none again", -1, x.undo());
        Checks.stayed("behind it", before, x);
    }

    private static void undoEach() {
        TurnBrothers x = Checks.landed(LandTest.CITY + "likes glory+lean+rules;");
        x.years(1);
        int[] before = Checks.state(x);
        Runnable[] acts = {() -> x.years(1), () -> x.years(20), () -> x.change(0, 0, 1), () -> x.change(1, 0, 0),
            () -> x.term(1), () -> x.term(2), () -> x.loan(99), () -> x.gift(0, 9), () -> x.gift(2, 1)};
        for (Runnable act : acts) {
            act.run();
            Checks.same("an act more", 2, x.count(13));
            Checks.same("one is left", 1, x.undo());
            Checks.stayed("undone", before, x);
        }
        for (Runnable act : acts) {
            act.run();
        }
        for (int left = acts.length; left >= 1; left--) {
            Checks.same("undo", left, x.undo());
        }
        Checks.stayed("all undone", before, x);
    }

    /** The 41st ACT takes the place of the first: what is left then is what that one made. */
    private static void fortyActsOfAllKinds() {
        TurnBrothers x = Checks.landed(STAYING);
        int[][] states = new int[44][];
        for (int i = 0; i < 43; i++) {
            states[i] = Checks.state(x);
            Checks.same("acts that are kept", Math.min(i, 40), x.count(13));
            act(x, i);
        }
        Checks.same("no more than 40", 40, x.count(13));
        for (int i = 42; i >= 3; i--) {
            Checks.same("undo of act " + i, i - 3, x.undo());
            Checks.stayed("as it was ahead of act " + i, states[i], x, 13, i - 3);
        }
        int[] before = Checks.state(x);
        Checks.same("the first three are not undone", -1, x.undo());
        Checks.stayed("nothing changes", before, x);
    }

    private static void act(TurnBrothers x, int i) {
        switch (i % 5) {
            case 0: x.years(1 + i % 3); break;
            case 1: x.loan(10 + i); break;
            case 2: x.term(1 + i % 4); break;
            case 3: x.gift(i % 3, 1 + i % 9); break;
            default: x.change(0, i % 2, i % 3); break;
        }
    }

    private static void fortyYears() {
        TurnBrothers x = new TurnBrothers();
        for (int i = 1; i <= 40; i++) {
            x.years(2);
        }
        Checks.same("forty", 40, x.count(13));
        for (int i = 39; i >= 0; i--) {
            Checks.same("left", i, x.undo());
            Checks.same("year", 2 * i, x.count(3));
        }
        Checks.same("all of exactly forty", -1, x.undo());
        for (int i = 1; i <= 41; i++) {
            x.years(2);
        }
        for (int i = 39; i >= 0; i--) {
            Checks.same("left of 41", i, x.undo());
        }
        Checks.same("one is past undoing", 2, x.count(3));
        Checks.same("none is left", -1, x.undo());
    }

    private static void refusedIsNoAct() {
        TurnBrothers x = rich();
        x.term(99);
        x.loan(0);
        x.years(0);
        x.gift(0, 10);
        x.change(0, 5, 0);
        Checks.same("five refused", 5, x.count(17));
        Checks.same("two acts as ahead", 2, x.count(13));
        Checks.same("undo the loan", 1, x.undo());
        Checks.same("store ahead of it", 25, x.count(0));
    }

    private static void see() {
        TurnBrothers x = rich();
        int[][] wrong = {{0, 0}, {31, 0}, {-1, 0}, {MAX, 0}, {MIN, 0}, {1, -1}, {30, 1000}, {1, MAX}, {30, MIN}, {0, -1},
            {31, 1000}};
        for (int[] one : wrong) {
            Checks.refused(x, 2, "see(" + one[0] + ", " + one[1] + ")", () -> x.see(one[0], one[1]));
        }
        for (int years = 1; years <= 30; years++) {
            x.forget();
            Checks.same("see(" + years + ", 0)", 1, x.see(years, 0));
            Checks.same("see(" + years + ", 999)", 2, x.see(years, 999));
            Checks.same("not both", 0, x.another(2));
        }
    }

    private static void eightSeen() {
        TurnBrothers x = rich();
        x.forget();
        for (int i = 1; i <= 8; i++) {
            Checks.same("see", i, x.see(30 - i, 999 - i));
            Checks.same("seen", i, x.count(14));
        }
        Checks.refused(x, 2, "the ninth", () -> x.see(1, 1));
        Checks.refused(x, 2, "the ninth, wrong, too", () -> x.see(0, 1000));
        Checks.refused(x, 2, "one that is there", () -> x.see(29, 998));
        x.forget();
        Checks.same("all are forgotten", 0, x.count(14));
        Checks.same("the first again", 1, x.see(1, 1));
    }

    /** i alone is kept: YEARS that go by, or are undone, leave it. */
    private static void seenOfFewerYears() {
        TurnBrothers x = Checks.landed("city 0 0 0;harvests 1;");
        x.see(3, 3);
        Checks.same("3 in 3", 1, x.another(2));
        x.years(1);
        Checks.same("4 in 3", 0, x.another(2));
        x.see(3, 4);
        Checks.same("not both", 0, x.another(2));
        Checks.same("seen stays", 2, x.count(14));
        x.undo();
        Checks.same("seen is no act", 2, x.count(14));
    }

    private static void forget() {
        TurnBrothers x = rich();
        int[] before = Checks.state(x);
        x.see(5, 5);
        x.forget();
        x.see(2, 30);
        Checks.stayed("forgotten, and seen again", before, x);
        x.forget();
        x.forget();
        Checks.same("none", 0, x.count(14));
        Checks.same("status stays", 0, x.count(18));
        Checks.same("acts stay", 2, x.count(13));
    }

    private static void imageOfNothing() {
        TurnBrothers x = new TurnBrothers();
        int[] before = Checks.state(x);
        Checks.same("no image", false, x.restore());
        Checks.stayed("nothing changes", before, x);
        x.image();
        Checks.stayed("an image changes nothing", before, x);
        x.years(7);
        x.term(3);
        x.see(1, 1);
        Checks.same("restore", true, x.restore());
        Checks.stayed("as a new one", before, x);
        Checks.same("no act", -1, x.undo());
    }

    private static void imageOfForty() {
        TurnBrothers x = Checks.landed(STAYING);
        int[][] states = new int[45][];
        for (int i = 0; i < 42; i++) {
            states[i] = Checks.state(x);
            act(x, i);
        }
        int[] before = Checks.state(x);
        x.image();
        for (int i = 0; i < 30; i++) {
            x.undo();
        }
        for (int i = 0; i < 25; i++) {
            x.loan(1 + i);
        }
        Checks.same("restore", true, x.restore());
        Checks.stayed("as the image", before, x);
        for (int i = 41; i >= 2; i--) {
            Checks.same("undo of act " + i, i - 2, x.undo());
            Checks.stayed("as ahead of act " + i, states[i], x, 13, i - 2);
        }
        Checks.same("no more", -1, x.undo());
    }

    private static void imageOfEight() {
        TurnBrothers x = Checks.landed("city 0 0 0;harvests 1;");
        for (int i = 1; i <= 8; i++) {
            x.see(i, i);
        }
        x.image();
        x.forget();
        x.see(8, 9);
        Checks.same("not so", 0, x.another(2));
        x.restore();
        Checks.same("eight", 8, x.count(14));
        Checks.same("all so", 1, x.another(2));
        Checks.refused(x, 2, "a ninth", () -> x.see(9, 9));
        x.forget();
        x.image();
        x.see(1, 5);
        x.restore();
        Checks.same("none seen in the image", 0, x.count(14));
    }

    private static void imageInPlaceOfAnother() {
        TurnBrothers x = rich();
        x.image();
        x.term(5);
        x.image();
        int[] before = Checks.state(x);
        x.term(1);
        x.restore();
        Checks.stayed("the latest", before, x);
        x.undo();
        x.restore();
        Checks.stayed("the latest again", before, x);
    }

    private static void imageStaysBehindRestore() {
        TurnBrothers x = rich();
        int[] before = Checks.state(x);
        x.image();
        for (int i = 0; i < 3; i++) {
            x.years(4);
            x.gift(0, 3);
            x.change(0, 1, 2);
            x.forget();
            Checks.same("restore", true, x.restore());
            Checks.stayed("as the image", before, x);
        }
    }

    private static void imageLeavesStatusAndTape() {
        TurnBrothers x = rich();
        x.image();
        int[] before = Checks.state(x);
        Checks.land(x, "city 1000 1 1;");
        x.years(0);
        x.see(0, 0);
        x.see(0, 0);
        x.feed(1, 2, 3, 4, 5);
        Checks.same("restore", true, x.restore());
        Checks.stayed("all but what is no part of it", before, x, 15, 20, 16, 1, 17, 1, 18, 2, 19, 5);
    }

    private static void whatCountsInStatus() {
        TurnBrothers x = rich();
        for (int i = 0; i < 35; i++) {
            x.feed(0, 0, 0, 0, 0);
        }
        int[] before = Checks.state(x);
        x.feed(0, 0, 0, 0, 0);
        Checks.illegal("land(-1)", () -> x.land(-1));
        Checks.noSuch("gift to nobody", () -> x.gift(9, 0));
        Checks.noSuch("change of nobody", () -> x.change(9, 9, 9));
        Checks.illegal("then(61, 0)", () -> x.then(61, 0));
        Checks.same("restore", false, x.restore());
        Checks.stayed("none of these is counted", before, x);
        x.undo();
        x.undo();
        x.undo();
        Checks.same("nor undo of none", 0, x.count(17));
        Checks.same("land of what is no text", 1, x.land(700));
        Checks.same("status 0", 1, x.count(16));
        Checks.same("status 1", 0, x.count(17));
        Checks.same("status 2", 0, x.count(18));
    }

    private static void statusOverLands() {
        TurnBrothers x = new TurnBrothers();
        for (int i = 1; i <= 5; i++) {
            Checks.land(x, "x");
            x.term(0);
            x.see(0, 0);
            Checks.same("a land", 0, Checks.land(x, "city 1 1 1;"));
            for (int status = 0; status < 3; status++) {
                Checks.same("status " + status, i, x.count(16 + status));
            }
        }
    }
}
