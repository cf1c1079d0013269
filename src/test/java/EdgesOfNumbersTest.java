/**
 * 'Terms', its first part: each NUMBER that a LAND tells, from the least to the most and one beyond on
 * both sides, how many of each there may be, and what holds without a LINE.
 */
public final class EdgesOfNumbersTest {
    /** Where a NUMBER is seen that a TEXT told. */
    private interface Place {
        int read(TurnBrothers x);
    }

    private EdgesOfNumbersTest() {
    }

    public static void main(String[] args) {
        store();
        walls();
        debt();
        cost();
        builds();
        owes();
        glory();
        wayOfDeeds();
        harvests();
        term();
        lean();
        men();
        strengths();
        kinds();
        kindFaults();
        howManyDeeds();
        howManyOfAWay();
        howManyHarvests();
        howManyFriends();
        howManyFighters();
        withoutACity();
        withoutAWay();
        withoutHarvests();
        withoutATerm();
        withoutRules();
        withoutAnything();
        allAnew();
        noFaultAnew();
        Checks.finish();
    }

    private static void all(String ahead, String behind, int least, int most, Place place) {
        for (int number = least; number <= most; number++) {
            String text = ahead + number + behind;
            Checks.same(text, number, place.read(Checks.landed(text)));
        }
    }

    /** A NUMBER that is never below 0: '-' can't stand there. */
    private static void natural(String ahead, String behind, int least, int most, Place place) {
        all(ahead, behind, least, most, place);
        naturalFaults(ahead, behind, least, most);
        Checks.fault(rich(), ahead + ";", 1, ahead.length());
    }

    private static void naturalFaults(String ahead, String behind, int least, int most) {
        TurnBrothers x = rich();
        int at = ahead.length();
        Checks.fault(x, ahead + (most + 1) + behind, 2, at);
        Checks.fault(x, ahead + "9999" + behind, 2, at);
        Checks.fault(x, ahead + "00000" + behind, 2, at);
        Checks.fault(x, ahead + "-0" + behind, 1, at);
        Checks.fault(x, ahead + "-1" + behind, 1, at);
        if (least > 0) {
            Checks.fault(x, ahead + (least - 1) + behind, 2, at);
            Checks.fault(x, ahead + "0000" + behind, 2, at);
        }
    }

    /** A NUMBER that may be below 0: its FAULT is at the NUMBER, behind the '-'. */
    private static void signed(String ahead, String behind, int most, Place place) {
        all(ahead, behind, -most, most, place);
        String zero = ahead + "-0" + behind;
        Checks.same(zero, 0, place.read(Checks.landed(zero)));
        String apart = ahead + "- " + most + behind;
        Checks.same(apart, -most, place.read(Checks.landed(apart)));
        TurnBrothers x = rich();
        int at = ahead.length();
        Checks.fault(x, ahead + (most + 1) + behind, 2, at);
        Checks.fault(x, ahead + (-most - 1) + behind, 2, at + 1);
        Checks.fault(x, ahead + "-  " + (most + 1) + behind, 2, at + 3);
        Checks.fault(x, ahead + "9999" + behind, 2, at);
        Checks.fault(x, ahead + "-9999" + behind, 2, at + 1);
        Checks.fault(x, ahead + "-00000" + behind, 2, at + 1);
        Checks.fault(x, ahead + "--1" + behind, 1, at + 1);
        Checks.fault(x, ahead + "+1" + behind, 1, at);
        Checks.fault(x, ahead + "-;", 1, at + 1);
        Checks.fault(x, ahead + "-", 1, at + 1);
    }

    /** One in whom a FAULT must leave much as it was. */
    private static TurnBrothers rich() {
        TurnBrothers x = Checks.landed(LandTest.CITY);
        x.years(3);
        x.loan(7);
        x.see(2, 30);
        x.years(0);
        x.see(0, 0);
        return x;
    }

    private static void store() {
        natural("city ", " 1 2;", 0, 999, x -> x.count(0));
    }

    private static void walls() {
        natural("city 1 ", " 2;", 0, 99, x -> x.count(1));
    }

    private static void debt() {
        natural("city 1 2 ", ";", 0, 999, x -> x.count(2));
    }

    private static void cost() {
        natural("deed ", " 1 2 3;", 0, 99, x -> x.deed(0, 0));
    }

    private static void builds() {
        signed("deed 1 ", " 2 3;", 20, x -> x.deed(0, 1));
    }

    private static void owes() {
        signed("deed 1 2 ", " 3;", 99, x -> x.deed(0, 2));
    }

    private static void glory() {
        signed("deed 1 2 -3 ", ";", 20, x -> x.deed(0, 3));
    }

    private static void wayOfDeeds() {
        TurnBrothers x = rich();
        for (String brother : new String[] {"elder", "younger"}) {
            String deeds = "";
            int who = brother.equals("elder") ? 0 : 1;
            for (int many = 0; many <= 7; many++) {
                for (int deed = 0; deed < many; deed++) {
                    String text = deeds + brother + " " + deed + ";";
                    Checks.same(text, deed, Checks.landed(text).way(who, 0));
                }
                int at = deeds.length() + brother.length() + 1;
                Checks.fault(x, deeds + brother + " " + many + ";", 3, at);
                Checks.fault(x, deeds + brother + " 9999;", 3, at);
                Checks.fault(x, deeds + brother + " 00000;", 2, at);
                Checks.fault(x, deeds + brother + " -0;", 1, at);
                deeds += "deed 0 0 0 0;";
            }
        }
    }

    private static void harvests() {
        natural("city 0 0 0;harvests ", ";", 0, 99, x -> x.then(1, 0));
        all("city 0 0 0;harvests 0 ", ";", 0, 99, x -> x.then(2, 0));
        naturalFaults("harvests 0 ", ";", 0, 99);
        naturalFaults("harvests 0 1 2 3 4 5 6 7 8 ", " ;", 0, 99);
    }

    private static void term() {
        natural("term ", ";", 1, 5, x -> x.count(6));
    }

    private static void lean() {
        signed("friend ", " 1;", 9, x -> x.friend(0, 0));
    }

    private static void men() {
        natural("friend 1 ", ";", 0, 9, x -> x.friend(0, 1));
    }

    private static void strengths() {
        natural("city 0 0 0;gate 0 1;champion ", " 0;", 0, 20, x -> x.guarded(0));
        naturalFaults("gate ", " 1;", 0, 20);
        for (int strength = 0; strength <= 20; strength++) {
            String gate = ";gate " + strength + " 1;";
            if (strength >= 5) {
                Checks.same("as strong as" + gate, false,
                        Checks.landed("city 0 9 0;champion " + (strength - 5) + " 1" + gate).wins(0, 0));
            }
            if (strength >= 4) {
                Checks.same("stronger than" + gate, true,
                        Checks.landed("city 0 9 0;champion " + (strength - 4) + " 1" + gate).wins(0, 0));
            }
            Checks.same("as strong, of another kind, as" + gate, false,
                    Checks.landed("city 0 9 0;champion " + strength + " 2" + gate).wins(0, 0));
        }
    }

    private static void kinds() {
        for (int champion = 0; champion <= 3; champion++) {
            for (int gate = 0; gate <= 3; gate++) {
                String text = "city 0 0 0;champion 1 " + champion + ";gate 5 " + gate + ";";
                Checks.same(text, champion == gate, Checks.landed(text).wins(0, 0));
            }
        }
    }

    private static void kindFaults() {
        naturalFaults("champion 1 ", ";", 0, 3);
        naturalFaults("gate 1 ", ";", 0, 3);
    }

    /** None up to the most of a LINE, and the first TOKEN of the one that is too much. */
    private static void howMany(String line, int most, Place many) {
        TurnBrothers x = rich();
        for (int i = 0; i <= most; i++) {
            Checks.same("land of " + i + " of " + line, 0, Checks.land(x, line.repeat(i)));
            Checks.same("how many of " + line, i, many.read(x));
        }
        String word = line.substring(0, line.indexOf(' '));
        int at = line.length() * most;
        Checks.fault(x, line.repeat(most + 1), 2, at);
        Checks.fault(x, line.repeat(most) + "\n " + word, 2, at + 2);
        Checks.fault(x, line.repeat(most) + word + ";", 2, at);
        Checks.fault(x, line.repeat(most) + word + " 12345;", 2, at);
        Checks.fault(x, line.repeat(most) + word + "s 1 1;", 1, at);
        Checks.fault(x, line.repeat(most) + "term 1;" + line, 2, at + 7);
        Checks.same("as many as ahead of the faults", most, many.read(x));
    }

    private static void howManyDeeds() {
        howMany("deed 1 2 3 4;", 7, x -> x.count(9));
        TurnBrothers x = Checks.landed("deed 1 0 0 0;deed 2 0 0 0;deed 3 0 0 0;deed 4 0 0 0;deed 5 0 0 0;"
                + "deed 6 0 0 0;deed 7 0 0 0;");
        for (int deed = 0; deed < 7; deed++) {
            Checks.same("cost of " + deed, deed + 1, x.deed(deed, 0));
        }
        Checks.noSuch("deed 7 of 7", () -> x.deed(7, 0));
    }

    private static void howManyFriends() {
        howMany("friend 1 2;", 6, x -> x.count(10));
        TurnBrothers x = Checks.landed("friend 1 0;friend 2 0;friend 3 0;friend 4 0;friend 5 0;friend 6 0;");
        for (int friend = 0; friend < 6; friend++) {
            Checks.same("lean of " + friend, friend + 1, x.friend(friend, 0));
        }
        Checks.noSuch("friend 6 of 6", () -> x.friend(6, 0));
    }

    private static void howManyFighters() {
        howMany("champion 1 2;", 7, x -> x.count(11));
        howMany("gate 1 2;", 7, x -> x.count(12));
        TurnBrothers x = Checks.landed("city 0 0 0;" + "champion 20 0;".repeat(7) + "gate 0 0;".repeat(7));
        Checks.same("the seventh of each", true, x.wins(6, 6));
        Checks.noSuch("champion 7 of 7", () -> x.wins(7, 6));
        Checks.noSuch("gate 7 of 7", () -> x.wins(6, 7));
        Checks.noSuch("guarded 7 of 7", () -> x.guarded(7));
        Checks.noSuch("assault 7 of 7", () -> x.assault(7));
    }

    private static void howManyOfAWay() {
        TurnBrothers x = rich();
        for (int who = 0; who < 2; who++) {
            String text = "deed 0 0 0 0;deed 0 0 0 0;" + (who == 0 ? "elder" : "younger");
            Checks.fault(x, text + ";", 1, text.length());
            for (int many = 1; many <= 6; many++) {
                text += " " + many % 2;
                Checks.same("a way of " + many, 0, Checks.land(x, text + ";"));
                Checks.same("deeds in it", many, x.brother(who, 2));
                Checks.same("the last one", many % 2, x.way(who, many - 1));
                int brother = who;
                int behind = many;
                Checks.noSuch("behind the last one", () -> x.way(brother, behind));
                Checks.same("none in the other way", 0, x.brother(1 - who, 2));
            }
            int at = text.length() + 1;
            Checks.fault(x, text + " 0;", 2, at);
            Checks.fault(x, text + " 7;", 2, at);
            Checks.fault(x, text + " 12345;", 2, at);
            Checks.fault(x, text + " 0 0 0;", 2, at);
            Checks.fault(x, text + " 0", 2, at);
            Checks.fault(x, text + " deed", 1, at);
            Checks.fault(x, text + " -0;", 1, at);
            Checks.fault(x, text, 1, text.length());
        }
    }

    private static void howManyHarvests() {
        TurnBrothers x = rich();
        String text = "harvests";
        Checks.fault(x, text + ";", 1, text.length());
        for (int many = 1; many <= 10; many++) {
            text += " " + many;
            Checks.same("harvests of " + many, 0, Checks.land(x, "city 0 0 0;" + text + ";"));
            Checks.same("each once", many * (many + 1) / 2, x.then(many, 0));
            Checks.same("the first one again", many * (many + 1) / 2 + 1, x.then(many + 1, 0));
        }
        int at = text.length() + 1;
        Checks.fault(x, text + " 1;", 2, at);
        Checks.fault(x, text + " 100;", 2, at);
        Checks.fault(x, text + " 12345;", 2, at);
        Checks.fault(x, text + " 1 1 1;", 2, at);
        Checks.fault(x, text + " 1", 2, at);
        Checks.fault(x, text + " term", 1, at);
        Checks.fault(x, text + " -1;", 1, at);
        Checks.fault(x, text, 1, text.length());
    }

    private static void withoutACity() {
        TurnBrothers x = Checks.landed("city 1 2 3;");
        Checks.land(x, "term 2;");
        Checks.same("store without", 50, x.count(0));
        Checks.same("walls without", 20, x.count(1));
        Checks.same("debt without", 0, x.count(2));
    }

    private static void withoutAWay() {
        TurnBrothers x = Checks.landed("deed 0 5 5 5;elder 0 0;younger 0;");
        Checks.land(x, "deed 0 5 5 5;younger 0;");
        Checks.same("the elder's way", 0, x.brother(0, 2));
        Checks.same("what he does", -1, x.brother(0, 5));
        Checks.noSuch("its first deed", () -> x.way(0, 0));
        x.years(1);
        Checks.same("nothing is done: walls", 20, x.count(1));
        Checks.same("nothing is done: debt", 0, x.count(2));
        Checks.same("nothing is done: glory", 0, x.brother(0, 0));
        Checks.same("nor put off", 0, x.count(7));
        Checks.same("the year goes by", 1, x.count(3));
        Checks.same("a year that he ruled", 1, x.brother(0, 1));
        x.years(1);
        Checks.same("the younger one has a way", 25, x.count(1));
    }

    private static void withoutHarvests() {
        TurnBrothers x = Checks.landed("city 0 0 0;harvests 7;");
        Checks.land(x, "city 0 0 0;");
        for (int years = 0; years <= 49; years++) {
            Checks.same("20 each year", 20 * years, x.then(years, 0));
        }
        Checks.same("20 up to the most", 999, x.then(50, 0));
    }

    private static void withoutATerm() {
        TurnBrothers x = Checks.landed("term 5;");
        Checks.land(x, "city 1 1 1;");
        Checks.same("term without", 1, x.count(6));
        for (int years = 0; years <= 60; years++) {
            Checks.same("by turns", years % 2, x.then(years, 5));
        }
    }

    private static void withoutRules() {
        TurnBrothers x = Checks.landed("stays 1;likes 0-lean;friend 1 1;");
        Checks.land(x, "friend 1 1;friend 0 2;friend -1 3;");
        Checks.same("nobody stays", -1, x.stays(0));
        Checks.same("lean 1", 1, x.friend(0, 2));
        Checks.same("lean 0", 0, x.friend(1, 2));
        Checks.same("lean -1", 0, x.friend(2, 2));
        for (int friend = 0; friend < 3; friend++) {
            Checks.same("what likes gives for 0", 0, x.friend(friend, 3));
            Checks.same("what likes gives for 1", 0, x.friend(friend, 4));
        }
        Checks.land(x, "likes 0-lean;friend 1 1;");
        Checks.same("likes alone", 0, x.friend(0, 2));
        Checks.same("nobody stays by likes alone", -1, x.stays(0));
        Checks.land(x, "stays 1;friend 1 1;");
        Checks.same("stays alone", 1, x.friend(0, 2));
        Checks.same("he stays by stays alone", 1, x.stays(0));
    }

    private static void withoutAnything() {
        int[] fresh = Checks.state(new TurnBrothers());
        TurnBrothers x = Checks.landed("likes 7;harvests 1 2 3;" + LandTest.CITY.replace("harvests 20 5;", ""));
        Checks.land(x, LandTest.CITY + "likes lean;");
        x.years(20);
        x.term(5);
        x.gift(0, 1);
        x.see(1, 1);
        x.image();
        Checks.same("an empty text", 0, x.land(0));
        Checks.stayed("as a new one", fresh, x);
        Checks.same("no image", false, x.restore());
        Checks.same("no act", -1, x.undo());
        Checks.same("another empty text", 0, x.land(0));
        Checks.stayed("as a new one again", fresh, x);
    }

    /** What was told two LANDS ago is gone as well. */
    private static void allAnew() {
        String told = "city 1 2 3;deed 9 8 7 6;elder 0;younger 0;harvests 4;term 3;friend 5 4;champion 2 1;gate 2 1;"
                + "stays 5;likes 6;";
        int[] fresh = Checks.state(new TurnBrothers());
        String[] lines = told.split("(?<=;)");
        for (String line : lines) {
            String text = line.startsWith("elder") || line.startsWith("younger") ? "deed 0 0 0 0;" + line : line;
            TurnBrothers x = Checks.landed(told);
            Checks.same("told again", 0, Checks.land(x, told));
            int[] due = Checks.state(Checks.landed(text));
            Checks.same("one line alone", 0, Checks.land(x, text));
            Checks.stayed("as a new one by " + text, due, x);
            Checks.same("none at all", 0, x.land(0));
            Checks.stayed("as a new one behind " + text, fresh, x);
        }
    }

    /** The place of a FAULT is gone with the next LAND, and what was reckoned ahead doesn't tell LIKES. */
    private static void noFaultAnew() {
        TurnBrothers x = new TurnBrothers();
        Checks.fault(x, "term 6;", 2, 5);
        Checks.same("a land", 0, Checks.land(x, "stays 5;friend 1 1;"));
        Checks.same("no fault", -1, x.fault());
        x.years(1);
        Checks.same("stayed by 5", 1, x.count(8));
        Checks.same("likes without", 0, x.friend(0, 3));
        Checks.same("likes without", 0, x.friend(0, 4));
        Checks.fault(x, "!", 1, 0);
        Checks.same("an empty land", 0, x.land(0));
        Checks.same("no fault", -1, x.fault());
    }
}
