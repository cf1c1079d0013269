/** 'Terms', ==== 4: CHAMPIONS before GATES and FRIENDS (promises 22 to 27, 37): none, all, the last one that WINS. */
public final class EdgesOfPeopleTest {
    private EdgesOfPeopleTest() {
    }

    public static void main(String[] args) {
        winsByOneMore();
        winsByTheKind();
        wallsCutDown();
        assaultOfNone();
        assaultOfAll();
        assaultFirstRow();
        assaultNoneBehindAll();
        assaultIsTheFirstOfAllRows();
        boughtNone();
        boughtLeastNumber();
        boughtBits();
        boughtIsTheLeastOfAll();
        guardedExactly();
        guardedByNone();
        oddsOfNobody();
        oddsOfEachTenth();
        oddsOfSix();
        oddsOrMore();
        movedByOneMore();
        movedFromTheElder();
        movedOnlyOthers();
        movedWhenIntsWrap();
        partiesOfNobody();
        partiesNoLessThanZero();
        partiesOfSix();
        partiesThereIsAlwaysOne();
        Checks.finish();
    }

    private static boolean wins(int champion, int itsKind, int gate, int kind, int walls) {
        return Checks.landed("city 0 " + walls + " 0;champion " + champion + " " + itsKind + ";gate " + gate + " " + kind + ";")
                .wins(0, 0);
    }

    private static void winsByOneMore() {
        for (int gate = 0; gate <= 20; gate++) {
            for (int champion = 0; champion <= 20; champion++) {
                Checks.same(champion + " before " + gate, champion > gate, wins(champion, 1, gate, 2, 0));
            }
        }
    }

    private static void winsByTheKind() {
        for (int gate = 0; gate <= 20; gate++) {
            for (int champion = 0; champion <= 20; champion++) {
                Checks.same(champion + " before " + gate, champion + 5 > gate, wins(champion, 3, gate, 3, 0));
            }
        }
        Checks.same("kind 0, too", true, wins(0, 0, 4, 0, 0));
        Checks.same("5 more is not 6", false, wins(0, 0, 5, 0, 0));
    }

    private static void wallsCutDown() {
        for (int walls = 0; walls <= 99; walls++) {
            int tenth = walls / 10;
            Checks.same("as strong as walls of " + walls, false, wins(tenth + 5, 0, 5, 1, walls));
            Checks.same("one more than walls of " + walls, true, wins(tenth + 6, 0, 5, 1, walls));
        }
        TurnBrothers x = Checks.landed("city 0 9 0;harvests 0;deed 0 1 0 0;elder 0;champion 5 0;gate 4 1;");
        Checks.same("walls of 9", true, x.wins(0, 0));
        x.years(1);
        Checks.same("walls of 10", false, x.wins(0, 0));
    }

    private static void assault(String text, int many, int... gates) {
        TurnBrothers x = Checks.landed(text);
        Checks.same("how many in " + text, many, x.assault(-1));
        for (int champion = 0; champion < gates.length; champion++) {
            Checks.same("gate of " + champion + " in " + text, gates[champion], x.assault(champion));
        }
        int behind = gates.length;
        Checks.noSuchAt(x, "none behind the last", () -> x.assault(behind));
    }

    private static void assaultOfNone() {
        assault("", 0);
        assault("gate 0 0;", 0);
        assault("champion 20 0;", 0, -1);
        assault("city 0 0 0;champion 5 0;gate 5 1;", 0, -1);
        assault("city 0 0 0;champion 6 0;gate 5 1;", 1, 0);
        assault("city 0 0 0;" + "champion 0 0;".repeat(7) + "gate 20 0;".repeat(7), 0, -1, -1, -1, -1, -1, -1, -1);
    }

    private static void assaultOfAll() {
        String champions = "champion 20 0;".repeat(7);
        String gates = "gate 0 0;".repeat(7);
        assault("city 0 0 0;" + champions + gates, 7, 0, 1, 2, 3, 4, 5, 6);
        assault("city 0 0 0;" + champions + "gate 0 0;", 1, 0, -1, -1, -1, -1, -1, -1);
        assault("city 0 0 0;" + champions + "gate 0 0;".repeat(6), 6, 0, 1, 2, 3, 4, 5, -1);
        assault("city 0 0 0;champion 20 0;" + gates, 1, 0);
        assault("city 0 0 0;" + "champion 20 0;".repeat(6) + gates, 6, 0, 1, 2, 3, 4, 5);
    }

    private static void assaultFirstRow() {
        // each wins at both: 0 1 is ahead of 1 0
        assault("city 0 0 0;champion 9 0;champion 9 0;gate 1 1;gate 1 1;", 2, 0, 1);
        // the second one only at gate 0: the first one leaves it to him
        assault("city 0 0 0;champion 9 0;champion 3 0;gate 1 1;gate 8 1;", 2, 1, 0);
        // the first one only at gate 1
        assault("city 0 0 0;champion 3 0;champion 9 0;gate 8 1;gate 1 1;", 2, 1, 0);
        // the strong ones are last: 6 at gates 0 to 5 alone
        assault("city 0 0 0;" + "champion 9 0;".repeat(6) + "champion 19 0;" + "gate 1 1;".repeat(6) + "gate 12 1;",
                7, 0, 1, 2, 3, 4, 5, 6);
        assault("city 0 0 0;champion 19 0;" + "champion 9 0;".repeat(6) + "gate 1 1;".repeat(6) + "gate 12 1;",
                7, 6, 0, 1, 2, 3, 4, 5);
    }

    private static void assaultNoneBehindAll() {
        // one gate: he who is first goes there, though the other one could as well
        assault("city 0 0 0;champion 9 0;champion 9 0;gate 1 1;", 1, 0, -1);
        // the last gate is ahead of none
        assault("city 0 0 0;champion 3 0;champion 3 0;" + "gate 8 1;".repeat(6) + "gate 1 1;", 1, 6, -1);
        // none for the second one, as the first and the third have all gates where he wins
        assault("city 0 0 0;champion 9 0;champion 3 0;champion 3 0;gate 1 1;gate 2 1;", 2, 0, 1, -1);
    }

    /** All rows of up to three champions and gates, told apart by hand. */
    private static void assaultIsTheFirstOfAllRows() {
        for (int wins = 0; wins < 64; wins++) {
            int[] champions = {wins & 3, wins >> 2 & 3, wins >> 4};
            StringBuilder text = new StringBuilder("city 0 0 0;gate 9 0;gate 9 1;gate 8 2;");
            for (int champion : champions) {
                text.append("champion ").append(champion == 3 ? 9 : 5).append(' ').append(champion).append(';');
            }
            TurnBrothers x = Checks.landed(text.toString());
            int[] best = firstRow(x);
            for (int champion = 0; champion < 3; champion++) {
                Checks.same("gate of " + champion + " in " + text, best[champion] == 3 ? -1 : best[champion],
                        x.assault(champion));
            }
            Checks.same("how many in " + text, best[3], x.assault(-1));
        }
    }

    /** The rows in order, gate 3 being none, the first with most that WIN; behind it how many. */
    private static int[] firstRow(TurnBrothers x) {
        int[] best = {3, 3, 3, -1};
        for (int row = 0; row < 64; row++) {
            int[] gates = {row >> 4, row >> 2 & 3, row & 3};
            int many = 0;
            int taken = 0;
            boolean may = true;
            for (int champion = 0; champion < 3; champion++) {
                if (gates[champion] < 3) {
                    may = may && (taken >> gates[champion] & 1) == 0 && x.wins(champion, gates[champion]);
                    taken |= 1 << gates[champion];
                    many++;
                }
            }
            if (may && many > best[3]) {
                best = new int[] {gates[0], gates[1], gates[2], many};
            }
        }
        return best;
    }

    private static void bought(String text, int many, int who) {
        TurnBrothers x = Checks.landed(text);
        Checks.same("how many are bought off in " + text, many, x.bought(0));
        Checks.same("who in " + text, who, x.bought(1));
    }

    private static void boughtNone() {
        bought("", 0, 0);
        bought("champion 20 0;", 0, 0);
        bought("gate 0 0;", 0, 0);
        bought("city 0 0 0;champion 5 0;gate 5 1;", 0, 0);
        bought("city 0 0 0;champion 6 0;gate 5 1;", 1, 1);
    }

    private static void boughtLeastNumber() {
        // a champion is a lesser number than a gate
        bought("city 0 0 0;champion 9 0;gate 1 1;", 1, 1);
        // gate 0 alone, or champion 0 and 1: one is fewer
        bought("city 0 0 0;champion 9 0;champion 9 0;gate 1 1;", 1, 128);
        // champions 0 and 1, or gates 0 and 1
        bought("city 0 0 0;champion 9 0;champion 9 0;gate 1 1;gate 1 1;", 2, 3);
        // two pairs: of each the champion
        bought("city 0 0 0;champion 5 0;champion 5 1;gate 9 0;gate 9 1;", 2, 3);
        // champion 0 wins at gates 0 and 1, champions 1 and 2 at gate 1
        bought("city 0 0 0;champion 9 2;champion 5 1;champion 5 1;gate 8 0;gate 8 1;", 2, 1 | 256);
    }

    private static void boughtBits() {
        for (int i = 0; i < 7; i++) {
            String before = "champion 0 0;".repeat(i);
            bought("city 0 0 0;" + before + "champion 9 0;gate 6 1;gate 6 1;", 1, 1 << i);
            String gates = "gate 20 0;".repeat(i);
            bought("city 0 0 0;champion 9 0;champion 9 0;" + gates + "gate 6 1;", 1, 128 << i);
        }
        bought("city 0 0 0;" + "champion 20 0;".repeat(7) + "gate 0 0;".repeat(7), 7, 127);
        bought("city 0 0 0;" + "champion 20 0;".repeat(7) + "gate 0 0;".repeat(6), 6, 63 << 7);
        bought("city 0 0 0;" + "champion 20 0;".repeat(6) + "gate 0 0;".repeat(7), 6, 63);
    }

    /** As many as can WIN at once must be bought off, and no fewer; who is least is counted by hand. */
    private static void boughtIsTheLeastOfAll() {
        for (int i = 0; i < 40; i++) {
            StringBuilder text = new StringBuilder("city 0 0 0;");
            for (int k = 0; k < 4; k++) {
                text.append("champion ").append((i * 7 + k * 5) % 13).append(' ').append((i + k * k) % 4).append(';');
                text.append("gate ").append((i * 3 + k * 7) % 11).append(' ').append((i / 3 + k) % 4).append(';');
            }
            TurnBrothers x = Checks.landed(text.toString());
            int best = -1;
            for (int bits = 0; bits < 1 << 11; bits++) {
                if ((bits & 0x70) == 0 && holds(x, bits)
                        && (best < 0 || Integer.bitCount(bits) < Integer.bitCount(best))) {
                    best = bits;
                }
            }
            bought(text.toString(), Integer.bitCount(best), best);
            Checks.same("as many as can win", x.assault(-1), x.bought(0));
        }
    }

    private static boolean holds(TurnBrothers x, int bits) {
        for (int champion = 0; champion < 4; champion++) {
            for (int gate = 0; gate < 4; gate++) {
                if (x.wins(champion, gate) && (bits >> champion & 1) == 0 && (bits >> gate + 7 & 1) == 0) {
                    return false;
                }
            }
        }
        return true;
    }

    private static void guardedExactly() {
        for (int walls = 0; walls <= 99; walls += 3) {
            for (int champion = 0; champion <= 20; champion += 4) {
                String city = "city 0 " + walls + " 0;champion " + champion + " 1;champion 3 2;";
                int strength = Checks.landed(city + "gate 7 1;").guarded(0);
                Checks.same("its own strength is nothing to it", strength, Checks.landed(city + "gate 0 1;").guarded(0));
                int due = Math.max(0, Math.max(champion + 5, 3) - walls / 10);
                Checks.same("guarded by " + walls + " against " + champion, due, strength);
                if (strength <= 20) {
                    Checks.same("nobody wins", 0, Checks.landed(city + "gate " + strength + " 1;").assault(-1));
                }
                if (strength >= 1 && strength <= 21) {
                    Checks.same("by one less somebody does", 1,
                            Checks.landed(city + "gate " + (strength - 1) + " 1;").assault(-1));
                }
            }
        }
    }

    private static void guardedByNone() {
        Checks.same("no champions", 0, Checks.landed("city 0 0 0;gate 20 0;").guarded(0));
        Checks.same("a champion of 0", 0, Checks.landed("city 0 0 0;champion 0 0;gate 20 1;").guarded(0));
        Checks.same("as much as the walls", 0, Checks.landed("city 0 99 0;champion 9 0;gate 20 1;").guarded(0));
        Checks.same("one more than the walls", 1, Checks.landed("city 0 99 0;champion 10 0;gate 20 1;").guarded(0));
        Checks.same("the most", 25, Checks.landed("city 0 0 0;" + "champion 20 3;".repeat(7) + "gate 0 3;").guarded(0));
    }

    private static void oddsOfNobody() {
        TurnBrothers x = Checks.landed("friend 1 9;");
        for (int tenths = 1; tenths <= 9; tenths++) {
            Checks.same("nobody brings 0 or more", 1, x.odds(0, tenths, 0));
            Checks.same("nobody brings one", 0, x.odds(0, tenths, 1));
            Checks.same("nobody brings 54", 0, x.odds(0, tenths, 54));
        }
    }

    private static void oddsOfEachTenth() {
        TurnBrothers x = Checks.landed("friend 1 9;friend -1 4;friend 0 0;");
        for (int tenths = 1; tenths <= 9; tenths++) {
            Checks.same("he comes", tenths, x.odds(1, tenths, 1));
            Checks.same("with nine", tenths, x.odds(1, tenths, 9));
            Checks.same("not with ten", 0, x.odds(1, tenths, 10));
            Checks.same("or not", 10, x.odds(1, tenths, 0));
            Checks.same("of two, one of them without men", 10 * tenths, x.odds(0, tenths, 4));
            Checks.same("of two, any", 100, x.odds(0, tenths, 0));
        }
    }

    private static void oddsOfSix() {
        TurnBrothers x = Checks.landed("friend 0 9;".repeat(6));
        Checks.same("all six by 9", 531441, x.odds(0, 9, 54));
        Checks.same("all six by 1", 1, x.odds(0, 1, 54));
        Checks.same("46 is all six", 531441, x.odds(0, 9, 46));
        Checks.same("45 is five of them", 531441 + 6 * 59049, x.odds(0, 9, 45));
        Checks.same("any by 1", 1000000, x.odds(0, 1, 0));
        Checks.same("one by 1", 1000000 - 531441, x.odds(0, 1, 1));
        Checks.same("one by 9", 999999, x.odds(0, 9, 9));
        Checks.same("two by 9", 999999 - 6 * 9, x.odds(0, 9, 10));
    }

    private static void oddsOrMore() {
        TurnBrothers x = Checks.landed("friend 1 1;friend 1 2;friend 1 4;");
        int[] more = {8, 7, 6, 5, 4, 3, 2, 1, 0, 0};
        for (int men = 0; men < more.length; men++) {
            Checks.same("as many as " + men, 125 * more[men], x.odds(1, 5, men));
        }
    }

    private static void movedByOneMore() {
        for (int lean = -9; lean <= 9; lean++) {
            TurnBrothers x = Checks.landed("likes glory+lean;friend " + lean + " 1;");
            // of both the lean counts: the elder must be no less, the younger one more
            for (int glory = 1; glory <= 99; glory++) {
                Checks.same("to the elder at " + lean, lean > 0 && glory - lean >= lean ? 1 : 0, x.moved(0, glory));
                Checks.same("to the younger at " + lean, lean <= 0 && glory + lean > -lean ? 1 : 0, x.moved(1, glory));
            }
        }
    }

    private static void movedFromTheElder() {
        TurnBrothers x = Checks.landed("likes glory;friend 9 1;deed 0 0 0 20;elder 0;");
        Checks.same("alike now: by one", 1, x.moved(1, 1));
        Checks.same("he follows the elder anyway", 0, x.moved(0, 1));
        x.years(1);
        Checks.same("20 is alike", 0, x.moved(1, 20));
        Checks.same("21 is more", 1, x.moved(1, 21));
        Checks.same("the glory itself stays", 20, x.brother(0, 0));
        Checks.same("of the other one, too", 0, x.brother(1, 0));
    }

    private static void movedOnlyOthers() {
        TurnBrothers x = Checks.landed("likes glory+9*lean;" + "friend 1 1;friend -1 1;".repeat(3));
        Checks.same("to the elder: 0, 2, 4", 21, x.moved(0, 99));
        Checks.same("to the younger: 1, 3, 5", 42, x.moved(1, 99));
        Checks.same("18 to the elder", 21, x.moved(0, 18));
        Checks.same("17 to the elder", 0, x.moved(0, 17));
        Checks.same("18 to the younger", 0, x.moved(1, 18));
        Checks.same("19 to the younger", 42, x.moved(1, 19));
        Checks.same("without friends", 0, new TurnBrothers().moved(0, 99));
        Checks.same("without likes", 0, Checks.landed("friend 9 1;").moved(0, 99));
    }

    private static void movedWhenIntsWrap() {
        TurnBrothers x = Checks.landed("likes glory+2147*1000*1000+483*1000+640;friend 0 1;");
        Checks.same("up to the most", 1, x.moved(1, 7));
        Checks.same("beyond it the least", 0, x.moved(1, 8));
    }

    private static void partiesOfNobody() {
        TurnBrothers x = new TurnBrothers();
        Checks.same("one way of none", 1, x.parties(0));
        Checks.same("with no bits", 0, x.parties(1));
    }

    private static void parties(String text, int many, int first) {
        TurnBrothers x = Checks.landed(text);
        Checks.same("parties in " + text, many, x.parties(0));
        Checks.same("the first in " + text, first, x.parties(1));
    }

    private static void partiesNoLessThanZero() {
        parties("friend 0 1;", 2, 0);
        parties("friend 1 1;", 1, 1);
        parties("friend -1 1;", 1, 0);
        // on one side he has 2 less his lean: 0 is enough
        parties("friend -2 1;friend 2 1;", 3, 0);
        parties("friend -3 1;friend 3 1;", 1, 2);
        parties("friend 3 1;friend -3 1;", 1, 1);
        parties("friend -2 1;friend 3 1;", 2, 2);
        parties("friend 0 1;friend 0 1;", 2, 0);
    }

    private static void partiesOfSix() {
        parties("friend 0 1;".repeat(6), 2, 0);
        parties("friend 9 1;".repeat(6), 2, 0);
        parties("friend -9 1;".repeat(6), 2, 0);
        parties("friend 9 1;".repeat(5), 1, 31);
        parties("friend -9 1;".repeat(5), 1, 0);
        // together the others are worth 10 to each, on two sides of three he has 4 less 6
        parties("friend -9 1;friend -9 1;friend -9 1;friend 9 1;friend 9 1;friend 9 1;", 3, 0);
    }

    private static void partiesThereIsAlwaysOne() {
        for (int a = -9; a <= 9; a += 2) {
            for (int b = -9; b <= 9; b += 3) {
                for (int c = -9; c <= 9; c++) {
                    TurnBrothers x = Checks.landed("friend " + a + " 1;friend " + b + " 1;friend " + c + " 1;");
                    Checks.same("there is one", true, x.parties(0) > 0 && x.parties(1) >= 0);
                }
            }
        }
    }
}
