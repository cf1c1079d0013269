/**
 * 'Promise 1' to 'Promise 40': what each call throws, on both sides of what it takes, which exception
 * comes ahead of the other, and that all stays as it was then.
 */
public final class EdgesOfCallsTest {
    private static final int[] INTS = {Integer.MIN_VALUE, Integer.MIN_VALUE + 1, -1000, -2, -1, 0, 1, 2, 3, 4, 5, 6, 7, 8, 9, 10,
        12, 13, 18, 19, 20, 29, 30, 31, 53, 54, 55, 59, 60, 61, 62, 98, 99, 100, 101, 999, 1000, 65536, Integer.MAX_VALUE - 1,
        Integer.MAX_VALUE};
    private static final int[] FEW = {Integer.MIN_VALUE, -1, 0, 1, 2, 5, 60, Integer.MAX_VALUE};
    private static final int NO_SUCH = Checks.NO_SUCH;
    private static final int ILLEGAL = Checks.ILLEGAL;
    /** Any answer that is no exception. */
    private static final int FINE = 0;

    private interface One {
        int ask(int a);
    }

    private interface Two {
        int ask(int a, int b);
    }

    private interface Three {
        int ask(int a, int b, int c);
    }

    private static TurnBrothers x;
    private static int[] before;

    private EdgesOfCallsTest() {
    }

    public static void main(String[] args) {
        // 3 DEEDS, ways of 2 and 1, 3 FRIENDS, 2 CHAMPIONS, 2 GATES
        x = Checks.landed(LandTest.CITY);
        x.years(3);
        x.loan(30);
        x.see(2, 30);
        x.image();
        x.years(0);
        before = Checks.state(x);
        whatAlone();
        whoAlone();
        whoAndWhat();
        whatAheadOfNumbers();
        oddsAndMoved();
        game();
        cost();
        land();
        withoutAnything();
        Checks.stayed("behind all calls that throw", before, x);
        Checks.same("the image is there", true, x.restore());
        Checks.same("the act is there", 1, x.undo());
        Checks.finish();
    }

    private static boolean within(int number, int least, int most) {
        return number >= least && number <= most;
    }

    private static void outcome(String call, int due, int got) {
        boolean threw = got == NO_SUCH || got == ILLEGAL;
        Checks.same(call, due, threw ? got : FINE);
        if (threw) {
            Checks.stayed("behind " + call, before, x);
        }
    }

    private static void one(String call, int least, int most, int thrown, One asked) {
        for (int a : INTS) {
            outcome(call + "(" + a + ")", within(a, least, most) ? FINE : thrown, Checks.outcome(() -> asked.ask(a)));
        }
    }

    private static void whatAlone() {
        one("count", 0, 18, NO_SUCH, a -> x.count(a));
        one("stays", 0, 1, NO_SUCH, a -> x.stays(a));
        one("bought", 0, 1, NO_SUCH, a -> x.bought(a));
        one("parties", 0, 1, NO_SUCH, a -> x.parties(a));
        one("another", 0, 2, NO_SUCH, a -> x.another(a));
        one("next", 0, 1, NO_SUCH, a -> x.next(a));
        one("highest", 0, 1, NO_SUCH, a -> x.highest(a));
        one("better", 0, 1, NO_SUCH, a -> x.better(a));
    }

    private static void whoAlone() {
        one("assault", -1, 1, NO_SUCH, a -> x.assault(a));
        one("guarded", 0, 1, NO_SUCH, a -> x.guarded(a));
        one("swap", 0, 1, NO_SUCH, a -> x.swap(a));
    }

    /** NoSuchElementException, if either is none. */
    private static void two(String call, int most, int mostWhat, Two asked) {
        for (int a : INTS) {
            for (int b : INTS) {
                boolean fine = within(a, 0, most) && within(b, 0, mostWhat);
                outcome(call + "(" + a + ", " + b + ")", fine ? FINE : NO_SUCH, Checks.outcome(() -> asked.ask(a, b)));
            }
        }
    }

    private static void whoAndWhat() {
        two("deed", 2, 4, (a, b) -> x.deed(a, b));
        two("brother", 1, 5, (a, b) -> x.brother(a, b));
        two("friend", 2, 4, (a, b) -> x.friend(a, b));
        two("wins", 1, 1, (a, b) -> x.wins(a, b) ? 1 : 0);
        for (int a : INTS) {
            for (int b : INTS) {
                boolean fine = a == 0 && within(b, 0, 1) || a == 1 && b == 0;
                outcome("way(" + a + ", " + b + ")", fine ? FINE : NO_SUCH, Checks.outcome(() -> x.way(a, b)));
            }
        }
    }

    /** Another what is NoSuchElementException, ahead of a number that is not within its bounds. */
    private static void numberAndWhat(String call, int least, int most, int mostWhat, Two asked) {
        for (int a : INTS) {
            for (int b : INTS) {
                int due = !within(b, 0, mostWhat) ? NO_SUCH : !within(a, least, most) ? ILLEGAL : FINE;
                outcome(call + "(" + a + ", " + b + ")", due, Checks.outcome(() -> asked.ask(a, b)));
            }
        }
    }

    private static void whatAheadOfNumbers() {
        numberAndWhat("then", 0, 60, 6, (a, b) -> x.then(a, b));
        numberAndWhat("plan", 1, 4, 1, (a, b) -> x.plan(a, b));
        for (int seed : FEW) {
            numberAndWhat("cities of " + seed, 0, 60, 2, (a, b) -> x.cities(seed, a, b));
        }
    }

    private static void three(String call, int[] first, Three due, Three asked) {
        for (int a : first) {
            for (int b : INTS) {
                for (int c : INTS) {
                    outcome(call + "(" + a + ", " + b + ", " + c + ")", due.ask(a, b, c),
                            Checks.outcome(() -> asked.ask(a, b, c)));
                }
            }
        }
    }

    private static void oddsAndMoved() {
        three("odds", FEW, (a, b, c) -> !within(a, 0, 1) ? NO_SUCH
                : within(b, 1, 9) && within(c, 0, 54) ? FINE : ILLEGAL, (a, b, c) -> x.odds(a, b, c));
        for (int a : INTS) {
            for (int b : INTS) {
                int due = !within(a, 0, 1) ? NO_SUCH : within(b, 1, 99) ? FINE : ILLEGAL;
                outcome("moved(" + a + ", " + b + ")", due, Checks.outcome(() -> x.moved(a, b)));
            }
        }
    }

    private static void game() {
        three("game", new int[] {Integer.MIN_VALUE, -1, 0, 1, 2, 3, 7, Integer.MAX_VALUE},
            (a, b, c) -> !within(a, 0, 2) || !within(b, 0, 2) || !within(c, 0, 1) ? NO_SUCH : a == b ? ILLEGAL : FINE,
            (a, b, c) -> x.game(a, b, c));
    }

    private static void cost() {
        one("cost", 1, 60, ILLEGAL, a -> x.cost(a));
    }

    private static void land() {
        for (int n : INTS) {
            if (n != 0) {
                outcome("land(" + n + ")", ILLEGAL, Checks.outcome(() -> x.land(n)));
            }
        }
    }

    /** Without DEEDS, FRIENDS, CHAMPIONS, GATES there is none of each, whatever the number. */
    private static void withoutAnything() {
        TurnBrothers none = new TurnBrothers();
        for (int i : INTS) {
            Checks.noSuch("deed " + i, () -> none.deed(i, 0));
            Checks.noSuch("friend " + i, () -> none.friend(i, 0));
            Checks.noSuch("way of 0, " + i, () -> none.way(0, i));
            Checks.noSuch("way of 1, " + i, () -> none.way(1, i));
            Checks.noSuch("wins " + i, () -> none.wins(i, i));
            Checks.noSuch("guarded " + i, () -> none.guarded(i));
            Checks.noSuch("game " + i, () -> none.game(i, i, 0));
            Checks.noSuch("gift " + i, () -> none.gift(i, 1));
            Checks.noSuch("change " + i, () -> none.change(0, 0, i));
            if (i != -1) {
                Checks.noSuch("assault " + i, () -> none.assault(i));
            }
        }
        TurnBrothers champion = Checks.landed("champion 1 1;");
        Checks.noSuchAt(champion, "a champion without gates", () -> champion.wins(0, 0));
        TurnBrothers gate = Checks.landed("gate 1 1;");
        Checks.noSuchAt(gate, "a gate without champions", () -> gate.wins(0, 0));
        Checks.same("none wins without champions", 0, gate.assault(-1));
    }
}
