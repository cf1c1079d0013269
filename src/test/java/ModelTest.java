import java.util.Random;

/** Runs of calls by fixed seeds: the program answers each as the model does. */
public final class ModelTest {
    private static final String[] WORDS = {"city", "deed", "elder", "younger", "harvests", "term", "friend", "champion",
        "gate", "stays", "likes", "or", "and", "not", "store", "walls", "debt", "glory", "year", "men", "rules", "lean",
        "x", "storey", "", "0", "1", "7", "9", "20", "100", "999", "1000", "12345", ";", "(", ")", "+", "-", "*", "/",
        "<", "=", ">", ",", "A", "\t", "\n", " "};
    private static final String[] STAYS = {"store", "walls", "debt", "glory", "year", "men"};
    private static final String[] LIKES = {"glory", "rules", "lean", "store", "debt"};
    private static final int[] ODD = {-2, -1, 99, 1000, Integer.MAX_VALUE, Integer.MIN_VALUE};

    private final Random random;
    private final TurnBrothers x = new TurnBrothers();
    private final Model model = new Model();
    private int taped = 0;
    private int calls = 0;
    private String lastText = "";

    private ModelTest(long seed) {
        random = new Random(seed);
    }

    public static void main(String[] args) {
        int runs = args.length > 0 ? Integer.parseInt(args[0]) : 400;
        long first = args.length > 1 ? Long.parseLong(args[1]) : 0;
        for (int i = 0; i < runs; i++) {
            new ModelTest(first + i).run();
        }
        Checks.finish();
    }

    private void run() {
        tell(landText());
        int texts = random.nextInt(6);
        while (calls < 440) {
            if (texts > 0 && random.nextInt(60) == 0) {
                texts--;
                tell(random.nextInt(3) == 0 ? landText() : spoilt(landText()));
            }
            if (random.nextInt(4) == 0) {
                act();
            } else {
                ask();
            }
        }
    }

    private void check(String call, int due, int got) {
        calls++;
        if (due != got) {
            System.out.println("land: " + lastText);
        }
        Checks.same(call, due, got);
    }

    // ---- texts

    private void tell(String text) {
        lastText = text;
        Checks.feed(x, text);
        calls += (text.length() + 19) / 20;
        taped += (text.length() + 19) / 20 * 20;
        if (random.nextInt(5) == 0) {
            check("land of too many", Checks.ILLEGAL, Checks.outcome(() -> x.land(taped + 1)));
            check("land below 0", Checks.ILLEGAL, Checks.outcome(() -> x.land(-1)));
            check("tape", model.count(15, taped), x.count(15));
        }
        int due = model.land(text);
        taped = 0;
        check("land of " + text, due, x.land(text.length()));
        check("place of its fault", model.place, x.fault());
    }

    private int up(int most) {
        return random.nextInt(most + 1);
    }

    private String signed(int most) {
        return (random.nextInt(3) == 0 ? "-" : "") + up(random.nextBoolean() ? most : most / 3);
    }

    private String landText() {
        StringBuilder text = new StringBuilder();
        if (random.nextInt(4) > 0) {
            text.append("city ").append(up(random.nextBoolean() ? 999 : 40)).append(' ').append(up(99)).append(' ')
                    .append(up(random.nextBoolean() ? 999 : 30)).append(";\n");
        }
        int deeds = up(7);
        for (int i = 0; i < deeds; i++) {
            text.append("deed ").append(up(random.nextBoolean() ? 99 : 30)).append(' ').append(signed(20)).append(' ')
                    .append(signed(99)).append(' ').append(signed(20)).append(';');
        }
        for (int brother = 0; brother < 2 && deeds > 0; brother++) {
            if (random.nextInt(5) > 0) {
                text.append(brother == 0 ? "elder" : "younger");
                for (int i = up(5); i >= 0; i--) {
                    text.append(' ').append(random.nextInt(deeds));
                }
                text.append(';');
            }
        }
        if (random.nextInt(3) > 0) {
            text.append("harvests");
            for (int i = up(9); i >= 0; i--) {
                text.append(' ').append(up(random.nextBoolean() ? 99 : 20));
            }
            text.append(';');
        }
        if (random.nextBoolean()) {
            text.append("term ").append(1 + up(4)).append(';');
        }
        for (int i = up(6); i > 0; i--) {
            text.append("friend ").append(signed(9)).append(' ').append(up(9)).append(';');
        }
        people(text);
        if (random.nextInt(3) > 0) {
            text.append("stays ").append(expr(STAYS, random.nextBoolean() ? 3 : 6)).append(';');
        }
        if (random.nextInt(3) > 0) {
            text.append("likes ").append(expr(LIKES, random.nextBoolean() ? 3 : 6)).append(';');
        }
        return text.length() <= 700 ? text.toString() : "";
    }

    private void people(StringBuilder text) {
        int most = 1 + up(19);
        for (int i = up(7); i > 0; i--) {
            text.append("champion ").append(up(most)).append(' ').append(up(3)).append(';');
        }
        for (int i = up(7); i > 0; i--) {
            text.append("gate ").append(up(most)).append(' ').append(up(3)).append(';');
        }
    }

    private String expr(String[] values, int size) {
        int kind = random.nextInt(size < 1 ? 2 : 9);
        switch (kind) {
            case 0: return values[random.nextInt(values.length)];
            case 1: return String.valueOf(up(random.nextBoolean() ? 5 : 60));
            case 2: return "not " + expr(values, size - 1);
            case 3: return "(" + expr(values, size - 1) + ")";
            case 4: return expr(values, size - 2) + "<" + expr(values, size - 2);
            case 5: return expr(values, size - 2) + (random.nextBoolean() ? " and " : " or ") + expr(values, size - 2);
            case 6: return expr(values, size - 2) + (random.nextBoolean() ? "=" : "/") + expr(values, size - 2);
            case 7: return expr(values, size - 1) + (random.nextBoolean() ? "*" : "-") + expr(values, size - 1);
            default: return expr(values, size - 1) + "+" + expr(values, size - 1);
        }
    }

    /** A text with some of its tokens put, cut or doubled. */
    private String spoilt(String text) {
        StringBuilder spoilt = new StringBuilder(text);
        for (int i = up(2); i >= 0; i--) {
            int at = up(spoilt.length());
            int to = Math.min(spoilt.length(), at + up(random.nextBoolean() ? 2 : 12));
            String cut = spoilt.substring(at, to);
            switch (random.nextInt(4)) {
                case 0: spoilt.delete(at, to); break;
                case 1: spoilt.insert(at, cut); break;
                case 2: spoilt.insert(at, " " + WORDS[random.nextInt(WORDS.length)] + " "); break;
                default: spoilt.replace(at, to, WORDS[random.nextInt(WORDS.length)]); break;
            }
        }
        return spoilt.length() <= 700 ? spoilt.toString() : spoilt.substring(0, 700);
    }

    // ---- calls

    /** A number from least to most, and now and then a wrong one. */
    private int some(int least, int most) {
        int kind = random.nextInt(25);
        if (kind == 0) {
            return ODD[random.nextInt(ODD.length)];
        }
        if (kind == 1) {
            return most + 1;
        }
        return kind == 2 ? least - 1 : least + random.nextInt(Math.max(0, most - least) + 1);
    }

    private void act() {
        int a = some(0, 1);
        int b = some(0, 5);
        int c = some(0, Math.max(0, model.deeds.size() - 1));
        switch (random.nextInt(12)) {
            case 0:
            case 1: {
                int many = some(1, random.nextBoolean() ? 20 : 4);
                check("years(" + many + ")", model.years(many), x.years(many));
                break;
            }
            case 2:
                check("change(" + a + ", " + b + ", " + c + ")", model.change(a, b, c),
                        Checks.outcome(() -> x.change(a, b, c)));
                break;
            case 3: {
                int years = some(1, 5);
                check("term(" + years + ")", model.term(years), x.term(years));
                break;
            }
            case 4: {
                int much = some(1, 99);
                check("loan(" + much + ")", model.loan(much), x.loan(much));
                break;
            }
            case 5: {
                int much = some(1, 9);
                check("gift(" + b + ", " + much + ")", model.gift(b, much), Checks.outcome(() -> x.gift(b, much)));
                break;
            }
            case 6:
            case 7: check("undo()", model.undo(), x.undo()); break;
            case 8: lookOn(); break;
            case 9:
                model.seen.clear();
                x.forget();
                calls++;
                break;
            case 10:
                if (random.nextInt(3) == 0) {
                    model.image();
                    x.image();
                    calls++;
                }
                break;
            default:
                if (random.nextInt(3) == 0) {
                    check("restore()", model.restore() ? 1 : 0, x.restore() ? 1 : 0);
                }
                break;
        }
    }

    /** What is SEEN: often what could be so by another DEED. */
    private void lookOn() {
        int years = some(1, random.nextBoolean() ? 30 : 5);
        int store = some(0, random.nextBoolean() ? 999 : 30);
        if (random.nextInt(4) > 0 && years > 0 && years < 31) {
            Model.State s = model.now.copy();
            int other = 1 + random.nextInt(12);
            for (int i = 1; i <= years; i++) {
                int deed = i == other && !model.deeds.isEmpty() ? random.nextInt(model.deeds.size())
                        : model.wayDeed(s, s.ruler);
                model.pass(s, model.harvest(s), deed, true);
            }
            store = s.store;
        }
        check("see(" + years + ", " + store + ")", model.see(years, store), x.see(years, store));
    }

    private void ask() {
        int a = some(0, 6);
        int b = some(0, 6);
        int brother = some(0, 1);
        int two = some(0, 1);
        int years = some(0, 60);
        switch (random.nextInt(31)) {
            case 0:
            case 1: {
                int what = some(0, 18);
                check("count(" + what + ")", model.count(what, taped), Checks.outcome(() -> x.count(what)));
                break;
            }
            case 2: check("deed(" + a + ", " + b + ")", model.deed(a, b), Checks.outcome(() -> x.deed(a, b))); break;
            case 3:
            case 4:
                check("brother(" + brother + ", " + b + ")", model.brother(brother, b),
                        Checks.outcome(() -> x.brother(brother, b)));
                break;
            case 5:
                check("way(" + brother + ", " + b + ")", model.way(brother, b), Checks.outcome(() -> x.way(brother, b)));
                break;
            case 6:
            case 7:
                check("friend(" + a + ", " + b + ")", model.friend(a, b), Checks.outcome(() -> x.friend(a, b)));
                break;
            case 8:
            case 9:
                check("then(" + years + ", " + b + ")", model.then(years, b), Checks.outcome(() -> x.then(years, b)));
                break;
            case 10: check("stays(" + two + ")", model.stays(two), Checks.outcome(() -> x.stays(two))); break;
            case 11: check("fair()", model.fair(), x.fair()); break;
            case 12: check("least()", model.least(), x.least()); break;
            case 13: check("cost(" + years + ")", model.cost(years), Checks.outcome(() -> x.cost(years))); break;
            case 14: plan(two); break;
            case 15: check("wins(" + a + ", " + b + ")", model.wins(a, b), Checks.outcome(() -> x.wins(a, b) ? 1 : 0)); break;
            case 16: {
                int champion = some(-1, 6);
                check("assault(" + champion + ")", model.assault(champion), Checks.outcome(() -> x.assault(champion)));
                break;
            }
            case 17: check("bought(" + two + ")", model.bought(two), Checks.outcome(() -> x.bought(two))); break;
            case 18: check("guarded(" + a + ")", model.guarded(a), Checks.outcome(() -> x.guarded(a))); break;
            case 19: odds(brother); break;
            case 20: {
                int glory = some(1, random.nextBoolean() ? 99 : 9);
                check("moved(" + brother + ", " + glory + ")", model.moved(brother, glory),
                        Checks.outcome(() -> x.moved(brother, glory)));
                break;
            }
            default: askMore(a, b, two, years);
        }
    }

    private void plan(int two) {
        int years = some(1, random.nextInt(4) == 0 ? 4 : 3);
        check("plan(" + years + ", " + two + ")", model.plan(years, two), Checks.outcome(() -> x.plan(years, two)));
    }

    private void odds(int brother) {
        int tenths = some(1, 9);
        int men = some(0, random.nextBoolean() ? 54 : 20);
        check("odds(" + brother + ", " + tenths + ", " + men + ")", model.odds(brother, tenths, men),
                Checks.outcome(() -> x.odds(brother, tenths, men)));
    }

    private void askMore(int a, int b, int two, int years) {
        switch (random.nextInt(12)) {
            case 0: check("parties(" + two + ")", model.parties(two), Checks.outcome(() -> x.parties(two))); break;
            case 1:
            case 2: {
                int what = some(0, 2);
                check("another(" + what + ")", model.another(what), Checks.outcome(() -> x.another(what)));
                break;
            }
            case 3: check("next(" + two + ")", model.next(two), Checks.outcome(() -> x.next(two))); break;
            case 4:
                check("game(" + a + ", " + b + ", " + two + ")", model.game(a, b, two),
                        Checks.outcome(() -> x.game(a, b, two)));
                break;
            case 5:
            case 6: {
                int seed = random.nextInt();
                int what = some(0, 2);
                check("cities(" + seed + ", " + years + ", " + what + ")", model.cities(seed, years, what),
                        Checks.outcome(() -> x.cities(seed, years, what)));
                break;
            }
            case 7: check("ruin()", model.ruin(), x.ruin()); break;
            case 8: check("highest(" + two + ")", model.highest(two), Checks.outcome(() -> x.highest(two))); break;
            case 9: check("better(" + two + ")", model.better(two), Checks.outcome(() -> x.better(two))); break;
            case 10: check("swap(" + two + ")", model.swap(two), Checks.outcome(() -> x.swap(two))); break;
            default: check("fault()", model.place, x.fault()); break;
        }
    }
}
