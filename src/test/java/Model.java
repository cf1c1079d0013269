import java.util.ArrayDeque;
import java.util.ArrayList;
import java.util.Arrays;
import java.util.HashMap;
import java.util.HashSet;
import java.util.List;
import java.util.Map;
import java.util.Set;
import java.util.function.ToIntFunction;

/**
 * The document told a second time, for the tests alone: in other shapes than the program (trees,
 * lists, copies, all ways tried), so that both err at one place only if the document was misread.
 */
final class Model {
    /** A FAULT, thrown at its TOKEN. */
    private static final class Fault extends RuntimeException {
        private static final long serialVersionUID = 1L;
        final int kind;
        final int place;

        Fault(int kind, int place) {
            super(null, null, false, false);
            this.kind = kind;
            this.place = place;
        }
    }

    record Token(String text, int place) {
        boolean isWord() {
            return !text.isEmpty() && Character.isLowerCase(text.charAt(0)) && text.charAt(0) < 128;
        }

        boolean isNumber() {
            return !text.isEmpty() && text.charAt(0) >= '0' && text.charAt(0) <= '9';
        }
    }

    static final class State {
        int store = 50;
        int walls = 20;
        int debt = 0;
        int year = 0;
        int ruler = 0;
        int row = 0;
        int putOff = 0;
        int stayed = 0;
        int term = 1;
        int[] ruled = {0, 0};
        int[] glory = {0, 0};
        int[][] ways = {{}, {}};
        int[] leans = {};

        State copy() {
            State s = new State();
            s.store = store;
            s.walls = walls;
            s.debt = debt;
            s.year = year;
            s.ruler = ruler;
            s.row = row;
            s.putOff = putOff;
            s.stayed = stayed;
            s.term = term;
            s.ruled = ruled.clone();
            s.glory = glory.clone();
            s.ways = new int[][] {ways[0].clone(), ways[1].clone()};
            s.leans = leans.clone();
            return s;
        }

        int net() {
            return store - debt;
        }
    }

    private interface Env extends ToIntFunction<String> {
    }

    private interface Expr {
        int in(Env env);
    }

    private static final String[] STAYS = {"store", "walls", "debt", "glory", "year", "men"};
    private static final String[] LIKES = {"glory", "rules", "lean", "store", "debt"};

    // what a LAND tells
    List<int[]> deeds = new ArrayList<>();
    List<Integer> harvests = new ArrayList<>();
    List<Integer> men = new ArrayList<>();
    List<int[]> champions = new ArrayList<>();
    List<int[]> gates = new ArrayList<>();
    Expr stays;
    Expr likes;

    State now = new State();
    ArrayDeque<State> acts = new ArrayDeque<>();
    List<int[]> seen = new ArrayList<>();
    State image;
    ArrayDeque<State> imageActs;
    List<int[]> imageSeen;
    int fault = 0;
    int place = -1;
    int[] status = new int[3];

    // ---- reading

    private List<Token> tokens;
    private int at;
    private String[] values;

    int land(String text) {
        Model told = new Model();
        try {
            told.read(text);
        } catch (Fault f) {
            place = f.place;
            status[0]++;
            return f.kind;
        }
        place = -1;
        deeds = told.deeds;
        harvests = told.harvests;
        men = told.men;
        champions = told.champions;
        gates = told.gates;
        stays = told.stays;
        likes = told.likes;
        now = told.now;
        acts.clear();
        seen.clear();
        image = null;
        return 0;
    }

    private static List<Token> split(String text) {
        List<Token> list = new ArrayList<>();
        java.util.regex.Matcher m = java.util.regex.Pattern.compile("[ \\n]+|[a-z]+|[0-9]+|[^ \\na-z0-9]").matcher(text);
        while (m.find()) {
            String t = m.group();
            if (t.charAt(0) != ' ' && t.charAt(0) != '\n') {
                list.add(new Token(t, m.start()));
            }
        }
        list.add(new Token("", text.length()));
        return list;
    }

    private Token peek() {
        return tokens.get(at);
    }

    private boolean sees(String sign) {
        return peek().text.equals(sign);
    }

    private Fault at(int kind) {
        return new Fault(kind, peek().place);
    }

    private void need(String sign) {
        if (!sees(sign)) {
            throw at(1);
        }
        at++;
    }

    private int number(int least, int most) {
        if (!peek().isNumber()) {
            throw at(1);
        }
        String t = peek().text;
        if (t.length() > 4 || Integer.parseInt(t) < least || Integer.parseInt(t) > most) {
            throw at(2);
        }
        at++;
        return Integer.parseInt(t);
    }

    private int signed(int most) {
        if (sees("-")) {
            at++;
            return -number(0, most);
        }
        return number(0, most);
    }

    private void read(String text) {
        tokens = split(text);
        at = 0;
        Set<String> told = new HashSet<>();
        List<Integer> leans = new ArrayList<>();
        Set<String> single = Set.of("city", "elder", "younger", "harvests", "term", "stays", "likes");
        while (!sees("")) {
            String word = peek().text;
            if (single.contains(word) && !told.add(word)) {
                throw at(5);
            }
            if (word.equals("deed") && deeds.size() == 7 || word.equals("friend") && men.size() == 6
                    || word.equals("champion") && champions.size() == 7 || word.equals("gate") && gates.size() == 7) {
                throw at(2);
            }
            if (!single.contains(word) && !Set.of("deed", "friend", "champion", "gate").contains(word)) {
                throw at(1);
            }
            at++;
            line(word, leans);
            need(";");
        }
        now.leans = leans.stream().mapToInt(i -> i).toArray();
    }

    private void line(String word, List<Integer> leans) {
        switch (word) {
            case "city" -> {
                now.store = number(0, 999);
                now.walls = number(0, 99);
                now.debt = number(0, 999);
            }
            case "deed" -> deeds.add(new int[] {number(0, 99), signed(20), signed(99), signed(20)});
            case "elder" -> now.ways[0] = way();
            case "younger" -> now.ways[1] = way();
            case "harvests" -> {
                do {
                    if (harvests.size() == 10 && peek().isNumber()) {
                        throw at(2);
                    }
                    harvests.add(number(0, 99));
                } while (!sees(";"));
            }
            case "term" -> now.term = number(1, 5);
            case "friend" -> {
                leans.add(signed(9));
                men.add(number(0, 9));
            }
            case "champion" -> champions.add(new int[] {number(0, 20), number(0, 3)});
            case "gate" -> gates.add(new int[] {number(0, 20), number(0, 3)});
            case "stays" -> {
                values = STAYS;
                stays = expr(0);
            }
            default -> {
                values = LIKES;
                likes = expr(0);
            }
        }
    }

    private int[] way() {
        List<Integer> list = new ArrayList<>();
        do {
            if (!peek().isNumber()) {
                throw at(1);
            }
            if (list.size() == 6 || peek().text.length() > 4) {
                throw at(2);
            }
            if (Integer.parseInt(peek().text) >= deeds.size()) {
                throw at(3);
            }
            list.add(Integer.parseInt(peek().text));
            at++;
        } while (!sees(";"));
        return list.stream().mapToInt(i -> i).toArray();
    }

    private Expr expr(int within) {
        if (within == 6 && (peek().isNumber() || peek().isWord() || sees("("))) {
            throw at(2);
        }
        Expr left = and(within);
        while (sees("or")) {
            at++;
            Expr a = left;
            Expr b = and(within);
            left = env -> (a.in(env) != 0 | b.in(env) != 0) ? 1 : 0;
        }
        return left;
    }

    private Expr and(int within) {
        Expr left = not(within, 0);
        while (sees("and")) {
            at++;
            Expr a = left;
            Expr b = not(within, 0);
            left = env -> (a.in(env) != 0 & b.in(env) != 0) ? 1 : 0;
        }
        return left;
    }

    private Expr not(int within, int nots) {
        if (sees("not")) {
            if (nots == 6) {
                throw at(2);
            }
            at++;
            Expr a = not(within, nots + 1);
            return env -> a.in(env) == 0 ? 1 : 0;
        }
        Expr a = chain(within, "+-");
        if (sees("<") || sees("=")) {
            boolean less = sees("<");
            at++;
            Expr b = chain(within, "+-");
            return env -> (less ? a.in(env) < b.in(env) : a.in(env) == b.in(env)) ? 1 : 0;
        }
        return a;
    }

    private Expr chain(int within, String signs) {
        boolean sum = signs.equals("+-");
        Expr left = sum ? chain(within, "*/") : part(within);
        while (!sees("") && signs.contains(peek().text)) {
            String sign = peek().text;
            at++;
            Expr a = left;
            Expr b = sum ? chain(within, "*/") : part(within);
            left = env -> switch (sign) {
                case "+" -> a.in(env) + b.in(env);
                case "-" -> a.in(env) - b.in(env);
                case "*" -> a.in(env) * b.in(env);
                default -> b.in(env) == 0 ? 0 : a.in(env) / b.in(env);
            };
        }
        return left;
    }

    private Expr part(int within) {
        if (peek().isNumber()) {
            int number = number(0, 9999);
            return env -> number;
        }
        if (peek().isWord()) {
            String name = peek().text;
            if (!Arrays.asList(values).contains(name)) {
                throw at(3);
            }
            at++;
            return env -> env.applyAsInt(name);
        }
        need("(");
        Expr inner = expr(within + 1);
        need(")");
        return inner;
    }

    // ---- YEARS

    int liking(State s, int friend, int brother) {
        if (likes == null) {
            return 0;
        }
        Map<String, Integer> env = new HashMap<>();
        env.put("glory", s.glory[brother]);
        env.put("rules", s.ruler == brother ? 1 : 0);
        env.put("lean", (brother == 0 ? -1 : 1) * s.leans[friend]);
        env.put("store", s.store);
        env.put("debt", s.debt);
        return likes.in(env::get);
    }

    int follows(State s, int friend) {
        if (likes == null) {
            return s.leans[friend] > 0 ? 1 : 0;
        }
        return liking(s, friend, 1) > liking(s, friend, 0) ? 1 : 0;
    }

    int followers(State s, int brother) {
        int bits = 0;
        for (int i = 0; i < men.size(); i++) {
            bits += follows(s, i) == brother ? 1 << i : 0;
        }
        return bits;
    }

    int menOf(State s, int brother) {
        int sum = 0;
        for (int i = 0; i < men.size(); i++) {
            sum += follows(s, i) == brother ? men.get(i) : 0;
        }
        return sum;
    }

    int harvest(State s) {
        return harvests.isEmpty() ? 20 : harvests.get(s.year % harvests.size());
    }

    int wayDeed(State s, int brother) {
        int[] way = s.ways[brother];
        return way.length == 0 ? -1 : way[s.ruled[brother] % way.length];
    }

    private static int kept(int x, int most) {
        return x < 0 ? 0 : x > most ? most : x;
    }

    /** A YEAR: the DEED -1 is none; whether it was DONE. */
    boolean pass(State s, int harvest, int deed, boolean turns) {
        s.store = kept(s.store + harvest, 999);
        s.debt = kept(s.debt + s.debt / 10, 999);
        boolean done = false;
        if (deed >= 0) {
            int[] d = deeds.get(deed);
            if (d[0] <= s.store) {
                done = true;
                s.store -= d[0];
                s.walls = kept(s.walls + d[1], 99);
                s.debt = kept(s.debt + d[2], 999);
                s.glory[s.ruler] += d[3];
            } else {
                s.putOff++;
            }
        }
        s.year++;
        s.ruled[s.ruler]++;
        s.row++;
        if (turns && s.row >= s.term) {
            if (stays != null && stays.in(name -> switch (name) {
                case "store" -> s.store;
                case "walls" -> s.walls;
                case "debt" -> s.debt;
                case "glory" -> s.glory[s.ruler];
                case "year" -> s.year;
                default -> menOf(s, s.ruler);
            }) > 0) {
                s.stayed++;
            } else {
                s.ruler = 1 - s.ruler;
                s.row = 0;
            }
        }
        return done;
    }

    State after(State from, int years) {
        State s = from.copy();
        for (int i = 0; i < years; i++) {
            pass(s, harvest(s), wayDeed(s, s.ruler), true);
        }
        return s;
    }

    // ---- ACTS

    private void keep() {
        acts.addLast(now.copy());
        if (acts.size() > 40) {
            acts.removeFirst();
        }
    }

    private int refuse(int which) {
        status[which]++;
        return -1;
    }

    int years(int many) {
        if (many < 1 || many > 20 || now.year + many > 999) {
            return refuse(1);
        }
        keep();
        now = after(now, many);
        return now.year;
    }

    int change(int brother, int i, int deed) {
        if (brother < 0 || brother > 1 || deed < 0 || deed >= deeds.size()) {
            return Checks.NO_SUCH;
        }
        if (i < 0 || i >= now.ways[brother].length) {
            return refuse(1);
        }
        keep();
        int was = now.ways[brother][i];
        now.ways[brother][i] = deed;
        return was;
    }

    int term(int years) {
        if (years < 1 || years > 5) {
            return refuse(1);
        }
        keep();
        int was = now.term;
        now.term = years;
        return was;
    }

    int loan(int much) {
        if (much < 1 || much > 99) {
            return refuse(1);
        }
        keep();
        now.store = kept(now.store + much, 999);
        now.debt = kept(now.debt + much, 999);
        return now.store;
    }

    int gift(int friend, int much) {
        if (friend < 0 || friend >= men.size()) {
            return Checks.NO_SUCH;
        }
        if (much < 1 || much > 9 || much > now.store) {
            return refuse(1);
        }
        keep();
        now.store -= much;
        int lean = now.leans[friend] + (now.ruler == 0 ? -much : much);
        now.leans[friend] = lean < -9 ? -9 : lean > 9 ? 9 : lean;
        return now.leans[friend];
    }

    int undo() {
        if (acts.isEmpty()) {
            return -1;
        }
        now = acts.removeLast().copy();
        return acts.size();
    }

    int see(int years, int store) {
        if (seen.size() == 8 || years < 1 || years > 30 || store < 0 || store > 999) {
            return refuse(2);
        }
        seen.add(new int[] {years, store});
        return seen.size();
    }

    void image() {
        image = now.copy();
        imageActs = new ArrayDeque<>(acts);
        imageSeen = new ArrayList<>(seen);
    }

    boolean restore() {
        if (image == null) {
            return false;
        }
        now = image.copy();
        acts = new ArrayDeque<>(imageActs);
        seen = new ArrayList<>(imageSeen);
        return true;
    }

    // ---- what there is

    int count(int what, int taped) {
        int[] all = {now.store, now.walls, now.debt, now.year, now.ruler, now.row, now.term, now.putOff, now.stayed,
            deeds.size(), men.size(), champions.size(), gates.size(), acts.size(), seen.size(), taped,
            status[0], status[1], status[2]};
        return what < 0 || what >= all.length ? Checks.NO_SUCH : all[what];
    }

    int deed(int deed, int what) {
        if (deed < 0 || deed >= deeds.size() || what < 0 || what > 4) {
            return Checks.NO_SUCH;
        }
        return what < 4 ? deeds.get(deed)[what] : deeds.get(deed)[0] <= now.store ? 1 : 0;
    }

    int brother(int brother, int what) {
        if (brother < 0 || brother > 1 || what < 0 || what > 5) {
            return Checks.NO_SUCH;
        }
        int[] all = {now.glory[brother], now.ruled[brother], now.ways[brother].length, followers(now, brother),
            menOf(now, brother), wayDeed(now, brother)};
        return all[what];
    }

    int way(int brother, int i) {
        if (brother < 0 || brother > 1 || i < 0 || i >= now.ways[brother].length) {
            return Checks.NO_SUCH;
        }
        return now.ways[brother][i];
    }

    int friend(int friend, int what) {
        if (friend < 0 || friend >= men.size() || what < 0 || what > 4) {
            return Checks.NO_SUCH;
        }
        int[] all = {now.leans[friend], men.get(friend), follows(now, friend), liking(now, friend, 0),
            liking(now, friend, 1)};
        return all[what];
    }

    // ---- questions

    int then(int years, int what) {
        if (what < 0 || what > 6) {
            return Checks.NO_SUCH;
        }
        if (years < 0 || years > 60) {
            return Checks.ILLEGAL;
        }
        State s = after(now, years);
        return new int[] {s.store, s.walls, s.debt, s.glory[0], s.glory[1], s.ruler, s.putOff}[what];
    }

    int stays(int what) {
        if (what < 0 || what > 1) {
            return Checks.NO_SUCH;
        }
        for (int i = 1; i <= 60; i++) {
            State s = after(now, i);
            if (s.stayed != now.stayed) {
                return what == 0 ? i : s.ruler;
            }
        }
        return -1;
    }

    private State byTerm(int term) {
        State s = now.copy();
        s.term = term;
        return after(s, 30);
    }

    int fair() {
        for (int term = 1; term <= 5; term++) {
            if (byTerm(term).stayed == now.stayed) {
                return term;
            }
        }
        return -1;
    }

    int least() {
        int best = 1;
        for (int term = 2; term <= 5; term++) {
            if (byTerm(term).putOff < byTerm(best).putOff) {
                best = term;
            }
        }
        return best;
    }

    int cost(int years) {
        if (years < 1 || years > 60) {
            return Checks.ILLEGAL;
        }
        State s = now.copy();
        for (int i = 0; i < years; i++) {
            pass(s, harvest(s), wayDeed(s, now.ruler), false);
        }
        return s.net() - after(now, years).net();
    }

    /** GLORY of him less the other one's, when all YEARS are gone, by the best choices of both. */
    private int outcome(State s, int left, int whose, int[] opening) {
        if (left == 0) {
            return s.glory[whose] - s.glory[1 - whose];
        }
        Integer best = null;
        for (int i = 0; i <= deeds.size(); i++) {
            int deed = i == deeds.size() ? -1 : i;
            State next = s.copy();
            boolean done = pass(next, harvest(next), deed, true);
            if (deed >= 0 && !done) {
                continue;
            }
            int worth = outcome(next, left - 1, whose, null);
            if (best == null || (s.ruler == whose ? worth > best : worth < best)) {
                best = worth;
                if (opening != null) {
                    opening[0] = deed;
                }
            }
        }
        return best;
    }

    int plan(int years, int what) {
        if (what < 0 || what > 1) {
            return Checks.NO_SUCH;
        }
        if (years < 1 || years > 4) {
            return Checks.ILLEGAL;
        }
        int[] opening = new int[1];
        int gain = outcome(now, years, now.ruler, opening) - (now.glory[now.ruler] - now.glory[1 - now.ruler]);
        return what == 0 ? gain : opening[0];
    }

    boolean winsAt(int champion, int[] gate) {
        int[] c = champions.get(champion);
        return c[0] + (c[1] == gate[1] ? 5 : 0) > gate[0] + now.walls / 10;
    }

    int wins(int champion, int gate) {
        if (champion < 0 || champion >= champions.size() || gate < 0 || gate >= gates.size()) {
            return Checks.NO_SUCH;
        }
        return winsAt(champion, gates.get(gate)) ? 1 : 0;
    }

    /** All rows are tried in their order: of those with most the first is kept. */
    private int tryRows(int champion, int[] row, int won, int[] bestRow, int best) {
        if (won + champions.size() - champion <= best) {
            return best;
        }
        if (champion == champions.size()) {
            System.arraycopy(row, 0, bestRow, 0, row.length);
            return won;
        }
        for (int gate = 0; gate < gates.size(); gate++) {
            int g = gate;
            if (Arrays.stream(row, 0, champion).noneMatch(x -> x == g) && winsAt(champion, gates.get(gate))) {
                row[champion] = gate;
                best = tryRows(champion + 1, row, won + 1, bestRow, best);
            }
        }
        row[champion] = -1;
        return tryRows(champion + 1, row, won, bestRow, best);
    }

    int assault(int champion) {
        if (champion < -1 || champion >= champions.size()) {
            return Checks.NO_SUCH;
        }
        int[] best = new int[champions.size()];
        int many = tryRows(0, new int[champions.size()], 0, best, -1);
        return champion == -1 ? many : best[champion];
    }

    int bought(int what) {
        if (what < 0 || what > 1) {
            return Checks.NO_SUCH;
        }
        int best = -1;
        for (int set = 0; set < 1 << 14; set++) {
            if ((best == -1 || Integer.bitCount(set) < Integer.bitCount(best)) && nobodyElse(set)) {
                best = set;
            }
        }
        return what == 0 ? Integer.bitCount(best) : best;
    }

    private boolean nobodyElse(int set) {
        for (int c = 0; c < champions.size(); c++) {
            for (int g = 0; g < gates.size(); g++) {
                if ((set >> c & 1) == 0 && (set >> 7 + g & 1) == 0 && winsAt(c, gates.get(g))) {
                    return false;
                }
            }
        }
        return true;
    }

    int guarded(int gate) {
        if (gate < 0 || gate >= gates.size()) {
            return Checks.NO_SUCH;
        }
        for (int strength = 0; strength < 100; strength++) {
            boolean wins = false;
            for (int c = 0; c < champions.size(); c++) {
                wins |= winsAt(c, new int[] {strength, gates.get(gate)[1]});
            }
            if (!wins) {
                return strength;
            }
        }
        return 100;
    }

    int odds(int brother, int tenths, int atLeast) {
        if (brother < 0 || brother > 1) {
            return Checks.NO_SUCH;
        }
        if (tenths < 1 || tenths > 9 || atLeast < 0 || atLeast > 54) {
            return Checks.ILLEGAL;
        }
        int[] ways = new int[55];
        ways[0] = 1;
        for (int i = 0; i < men.size(); i++) {
            if (follows(now, i) == brother) {
                int[] next = new int[55];
                for (int m = 0; m < 55; m++) {
                    next[m] += ways[m] * (10 - tenths);
                    if (m + men.get(i) < 55) {
                        next[m + men.get(i)] += ways[m] * tenths;
                    }
                }
                ways = next;
            }
        }
        return Arrays.stream(ways, atLeast, 55).sum();
    }

    int moved(int brother, int glory) {
        if (brother < 0 || brother > 1) {
            return Checks.NO_SUCH;
        }
        if (glory < 1 || glory > 99) {
            return Checks.ILLEGAL;
        }
        State s = now.copy();
        s.glory[brother] += glory;
        int bits = 0;
        for (int i = 0; i < men.size(); i++) {
            bits += follows(now, i) != brother && follows(s, i) == brother ? 1 << i : 0;
        }
        return bits;
    }

    int parties(int what) {
        if (what < 0 || what > 1) {
            return Checks.NO_SUCH;
        }
        List<Integer> rest = new ArrayList<>();
        for (int way = 0; way < 1 << men.size(); way++) {
            boolean all = true;
            for (int i = 0; i < men.size(); i++) {
                int sum = (way >> i & 1) == 1 ? now.leans[i] : -now.leans[i];
                for (int j = 0; j < men.size(); j++) {
                    sum += j == i ? 0 : (way >> i & 1) == (way >> j & 1) ? 2 : -2;
                }
                all &= sum >= 0;
            }
            if (all) {
                rest.add(way);
            }
        }
        return what == 0 ? rest.size() : rest.isEmpty() ? -1 : rest.get(0);
    }

    /** The STORES of 30 YEARS, the DEED in one of them (0: none) being another. */
    private int[] stores(int year, int deed) {
        int[] row = new int[31];
        State s = now.copy();
        for (int i = 1; i <= 30; i++) {
            pass(s, harvest(s), i == year ? deed : wayDeed(s, s.ruler), true);
            row[i] = s.store;
        }
        return row;
    }

    private boolean allSo(int[] stores) {
        return seen.stream().allMatch(x -> stores[x[0]] == x[1]);
    }

    int another(int what) {
        if (what < 0 || what > 2) {
            return Checks.NO_SUCH;
        }
        if (what == 2) {
            return allSo(stores(0, 0)) ? 1 : 0;
        }
        List<Integer> all = new ArrayList<>();
        for (int year = 1; year <= 12; year++) {
            for (int deed = 0; deed < deeds.size(); deed++) {
                if (allSo(stores(year, deed))) {
                    all.add(10 * year + deed);
                }
            }
        }
        return what == 0 ? all.size() : all.isEmpty() ? -1 : all.get(0);
    }

    int next(int what) {
        if (what < 0 || what > 1) {
            return Checks.NO_SUCH;
        }
        List<Set<Integer>> unlike = new ArrayList<>();
        for (int i = 0; i <= 30; i++) {
            unlike.add(new HashSet<>());
        }
        for (int year = 1; year <= 12; year++) {
            for (int deed = 0; deed < deeds.size(); deed++) {
                int[] stores = stores(year, deed);
                for (int i = 1; i <= 30 && allSo(stores); i++) {
                    unlike.get(i).add(stores[i]);
                }
            }
        }
        int best = 1;
        for (int i = 2; i <= 30; i++) {
            best = unlike.get(i).size() > unlike.get(best).size() ? i : best;
        }
        int many = unlike.get(best).size();
        return what == 1 ? many : many == 0 ? -1 : best;
    }

    private int[] gains(int a, int b, int[] two) {
        State s = now.copy();
        int[] gains = new int[2];
        gains[0] = pass(s, harvest(s), two[a], true) ? deeds.get(two[a])[3] : 0;
        gains[1] = pass(s, harvest(s), two[b], true) ? deeds.get(two[b])[3] : 0;
        if (a == b) {
            gains[0] -= 3;
            gains[1] -= 3;
        }
        return gains;
    }

    int game(int deed, int other, int what) {
        if (deed < 0 || deed >= deeds.size() || other < 0 || other >= deeds.size() || what < 0 || what > 1) {
            return Checks.NO_SUCH;
        }
        if (deed == other) {
            return Checks.ILLEGAL;
        }
        int[] two = {deed, other};
        List<Integer> rest = new ArrayList<>();
        for (int a = 0; a < 2; a++) {
            for (int b = 0; b < 2; b++) {
                if (gains(a, b, two)[0] >= gains(1 - a, b, two)[0] && gains(a, b, two)[1] >= gains(a, 1 - b, two)[1]) {
                    rest.add(10 * a + b);
                }
            }
        }
        return what == 0 ? rest.size() : rest.isEmpty() ? -1 : rest.get(0);
    }

    int cities(int seed, int n, int what) {
        if (what < 0 || what > 2) {
            return Checks.NO_SUCH;
        }
        if (n < 0 || n > 60) {
            return Checks.ILLEGAL;
        }
        State s = now.copy();
        long grain = seed & 0xffffffffL;
        for (int i = 0; i < n; i++) {
            grain = grain * 1103515245L + 12345L & 0xffffffffL;
            int harvest = (int) (grain / 65536 % 32768 % 60);
            grain = grain * 1103515245L + 12345L & 0xffffffffL;
            if (grain / 65536 % 32768 % 9 == 0) {
                s.ruler = 1 - s.ruler;
                s.row = 0;
            }
            pass(s, harvest, wayDeed(s, s.ruler), true);
        }
        return new int[] {s.store, s.debt, s.glory[0] - s.glory[1]}[what];
    }

    int ruin() {
        for (int i = 0; i <= 60; i++) {
            if (after(now, i).net() < 0) {
                return i;
            }
        }
        return -1;
    }

    int highest(int what) {
        if (what < 0 || what > 1) {
            return Checks.NO_SUCH;
        }
        int best = 0;
        for (int i = 1; i <= 60; i++) {
            best = after(now, i).walls > after(now, best).walls ? i : best;
        }
        return what == 0 ? best : after(now, best).walls;
    }

    int better(int what) {
        if (what < 0 || what > 1) {
            return Checks.NO_SUCH;
        }
        int[] sums = new int[2];
        for (int i = 0; i < 60; i++) {
            sums[after(now, i).ruler] += after(now, i + 1).net() - after(now, i).net();
        }
        int who = sums[1] > sums[0] ? 1 : 0;
        return what == 0 ? who : sums[who] - sums[1 - who];
    }

    int swap(int brother) {
        if (brother < 0 || brother > 1) {
            return Checks.NO_SUCH;
        }
        int best = -1;
        int most = after(now, 30).glory[brother];
        for (int i = 0; i < now.ways[brother].length; i++) {
            for (int j = i + 1; j < now.ways[brother].length; j++) {
                State s = now.copy();
                s.ways[brother][i] = now.ways[brother][j];
                s.ways[brother][j] = now.ways[brother][i];
                int glory = after(s, 30).glory[brother];
                if (glory > most) {
                    most = glory;
                    best = 10 * i + j;
                }
            }
        }
        return best;
    }
}
