import java.util.NoSuchElementException;

/**
 * Two brothers who rule a city a year each, by turns. The words in capitals are those of the
 * document, ../shared/DOC.md. No call makes objects: all rows are made with the object.
 */
public final class TurnBrothers {
    public static final int NONE = -1;

    private static final int MOST_BYTES = 700;
    private static final int BYTES_A_FEED = 20;
    private static final int MOST_DEEDS = 7;
    private static final int MOST_WAY = 6;
    private static final int MOST_HARVESTS = 10;
    private static final int MOST_FRIENDS = 6;
    private static final int MOST_FIGHTERS = 7;
    private static final int MOST_ACTS = 40;
    private static final int MOST_SEEN = 8;
    private static final int MOST_STORE = 999;
    private static final int MOST_WALLS = 99;
    private static final int MOST_LEAN = 9;
    private static final int MOST_TERM = 5;
    private static final int LAST_YEAR = 999;
    private static final int LONG_SPAN = 60;
    private static final int SPAN = 30;
    private static final int OTHER_DEED_SPAN = 12;
    private static final int PLAN_SPAN = 4;

    private final byte[] tape = new byte[MOST_BYTES];
    private int taped = 0;
    private int faultPlace = NONE;
    private final int[] refused = new int[3];
    private final Parser parser = new Parser(tape);
    private final Reign reign = new Reign();
    private final Ahead ahead = new Ahead(reign);
    private final City city = new City();
    private final City work = new City();
    private final Acts acts = new Acts();
    private final Seen seen = new Seen();
    private boolean imageKept = false;
    private final int[] imageCity = new int[City.SIZE];
    private final Acts imageActs = new Acts();
    private final Seen imageSeen = new Seen();
    private final int[] reach = new int[1 << MOST_FIGHTERS];

    public TurnBrothers() {
    }

    // ---- the tape and the LAND

    public int feed(int a, int b, int c, int d, int e) {
        if (taped + BYTES_A_FEED > MOST_BYTES) {
            return NONE;
        }
        tapeNumber(a);
        tapeNumber(b);
        tapeNumber(c);
        tapeNumber(d);
        tapeNumber(e);
        return taped;
    }

    private void tapeNumber(int number) {
        for (int shift = 24; shift >= 0; shift -= 8) {
            if (taped < tape.length) {
                tape[taped] = (byte) (number >> shift);
                taped++;
            }
        }
    }

    public int land(int n) throws IllegalArgumentException {
        if (n < 0 || n > taped) {
            throw new IllegalArgumentException("the tape has not so many bytes");
        }
        taped = 0;
        int fault = parser.parse(n);
        if (fault != 0) {
            faultPlace = parser.place;
            refused[0]++;
            return fault;
        }
        faultPlace = NONE;
        Land told = parser.land;
        parser.land = reign.land;
        reign.land = told;
        city.become(parser.start);
        acts.many = 0;
        seen.many = 0;
        imageKept = false;
        return 0;
    }

    public int fault() {
        return faultPlace;
    }

    // ---- what there is

    public int count(int what) throws NoSuchElementException {
        switch (what) {
            case 0: return city.store;
            case 1: return city.walls;
            case 2: return city.debt;
            case 3: return city.year;
            case 4: return city.ruler;
            case 5: return city.row;
            case 6: return city.term;
            case 7: return city.putOff;
            case 8: return city.stayed;
            case 9: return reign.land.deeds;
            case 10: return reign.land.friends;
            case 11: return reign.land.champions.many;
            case 12: return reign.land.gates.many;
            case 13: return acts.many;
            case 14: return seen.many;
            case 15: return taped;
            case 16: return refused[0];
            case 17: return refused[1];
            case 18: return refused[2];
            default: throw new NoSuchElementException("what");
        }
    }

    public int deed(int deed, int what) throws NoSuchElementException {
        needDeed(deed);
        Land land = reign.land;
        switch (what) {
            case 0: return land.cost[deed];
            case 1: return land.builds[deed];
            case 2: return land.owes[deed];
            case 3: return land.glory[deed];
            case 4: return land.cost[deed] <= city.store ? 1 : 0;
            default: throw new NoSuchElementException("what");
        }
    }

    public int brother(int brother, int what) throws NoSuchElementException {
        needBrother(brother);
        switch (what) {
            case 0: return city.glory[brother];
            case 1: return city.ruled[brother];
            case 2: return reign.land.wayLength[brother];
            case 3: return reign.followers(city, brother);
            case 4: return reign.menOf(reign.followers(city, brother));
            case 5: return reign.wayDeed(city, brother);
            default: throw new NoSuchElementException("what");
        }
    }

    public int way(int brother, int i) throws NoSuchElementException {
        needBrother(brother);
        if (!hasPlace(brother, i)) {
            throw new NoSuchElementException("no such place in the way");
        }
        return city.way[brother * MOST_WAY + i];
    }

    public int friend(int friend, int what) throws NoSuchElementException {
        needFriend(friend);
        switch (what) {
            case 0: return city.lean[friend];
            case 1: return reign.land.men[friend];
            case 2: return (reign.followers(city, 1) >> friend) & 1;
            case 3: return reign.liking(city, friend, 0);
            case 4: return reign.liking(city, friend, 1);
            default: throw new NoSuchElementException("what");
        }
    }

    private void needDeed(int deed) {
        if (deed < 0 || deed >= reign.land.deeds) {
            throw new NoSuchElementException("no such deed");
        }
    }

    private void needBrother(int brother) {
        if (brother != 0 && brother != 1) {
            throw new NoSuchElementException("no such brother");
        }
    }

    private void needFriend(int friend) {
        if (friend < 0 || friend >= reign.land.friends) {
            throw new NoSuchElementException("no such friend");
        }
    }

    private void needWhat(int what, int most) {
        if (what < 0 || what > most) {
            throw new NoSuchElementException("what");
        }
    }

    private void needWithin(int number, int least, int most) {
        if (number < least || number > most) {
            throw new IllegalArgumentException("not within its bounds");
        }
    }

    private boolean hasPlace(int brother, int i) {
        return i >= 0 && i < reign.land.wayLength[brother];
    }

    // ---- ACTS

    public int years(int many) {
        if (many < 1 || many > 20 || city.year + many > LAST_YEAR) {
            return refuse(1);
        }
        acts.keep(city);
        reign.passMany(city, many);
        return city.year;
    }

    public int change(int brother, int i, int deed) throws NoSuchElementException {
        needBrother(brother);
        needDeed(deed);
        if (!hasPlace(brother, i)) {
            return refuse(1);
        }
        acts.keep(city);
        int place = brother * MOST_WAY + i;
        int was = city.way[place];
        city.way[place] = deed;
        return was;
    }

    public int term(int years) {
        if (years < 1 || years > MOST_TERM) {
            return refuse(1);
        }
        acts.keep(city);
        int was = city.term;
        city.term = years;
        return was;
    }

    public int loan(int much) {
        if (much < 1 || much > 99) {
            return refuse(1);
        }
        acts.keep(city);
        city.store = Math.min(MOST_STORE, city.store + much);
        city.debt = Math.min(MOST_STORE, city.debt + much);
        return city.store;
    }

    public int gift(int friend, int much) throws NoSuchElementException {
        needFriend(friend);
        if (much < 1 || much > 9 || much > city.store) {
            return refuse(1);
        }
        acts.keep(city);
        city.store -= much;
        int lean = city.lean[friend] + (city.ruler == 1 ? much : -much);
        city.lean[friend] = Math.max(-MOST_LEAN, Math.min(MOST_LEAN, lean));
        return city.lean[friend];
    }

    public int undo() {
        return acts.takeBack(city) ? acts.many : NONE;
    }

    private int refuse(int status) {
        refused[status]++;
        return NONE;
    }

    // ---- if only YEARS go by, from now on

    public int then(int years, int what) throws NoSuchElementException, IllegalArgumentException {
        needWhat(what, 6);
        needWithin(years, 0, LONG_SPAN);
        work.become(city);
        reign.passMany(work, years);
        switch (what) {
            case 0: return work.store;
            case 1: return work.walls;
            case 2: return work.debt;
            case 3: return work.glory[0];
            case 4: return work.glory[1];
            case 5: return work.ruler;
            default: return work.putOff;
        }
    }

    public int stays(int what) throws NoSuchElementException {
        needWhat(what, 1);
        work.become(city);
        for (int i = 1; i <= LONG_SPAN; i++) {
            reign.passMany(work, 1);
            if (work.stayed > city.stayed) {
                return what == 0 ? i : work.ruler;
            }
        }
        return NONE;
    }

    public int fair() {
        for (int term = 1; term <= MOST_TERM; term++) {
            passWithTerm(term);
            if (work.stayed == city.stayed) {
                return term;
            }
        }
        return NONE;
    }

    public int least() {
        int best = 1;
        int fewest = 0;
        for (int term = 1; term <= MOST_TERM; term++) {
            passWithTerm(term);
            if (term == 1 || work.putOff < fewest) {
                best = term;
                fewest = work.putOff;
            }
        }
        return best;
    }

    private void passWithTerm(int term) {
        work.become(city);
        work.term = term;
        reign.passMany(work, SPAN);
    }

    public int cost(int years) throws IllegalArgumentException {
        needWithin(years, 1, LONG_SPAN);
        work.become(city);
        reign.passMany(work, years);
        int byTurns = work.wealth();
        work.become(city);
        for (int i = 0; i < years; i++) {
            reign.passAlone(work);
        }
        return work.wealth() - byTurns;
    }

    public int plan(int years, int what) throws NoSuchElementException, IllegalArgumentException {
        needWhat(what, 1);
        needWithin(years, 1, PLAN_SPAN);
        int gain = ahead.planned(city, years);
        return what == 0 ? gain : ahead.opening;
    }

    // ---- CHAMPIONS and GATES

    public boolean wins(int champion, int gate) throws NoSuchElementException {
        needChampion(champion);
        needGate(gate);
        return edge(champion, gate) > reign.land.gates.strength[gate];
    }

    public int assault(int champion) throws NoSuchElementException {
        int free = (1 << reign.land.gates.many) - 1;
        if (champion == NONE) {
            fillReach(0);
            return reach[free];
        }
        needChampion(champion);
        int gate = NONE;
        for (int i = 0; i <= champion; i++) {
            fillReach(i + 1);
            gate = bestGate(i, free);
            if (gate != NONE) {
                free &= ~(1 << gate);
            }
        }
        return gate;
    }

    /** For each set of GATES: how many of the CHAMPIONS from the first on can WIN there at once. */
    private void fillReach(int first) {
        int gates = reign.land.gates.many;
        for (int set = 0; set < reach.length; set++) {
            reach[set] = 0;
        }
        for (int champion = reign.land.champions.many - 1; champion >= first; champion--) {
            int open = beatenBy(champion);
            // downwards: the lesser sets must still be without this CHAMPION
            for (int set = (1 << gates) - 1; set > 0; set--) {
                for (int gate = 0; gate < gates; gate++) {
                    int bit = 1 << gate;
                    if ((set & open & bit) != 0 && reach[set ^ bit] + 1 > reach[set]) {
                        reach[set] = reach[set ^ bit] + 1;
                    }
                }
            }
        }
    }

    /** The GATE that a CHAMPION takes, when reach tells of those behind him. */
    private int bestGate(int champion, int free) {
        int open = beatenBy(champion) & free;
        int best = NONE;
        int most = 0;
        for (int gate = 0; gate < MOST_FIGHTERS; gate++) {
            int bit = 1 << gate;
            if ((open & bit) != 0 && reach[free ^ bit] + 1 > most) {
                most = reach[free ^ bit] + 1;
                best = gate;
            }
        }
        return reach[free] > most ? NONE : best;
    }

    public int bought(int what) throws NoSuchElementException {
        needWhat(what, 1);
        int fewest = 0;
        int least = 0;
        for (int guarded = 0; guarded < 1 << reign.land.gates.many; guarded++) {
            int bribed = 0;
            for (int champion = 0; champion < reign.land.champions.many; champion++) {
                if ((beatenBy(champion) & ~guarded) != 0) {
                    bribed |= 1 << champion;
                }
            }
            int many = Integer.bitCount(guarded) + Integer.bitCount(bribed);
            if (guarded == 0 || many < fewest) {
                fewest = many;
                least = guarded << MOST_FIGHTERS | bribed;
            }
        }
        return what == 0 ? fewest : least;
    }

    public int guarded(int gate) throws NoSuchElementException {
        needGate(gate);
        int strength = 0;
        for (int champion = 0; champion < reign.land.champions.many; champion++) {
            strength = Math.max(strength, edge(champion, gate));
        }
        return strength;
    }

    /** The STRENGTH of a GATE from which on the CHAMPION doesn't WIN there. */
    private int edge(int champion, int gate) {
        Fighters champions = reign.land.champions;
        boolean alike = champions.kind[champion] == reign.land.gates.kind[gate];
        return champions.strength[champion] + (alike ? 5 : 0) - city.walls / 10;
    }

    private int beatenBy(int champion) {
        int bits = 0;
        for (int gate = 0; gate < reign.land.gates.many; gate++) {
            if (edge(champion, gate) > reign.land.gates.strength[gate]) {
                bits |= 1 << gate;
            }
        }
        return bits;
    }

    private void needChampion(int champion) {
        if (champion < 0 || champion >= reign.land.champions.many) {
            throw new NoSuchElementException("no such champion");
        }
    }

    private void needGate(int gate) {
        if (gate < 0 || gate >= reign.land.gates.many) {
            throw new NoSuchElementException("no such gate");
        }
    }

    // ---- FRIENDS

    public int odds(int brother, int tenths, int men)
            throws NoSuchElementException, IllegalArgumentException {
        needBrother(brother);
        needWithin(tenths, 1, 9);
        needWithin(men, 0, MOST_FRIENDS * 9);
        int followers = reign.followers(city, brother);
        int sum = 0;
        for (int coming = 0; coming < 1 << MOST_FRIENDS; coming++) {
            if ((coming & ~followers) == 0 && reign.menOf(coming) >= men) {
                sum += chances(followers, coming, tenths);
            }
        }
        return sum;
    }

    private int chances(int followers, int coming, int tenths) {
        int product = 1;
        for (int i = 0; i < MOST_FRIENDS; i++) {
            if ((followers >> i & 1) != 0) {
                product *= (coming >> i & 1) != 0 ? tenths : 10 - tenths;
            }
        }
        return product;
    }

    public int moved(int brother, int glory) throws NoSuchElementException, IllegalArgumentException {
        needBrother(brother);
        needWithin(glory, 1, 99);
        work.become(city);
        work.glory[brother] += glory;
        return reign.followers(work, brother) & ~reign.followers(city, brother);
    }

    public int parties(int what) throws NoSuchElementException {
        needWhat(what, 1);
        int many = 0;
        int first = NONE;
        for (int younger = 0; younger < 1 << reign.land.friends; younger++) {
            if (rests(younger)) {
                many++;
                if (first == NONE) {
                    first = younger;
                }
            }
        }
        return what == 0 ? many : first;
    }

    private boolean rests(int younger) {
        int friends = reign.land.friends;
        int manyYounger = Integer.bitCount(younger);
        for (int i = 0; i < friends; i++) {
            boolean isYounger = (younger >> i & 1) != 0;
            int side = isYounger ? manyYounger : friends - manyYounger;
            int lean = isYounger ? city.lean[i] : -city.lean[i];
            if (lean + 2 * (side - 1) - 2 * (friends - side) < 0) {
                return false;
            }
        }
        return true;
    }

    // ---- what is SEEN

    public int see(int years, int store) {
        if (years < 1 || years > SPAN || store < 0 || store > MOST_STORE || !seen.add(years, store)) {
            return refuse(2);
        }
        return seen.many;
    }

    public void forget() {
        seen.many = 0;
    }

    public int another(int what) throws NoSuchElementException {
        needWhat(what, 2);
        int span = seen.last();
        if (what == 2) {
            return ahead.fits(city, seen, 0, NONE, span) ? 1 : 0;
        }
        int many = 0;
        for (int year = 1; year <= OTHER_DEED_SPAN; year++) {
            for (int deed = 0; deed < reign.land.deeds; deed++) {
                if (ahead.fits(city, seen, year, deed, span)) {
                    if (what == 1) {
                        return 10 * year + deed;
                    }
                    many++;
                }
            }
        }
        return what == 0 ? many : NONE;
    }

    public int next(int what) throws NoSuchElementException {
        needWhat(what, 1);
        ahead.survey(city, seen);
        int best = NONE;
        int most = 0;
        for (int year = 1; year <= SPAN; year++) {
            if (ahead.unlike[year - 1] > most) {
                most = ahead.unlike[year - 1];
                best = year;
            }
        }
        return what == 0 ? best : most;
    }

    // ---- games, seeds and comparisons

    public int game(int deed, int other, int what)
            throws NoSuchElementException, IllegalArgumentException {
        needDeed(deed);
        needDeed(other);
        needWhat(what, 1);
        if (deed == other) {
            throw new IllegalArgumentException("both deeds are one");
        }
        ahead.playOut(city, deed, other);
        int many = 0;
        int first = NONE;
        for (int couple = 0; couple < 4; couple++) {
            if (ahead.isAtRest(couple)) {
                many++;
                if (first == NONE) {
                    first = 10 * (couple >> 1) + (couple & 1);
                }
            }
        }
        return what == 0 ? many : first;
    }

    public int cities(int seed, int n, int what)
            throws NoSuchElementException, IllegalArgumentException {
        needWhat(what, 2);
        needWithin(n, 0, LONG_SPAN);
        work.become(city);
        int now = seed;
        for (int i = 0; i < n; i++) {
            now = followingSeed(now);
            int harvest = (now >>> 16 & 32767) % 60;
            now = followingSeed(now);
            if ((now >>> 16 & 32767) % 9 == 0) {
                work.handOver();
            }
            reign.live(work, harvest, reign.wayDeed(work, work.ruler));
        }
        switch (what) {
            case 0: return work.store;
            case 1: return work.debt;
            default: return work.glory[0] - work.glory[1];
        }
    }

    private static int followingSeed(int seed) {
        return seed * 1103515245 + 12345;
    }

    public int ruin() {
        work.become(city);
        for (int i = 0; i <= LONG_SPAN; i++) {
            if (work.debt > work.store) {
                return i;
            }
            reign.passMany(work, 1);
        }
        return NONE;
    }

    public int highest(int what) throws NoSuchElementException {
        needWhat(what, 1);
        work.become(city);
        int when = 0;
        int most = work.walls;
        for (int i = 1; i <= LONG_SPAN; i++) {
            reign.passMany(work, 1);
            if (work.walls > most) {
                when = i;
                most = work.walls;
            }
        }
        return what == 0 ? when : most;
    }

    public int better(int what) throws NoSuchElementException {
        needWhat(what, 1);
        work.become(city);
        int lead = 0;
        for (int i = 0; i < LONG_SPAN; i++) {
            int ruler = work.ruler;
            int before = work.wealth();
            reign.passMany(work, 1);
            int more = work.wealth() - before;
            lead += ruler == 0 ? more : -more;
        }
        if (what == 0) {
            return lead < 0 ? 1 : 0;
        }
        return Math.abs(lead);
    }

    public int swap(int brother) throws NoSuchElementException {
        needBrother(brother);
        int places = reign.land.wayLength[brother];
        int most = gloryWithSwap(brother, 0, 0);
        int best = NONE;
        for (int i = 0; i < places; i++) {
            for (int j = i + 1; j < places; j++) {
                int glory = gloryWithSwap(brother, i, j);
                if (glory > most) {
                    most = glory;
                    best = 10 * i + j;
                }
            }
        }
        return best;
    }

    private int gloryWithSwap(int brother, int i, int j) {
        work.become(city);
        int base = brother * MOST_WAY;
        work.way[base + i] = city.way[base + j];
        work.way[base + j] = city.way[base + i];
        reign.passMany(work, SPAN);
        return work.glory[brother];
    }

    // ---- the image

    public void image() {
        city.write(imageCity, 0);
        imageActs.become(acts);
        imageSeen.become(seen);
        imageKept = true;
    }

    public boolean restore() {
        if (!imageKept) {
            return false;
        }
        city.read(imageCity, 0);
        acts.become(imageActs);
        seen.become(imageSeen);
        return true;
    }

    /** What ACTS and YEARS change. */
    private static final class City {
        static final int SIZE = 9 + 2 + 2 + 2 * MOST_WAY + MOST_FRIENDS;

        int store;
        int walls;
        int debt;
        int year;
        int ruler;
        int row;
        int putOff;
        int stayed;
        int term;
        final int[] ruled = new int[2];
        final int[] glory = new int[2];
        final int[] way = new int[2 * MOST_WAY];
        final int[] lean = new int[MOST_FRIENDS];

        City() {
            found();
        }

        void found() {
            store = 50;
            walls = 20;
            debt = 0;
            year = 0;
            ruler = 0;
            row = 0;
            putOff = 0;
            stayed = 0;
            term = 1;
            clearRow(ruled);
            clearRow(glory);
            clearRow(way);
            clearRow(lean);
        }

        private static void clearRow(int[] row) {
            for (int i = 0; i < row.length; i++) {
                row[i] = 0;
            }
        }

        void become(City other) {
            store = other.store;
            walls = other.walls;
            debt = other.debt;
            year = other.year;
            ruler = other.ruler;
            row = other.row;
            putOff = other.putOff;
            stayed = other.stayed;
            term = other.term;
            System.arraycopy(other.ruled, 0, ruled, 0, 2);
            System.arraycopy(other.glory, 0, glory, 0, 2);
            System.arraycopy(other.way, 0, way, 0, 2 * MOST_WAY);
            System.arraycopy(other.lean, 0, lean, 0, MOST_FRIENDS);
        }

        void write(int[] to, int at) {
            if (at < 0 || at + SIZE > to.length) {
                return;
            }
            to[at] = store;
            to[at + 1] = walls;
            to[at + 2] = debt;
            to[at + 3] = year;
            to[at + 4] = ruler;
            to[at + 5] = row;
            to[at + 6] = putOff;
            to[at + 7] = stayed;
            to[at + 8] = term;
            System.arraycopy(ruled, 0, to, at + 9, 2);
            System.arraycopy(glory, 0, to, at + 11, 2);
            System.arraycopy(way, 0, to, at + 13, 2 * MOST_WAY);
            System.arraycopy(lean, 0, to, at + 13 + 2 * MOST_WAY, MOST_FRIENDS);
        }

        void read(int[] from, int at) {
            if (at < 0 || at + SIZE > from.length) {
                return;
            }
            store = from[at];
            walls = from[at + 1];
            debt = from[at + 2];
            year = from[at + 3];
            ruler = from[at + 4];
            row = from[at + 5];
            putOff = from[at + 6];
            stayed = from[at + 7];
            term = from[at + 8];
            System.arraycopy(from, at + 9, ruled, 0, 2);
            System.arraycopy(from, at + 11, glory, 0, 2);
            System.arraycopy(from, at + 13, way, 0, 2 * MOST_WAY);
            System.arraycopy(from, at + 13 + 2 * MOST_WAY, lean, 0, MOST_FRIENDS);
        }

        int wealth() {
            return store - debt;
        }

        void handOver() {
            ruler = 1 - ruler;
            row = 0;
        }
    }

    /** What a LAND tells and nothing changes; what changes begins in a City. */
    private static final class Land {
        int deeds = 0;
        final int[] cost = new int[MOST_DEEDS];
        final int[] builds = new int[MOST_DEEDS];
        final int[] owes = new int[MOST_DEEDS];
        final int[] glory = new int[MOST_DEEDS];
        final int[] wayLength = new int[2];
        int harvests = 0;
        final int[] harvest = new int[MOST_HARVESTS];
        int friends = 0;
        final int[] men = new int[MOST_FRIENDS];
        final Fighters champions = new Fighters();
        final Fighters gates = new Fighters();
        final Rule stays;
        final Rule likes;

        Land() {
            // one row for both: together they are no longer than the TEXT
            int[] code = new int[MOST_BYTES];
            stays = new Rule(code);
            likes = new Rule(code);
        }

        void clear() {
            deeds = 0;
            wayLength[0] = 0;
            wayLength[1] = 0;
            harvests = 0;
            friends = 0;
            champions.many = 0;
            gates.many = 0;
            stays.begin(0);
            likes.begin(0);
        }
    }

    /** CHAMPIONS, or GATES. */
    private static final class Fighters {
        int many = 0;
        final int[] strength = new int[MOST_FIGHTERS];
        final int[] kind = new int[MOST_FIGHTERS];
    }

    /** An EXPR, its operators behind what they join: numbers as they are, all else below 0. */
    private static final class Rule {
        static final int VALUES = 6;
        static final int NOT = -7;
        static final int OR = -8;
        static final int AND = -9;
        static final int LESS = -10;
        static final int SAME = -11;
        static final int PLUS = -12;
        static final int MINUS = -13;
        static final int TIMES = -14;
        static final int OVER = -15;
        // six EXPRS within one another, each with five operators that wait, need 31
        static final int STACK = 40;

        final int[] code;
        int from = 0;
        int to = 0;
        boolean asksMen = false;

        Rule(int[] code) {
            this.code = code;
        }

        void begin(int at) {
            from = at;
            to = at;
            asksMen = false;
        }

        boolean isTold() {
            return to > from;
        }

        void append(int item) {
            if (to < code.length) {
                code[to] = item;
                to++;
            }
        }

        int evaluate(int[] values, int[] stack) {
            int top = 0;
            for (int i = from; i < to; i++) {
                int item = code[i];
                if (item >= -VALUES) {
                    if (top >= stack.length) {
                        return 0;
                    }
                    stack[top] = item >= 0 ? item : values[-1 - item];
                    top++;
                } else if (item == NOT) {
                    if (top < 1) {
                        return 0;
                    }
                    stack[top - 1] = stack[top - 1] == 0 ? 1 : 0;
                } else {
                    if (top < 2) {
                        return 0;
                    }
                    top--;
                    int a = stack[top - 1];
                    int b = stack[top];
                    int joined = 0;
                    switch (item) {
                        case OR: joined = a != 0 || b != 0 ? 1 : 0; break;
                        case AND: joined = a != 0 && b != 0 ? 1 : 0; break;
                        case LESS: joined = a < b ? 1 : 0; break;
                        case SAME: joined = a == b ? 1 : 0; break;
                        case PLUS: joined = a + b; break;
                        case MINUS: joined = a - b; break;
                        case TIMES: joined = a * b; break;
                        default: joined = b == 0 ? 0 : a / b; break;
                    }
                    stack[top - 1] = joined;
                }
            }
            return top > 0 ? stack[0] : 0;
        }
    }

    /** How YEARS go by in a LAND. */
    private static final class Reign {
        Land land = new Land();
        private final int[] staysValues = new int[Rule.VALUES];
        private final int[] likesValues = new int[Rule.VALUES];
        private final int[] stack = new int[Rule.STACK];

        int harvestOf(int year) {
            if (land.harvests == 0 || year < 0) {
                return 20;
            }
            return land.harvest[year % land.harvests];
        }

        /** The DEED that a BROTHER does, when he RULES next. */
        int wayDeed(City city, int brother) {
            int length = land.wayLength[brother];
            if (length == 0) {
                return NONE;
            }
            return city.way[brother * MOST_WAY + city.ruled[brother] % length];
        }

        void passMany(City city, int years) {
            for (int i = 0; i < years; i++) {
                live(city, harvestOf(city.year), wayDeed(city, city.ruler));
            }
        }

        /** A YEAR of him who RULES on, whatever his TERM. */
        void passAlone(City city) {
            reap(city, harvestOf(city.year));
            perform(city, wayDeed(city, city.ruler));
            age(city);
        }

        /** A YEAR with a HARVEST and a DEED (NONE: none) that are told: whether it is DONE. */
        boolean live(City city, int harvest, int deed) {
            reap(city, harvest);
            boolean done = perform(city, deed);
            age(city);
            turn(city);
            return done;
        }

        void reap(City city, int harvest) {
            city.store = Math.min(MOST_STORE, city.store + harvest);
            city.debt = Math.min(MOST_STORE, city.debt + city.debt / 10);
        }

        boolean perform(City city, int deed) {
            if (deed < 0 || deed >= land.deeds) {
                return false;
            }
            if (land.cost[deed] > city.store) {
                city.putOff++;
                return false;
            }
            city.store -= land.cost[deed];
            city.walls = Math.max(0, Math.min(MOST_WALLS, city.walls + land.builds[deed]));
            city.debt = Math.max(0, Math.min(MOST_STORE, city.debt + land.owes[deed]));
            city.glory[city.ruler] += land.glory[deed];
            return true;
        }

        void age(City city) {
            city.year++;
            city.ruled[city.ruler]++;
            city.row++;
        }

        void turn(City city) {
            if (city.row < city.term) {
                return;
            }
            if (land.stays.isTold()) {
                staysValues[0] = city.store;
                staysValues[1] = city.walls;
                staysValues[2] = city.debt;
                staysValues[3] = city.glory[city.ruler];
                staysValues[4] = city.year;
                // asking all FRIENDS is dear
                staysValues[5] = land.stays.asksMen ? menOf(followers(city, city.ruler)) : 0;
                if (land.stays.evaluate(staysValues, stack) > 0) {
                    city.stayed++;
                    return;
                }
            }
            city.handOver();
        }

        /** FRIENDS who follow a BROTHER, as bits. */
        int followers(City city, int brother) {
            int bits = 0;
            for (int i = 0; i < land.friends; i++) {
                boolean younger = land.likes.isTold()
                        ? liking(city, i, 1) > liking(city, i, 0)
                        : city.lean[i] > 0;
                if (younger == (brother == 1)) {
                    bits |= 1 << i;
                }
            }
            return bits;
        }

        int liking(City city, int friend, int brother) {
            likesValues[0] = city.glory[brother];
            likesValues[1] = city.ruler == brother ? 1 : 0;
            likesValues[2] = brother == 0 ? -city.lean[friend] : city.lean[friend];
            likesValues[3] = city.store;
            likesValues[4] = city.debt;
            return land.likes.evaluate(likesValues, stack);
        }

        int menOf(int friends) {
            int sum = 0;
            for (int i = 0; i < land.friends; i++) {
                if ((friends >> i & 1) != 0) {
                    sum += land.men[i];
                }
            }
            return sum;
        }
    }

    /** The CITY as it was ahead of each ACT that is kept. */
    private static final class Acts {
        int many = 0;
        private final int[] rows = new int[MOST_ACTS * City.SIZE];

        void keep(City city) {
            if (many >= MOST_ACTS) {
                System.arraycopy(rows, City.SIZE, rows, 0, (MOST_ACTS - 1) * City.SIZE);
                many = MOST_ACTS - 1;
            }
            city.write(rows, many * City.SIZE);
            many++;
        }

        boolean takeBack(City city) {
            if (many == 0) {
                return false;
            }
            many--;
            city.read(rows, many * City.SIZE);
            return true;
        }

        void become(Acts other) {
            many = other.many;
            System.arraycopy(other.rows, 0, rows, 0, many * City.SIZE);
        }
    }

    private static final class Seen {
        int many = 0;
        private final int[] years = new int[MOST_SEEN];
        private final int[] stores = new int[MOST_SEEN];

        boolean add(int year, int store) {
            if (many >= MOST_SEEN) {
                return false;
            }
            years[many] = year;
            stores[many] = store;
            many++;
            return true;
        }

        boolean allows(int year, int store) {
            for (int i = 0; i < many; i++) {
                if (years[i] == year && stores[i] != store) {
                    return false;
                }
            }
            return true;
        }

        int last() {
            int last = 0;
            for (int i = 0; i < many; i++) {
                last = Math.max(last, years[i]);
            }
            return last;
        }

        void become(Seen other) {
            many = other.many;
            System.arraycopy(other.years, 0, years, 0, MOST_SEEN);
            System.arraycopy(other.stores, 0, stores, 0, MOST_SEEN);
        }
    }

    /** YEARS that could come, if other DEEDS were done than those of the WAYS. */
    private static final class Ahead {
        private static final int WORDS_A_YEAR = MOST_STORE / 64 + 1;

        private final Reign reign;
        private final City work = new City();
        private final City[] nodes = new City[PLAN_SPAN];
        int opening = NONE;
        private final int[] stores = new int[SPAN];
        private final long[] met = new long[SPAN * WORDS_A_YEAR];
        final int[] unlike = new int[SPAN];
        private final int[] firstGains = new int[4];
        private final int[] otherGains = new int[4];

        Ahead(Reign reign) {
            this.reign = reign;
            for (int i = 0; i < nodes.length; i++) {
                nodes[i] = new City();
            }
        }

        int planned(City city, int years) {
            nodes[0].become(city);
            return bestGain(0, years);
        }

        /** What he who RULES at a node gains on the other one in the YEARS left. */
        private int bestGain(int depth, int left) {
            if (depth >= nodes.length) {
                return 0;
            }
            City now = nodes[depth];
            Land land = reign.land;
            reign.reap(now, reign.harvestOf(now.year));
            int best = 0;
            int bestDeed = NONE;
            boolean found = false;
            for (int i = 0; i <= land.deeds; i++) {
                int deed = i < land.deeds ? i : NONE;
                if (deed != NONE && land.cost[deed] > now.store) {
                    continue;
                }
                int gain = deed == NONE ? 0 : land.glory[deed];
                if (left > 1) {
                    gain += gainBehind(depth, deed, left);
                }
                if (!found || gain > best) {
                    best = gain;
                    bestDeed = deed;
                    found = true;
                }
            }
            if (depth == 0) {
                opening = bestDeed;
            }
            return best;
        }

        private int gainBehind(int depth, int deed, int left) {
            if (depth + 1 >= nodes.length) {
                return 0;
            }
            City then = nodes[depth + 1];
            int ruler = nodes[depth].ruler;
            then.become(nodes[depth]);
            reign.perform(then, deed);
            reign.age(then);
            reign.turn(then);
            boolean same = then.ruler == ruler;
            int gain = bestGain(depth + 1, left - 1);
            return same ? gain : -gain;
        }

        /** Whether all SEEN would be so by a DEED in that YEAR (0: in none) in place of the WAY's. */
        boolean fits(City city, Seen seen, int year, int deed, int span) {
            work.become(city);
            for (int i = 1; i <= span && i <= SPAN; i++) {
                int done = i == year ? deed : reign.wayDeed(work, work.ruler);
                reign.live(work, reign.harvestOf(work.year), done);
                if (!seen.allows(i, work.store)) {
                    return false;
                }
                stores[i - 1] = work.store;
            }
            return true;
        }

        /** Behind each YEAR: how many unlike STORES there are by the DEEDS that fit. */
        void survey(City city, Seen seen) {
            for (int i = 0; i < met.length; i++) {
                met[i] = 0;
            }
            for (int i = 0; i < unlike.length; i++) {
                unlike[i] = 0;
            }
            for (int year = 1; year <= OTHER_DEED_SPAN; year++) {
                for (int deed = 0; deed < reign.land.deeds; deed++) {
                    if (fits(city, seen, year, deed, SPAN)) {
                        markStores();
                    }
                }
            }
        }

        private void markStores() {
            for (int i = 0; i < SPAN; i++) {
                int store = stores[i];
                int word = i * WORDS_A_YEAR + store / 64;
                long bit = 1L << store % 64;
                if (store >= 0 && word < met.length && (met[word] & bit) == 0) {
                    met[word] |= bit;
                    unlike[i]++;
                }
            }
        }

        /** The gains of both by each couple of choices: 2 by the first one's, and the other one's. */
        void playOut(City city, int deed, int other) {
            Land land = reign.land;
            for (int couple = 0; couple < 4; couple++) {
                int first = couple < 2 ? deed : other;
                int second = couple % 2 == 0 ? deed : other;
                int less = first == second ? 3 : 0;
                work.become(city);
                boolean done = reign.live(work, reign.harvestOf(work.year), first);
                firstGains[couple] = (done ? land.glory[first] : 0) - less;
                done = reign.live(work, reign.harvestOf(work.year), second);
                otherGains[couple] = (done ? land.glory[second] : 0) - less;
            }
        }

        boolean isAtRest(int couple) {
            return firstGains[couple] >= firstGains[couple ^ 2]
                    && otherGains[couple] >= otherGains[couple ^ 1];
        }
    }

    /** The words of the language; what VALUE of STAYS or LIKES each is, if it is one. */
    private enum Word {
        CITY("city"), DEED("deed"), ELDER("elder"), YOUNGER("younger"), HARVESTS("harvests"),
        TERM("term"), FRIEND("friend"), CHAMPION("champion"), GATE("gate"), STAYS("stays"),
        LIKES("likes"), OR("or"), AND("and"), NOT("not"),
        STORE("store", 0, 3), WALLS("walls", 1, NONE), DEBT("debt", 2, 4), GLORY("glory", 3, 0),
        YEAR("year", 4, NONE), MEN("men", 5, NONE), RULES("rules", NONE, 1), LEAN("lean", NONE, 2),
        UNKNOWN("");

        final String text;
        final int inStays;
        final int inLikes;

        Word(String text) {
            this(text, NONE, NONE);
        }

        Word(String text, int inStays, int inLikes) {
            this.text = text;
            this.inStays = inStays;
            this.inLikes = inLikes;
        }
    }

    private static final Word[] WORDS = Word.values();

    /** The TOKENS of a TEXT, one by one. A sign's kind is the sign itself. */
    private static final class Tokens {
        static final int END = 0;
        static final int WORD = 1;
        static final int NUMBER = 2;
        static final int NO_TOKEN = 3;
        static final int MOST_DIGITS = 4;
        static final int TOO_LONG = 10000;

        private final byte[] text;
        private int length = 0;
        private int behind = 0;
        int place = 0;
        int kind = END;
        int number = 0;
        Word word = Word.UNKNOWN;

        Tokens(byte[] text) {
            this.text = text;
        }

        void open(int bytes) {
            length = Math.min(bytes, text.length);
            behind = 0;
            step();
        }

        void step() {
            place = behind;
            while (place < length && (text[place] == ' ' || text[place] == '\n')) {
                place++;
            }
            word = Word.UNKNOWN;
            number = 0;
            behind = place;
            if (place >= length) {
                kind = END;
            } else if (isLetter(text[place])) {
                readWord();
            } else if (isDigit(text[place])) {
                readNumber();
            } else {
                kind = isSign(text[place]) ? text[place] : NO_TOKEN;
                behind++;
            }
        }

        private void readWord() {
            while (behind < length && isLetter(text[behind])) {
                behind++;
            }
            kind = WORD;
            int size = behind - place;
            for (int i = 0; i < WORDS.length; i++) {
                String known = WORDS[i].text;
                int same = 0;
                while (same < size && size == known.length() && known.charAt(same) == text[place + same]) {
                    same++;
                }
                if (same == size) {
                    word = WORDS[i];
                }
            }
        }

        private void readNumber() {
            while (behind < length && isDigit(text[behind])) {
                if (behind - place < MOST_DIGITS) {
                    number = number * 10 + text[behind] - '0';
                }
                behind++;
            }
            kind = NUMBER;
            if (behind - place > MOST_DIGITS) {
                number = TOO_LONG;
            }
        }

        private static boolean isLetter(int c) {
            return c >= 'a' && c <= 'z';
        }

        private static boolean isDigit(int c) {
            return c >= '0' && c <= '9';
        }

        private static boolean isSign(int c) {
            return c == ';' || c == '<' || c == '=' || c == '/' || c >= '(' && c <= '-' && c != ',';
        }
    }

    /** Reads a TEXT into a LAND and the CITY with which it begins, as far as the first FAULT. */
    private static final class Parser {
        static final int MISPLACED = 1;
        static final int TOO_MUCH = 2;
        static final int NOT_KNOWN = 3;
        static final int SECOND = 5;
        static final int MOST_AROUND = 6;
        static final int MOST_NOTS = 6;

        private final Tokens tokens;
        Land land = new Land();
        final City start = new City();
        private int fault = 0;
        int place = 0;
        private int told = 0;
        private final int[] heard = new int[4];
        private Rule rule;

        Parser(byte[] text) {
            tokens = new Tokens(text);
            rule = land.stays;
        }

        /** The FAULT, or 0. */
        int parse(int bytes) {
            land.clear();
            start.found();
            fault = 0;
            told = 0;
            tokens.open(bytes);
            for (int lines = 0; lines <= MOST_BYTES && tokens.kind != Tokens.END; lines++) {
                if (!line()) {
                    return fault;
                }
            }
            return 0;
        }

        private boolean refuse(int as) {
            fault = as;
            place = tokens.place;
            return false;
        }

        private boolean line() {
            switch (tokens.word) {
                case CITY: return once(1) && cityLine();
                case DEED: return below(land.deeds, MOST_DEEDS) && deedLine();
                case ELDER: return once(2) && wayLine(0);
                case YOUNGER: return once(4) && wayLine(1);
                case HARVESTS: return once(8) && harvestsLine();
                case TERM: return once(16) && termLine();
                case FRIEND: return below(land.friends, MOST_FRIENDS) && friendLine();
                case CHAMPION: return below(land.champions.many, MOST_FIGHTERS) && fighterLine(land.champions);
                case GATE: return below(land.gates.many, MOST_FIGHTERS) && fighterLine(land.gates);
                case STAYS: return once(32) && ruleLine(land.stays);
                case LIKES: return once(64) && ruleLine(land.likes);
                default: return refuse(MISPLACED);
            }
        }

        /** Takes a LINE's first word, of which only one may stand. */
        private boolean once(int bit) {
            if ((told & bit) != 0) {
                return refuse(SECOND);
            }
            told |= bit;
            tokens.step();
            return true;
        }

        /** Takes a LINE's first word, if fewer than most such LINES stand ahead. */
        private boolean below(int many, int most) {
            if (many >= most) {
                return refuse(TOO_MUCH);
            }
            tokens.step();
            return true;
        }

        private boolean close() {
            if (tokens.kind != ';') {
                return refuse(MISPLACED);
            }
            tokens.step();
            return true;
        }

        /** Takes a NUMBER, with '-' ahead of it perhaps, if it may be below 0. */
        private boolean hear(int i, int least, int most) {
            boolean below = least < 0 && tokens.kind == '-';
            if (below) {
                tokens.step();
            }
            if (tokens.kind != Tokens.NUMBER) {
                return refuse(MISPLACED);
            }
            int number = below ? -tokens.number : tokens.number;
            if (number < least || number > most) {
                return refuse(TOO_MUCH);
            }
            if (i >= 0 && i < heard.length) {
                heard[i] = number;
            }
            tokens.step();
            return true;
        }

        private boolean cityLine() {
            if (!hear(0, 0, MOST_STORE) || !hear(1, 0, MOST_WALLS) || !hear(2, 0, MOST_STORE)) {
                return false;
            }
            start.store = heard[0];
            start.walls = heard[1];
            start.debt = heard[2];
            return close();
        }

        private boolean deedLine() {
            if (!hear(0, 0, 99) || !hear(1, -20, 20) || !hear(2, -99, 99) || !hear(3, -20, 20)) {
                return false;
            }
            if (land.deeds < MOST_DEEDS) {
                land.cost[land.deeds] = heard[0];
                land.builds[land.deeds] = heard[1];
                land.owes[land.deeds] = heard[2];
                land.glory[land.deeds] = heard[3];
                land.deeds++;
            }
            return close();
        }

        private boolean wayLine(int brother) {
            int length = 0;
            for (int i = 0; i <= MOST_WAY && (i == 0 || tokens.kind != ';'); i++) {
                if (tokens.kind != Tokens.NUMBER) {
                    return refuse(MISPLACED);
                }
                if (i == MOST_WAY || tokens.number == Tokens.TOO_LONG) {
                    return refuse(TOO_MUCH);
                }
                if (tokens.number >= land.deeds) {
                    return refuse(NOT_KNOWN);
                }
                start.way[brother * MOST_WAY + i] = tokens.number;
                length++;
                tokens.step();
            }
            land.wayLength[brother] = length;
            return close();
        }

        private boolean harvestsLine() {
            for (int i = 0; i <= MOST_HARVESTS && (i == 0 || tokens.kind != ';'); i++) {
                if (i == MOST_HARVESTS && tokens.kind == Tokens.NUMBER) {
                    return refuse(TOO_MUCH);
                }
                if (!hear(0, 0, 99)) {
                    return false;
                }
                if (i < MOST_HARVESTS) {
                    land.harvest[i] = heard[0];
                    land.harvests = i + 1;
                }
            }
            return close();
        }

        private boolean termLine() {
            if (!hear(0, 1, MOST_TERM)) {
                return false;
            }
            start.term = heard[0];
            return close();
        }

        private boolean friendLine() {
            if (!hear(0, -MOST_LEAN, MOST_LEAN) || !hear(1, 0, 9)) {
                return false;
            }
            if (land.friends < MOST_FRIENDS) {
                start.lean[land.friends] = heard[0];
                land.men[land.friends] = heard[1];
                land.friends++;
            }
            return close();
        }

        private boolean fighterLine(Fighters fighters) {
            if (!hear(0, 0, 20) || !hear(1, 0, 3)) {
                return false;
            }
            if (fighters.many < MOST_FIGHTERS) {
                fighters.strength[fighters.many] = heard[0];
                fighters.kind[fighters.many] = heard[1];
                fighters.many++;
            }
            return close();
        }

        private boolean ruleLine(Rule told) {
            rule = told;
            rule.begin(Math.max(land.stays.to, land.likes.to));
            return expr(0) && close();
        }

        /** An EXPR within so many others. */
        private boolean expr(int around) {
            boolean begins = tokens.kind == Tokens.NUMBER || tokens.kind == Tokens.WORD || tokens.kind == '(';
            if (around >= MOST_AROUND && begins) {
                return refuse(TOO_MUCH);
            }
            if (!and(around)) {
                return false;
            }
            for (int i = 0; i < MOST_BYTES && tokens.word == Word.OR; i++) {
                tokens.step();
                if (!and(around)) {
                    return false;
                }
                rule.append(Rule.OR);
            }
            return true;
        }

        private boolean and(int around) {
            if (!not(around)) {
                return false;
            }
            for (int i = 0; i < MOST_BYTES && tokens.word == Word.AND; i++) {
                tokens.step();
                if (!not(around)) {
                    return false;
                }
                rule.append(Rule.AND);
            }
            return true;
        }

        private boolean not(int around) {
            int nots = 0;
            for (; nots <= MOST_NOTS && tokens.word == Word.NOT; nots++) {
                if (nots == MOST_NOTS) {
                    return refuse(TOO_MUCH);
                }
                tokens.step();
            }
            if (!test(around)) {
                return false;
            }
            for (int i = 0; i < nots; i++) {
                rule.append(Rule.NOT);
            }
            return true;
        }

        private boolean test(int around) {
            if (!sum(around)) {
                return false;
            }
            if (tokens.kind != '<' && tokens.kind != '=') {
                return true;
            }
            int operator = tokens.kind == '<' ? Rule.LESS : Rule.SAME;
            tokens.step();
            if (!sum(around)) {
                return false;
            }
            rule.append(operator);
            return true;
        }

        private boolean sum(int around) {
            if (!product(around)) {
                return false;
            }
            for (int i = 0; i < MOST_BYTES && (tokens.kind == '+' || tokens.kind == '-'); i++) {
                int operator = tokens.kind == '+' ? Rule.PLUS : Rule.MINUS;
                tokens.step();
                if (!product(around)) {
                    return false;
                }
                rule.append(operator);
            }
            return true;
        }

        private boolean product(int around) {
            if (!part(around)) {
                return false;
            }
            for (int i = 0; i < MOST_BYTES && (tokens.kind == '*' || tokens.kind == '/'); i++) {
                int operator = tokens.kind == '*' ? Rule.TIMES : Rule.OVER;
                tokens.step();
                if (!part(around)) {
                    return false;
                }
                rule.append(operator);
            }
            return true;
        }

        private boolean part(int around) {
            if (tokens.kind == Tokens.NUMBER) {
                if (tokens.number == Tokens.TOO_LONG) {
                    return refuse(TOO_MUCH);
                }
                rule.append(tokens.number);
                tokens.step();
                return true;
            }
            if (tokens.kind == Tokens.WORD) {
                int value = rule == land.stays ? tokens.word.inStays : tokens.word.inLikes;
                if (value == NONE) {
                    return refuse(NOT_KNOWN);
                }
                rule.append(-1 - value);
                rule.asksMen = rule.asksMen || tokens.word == Word.MEN;
                tokens.step();
                return true;
            }
            if (tokens.kind != '(') {
                return refuse(MISPLACED);
            }
            tokens.step();
            if (!expr(around + 1)) {
                return false;
            }
            if (tokens.kind != ')') {
                return refuse(MISPLACED);
            }
            tokens.step();
            return true;
        }
    }
}
