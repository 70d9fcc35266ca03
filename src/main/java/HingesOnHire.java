import java.util.NoSuchElementException;

/** A town's doors and the hinges that a forge lets for them; ../shared/DOC.md says what each call promises. */
public final class HingesOnHire {
    public static final int NONE = -1;

    private static final int MAX_DOORS = 8;
    private static final int MAX_HINGES = 12;
    private static final int ROOMS = 8;
    private static final int MAX_RUST = 9;
    private static final int BOTH_HANDS = 2;
    private static final int HOUSE_SIGNS = 76;
    private static final int RULE_SIGNS = 40;
    private static final int ORDER_SIGNS = 60;
    private static final int MAX_DAYS = 60;
    private static final int MAX_RENT_DAYS = 99;
    private static final int MAX_GALE = 19;
    private static final int MAX_SECRETS = 63;
    private static final int MAX_CREAK = 198;
    private static final int INSIDE_ROOMS = 254;

    private final Signs text = new Signs();
    private final Row told = new Row();
    private final Town town = new Town();
    private final Past past = new Past();
    private final Rule creaking = new Rule();
    private final Builder builder = new Builder();
    private final Orders orders = new Orders();
    private final Hangings hangings = new Hangings();
    private final Thief burglar = new Thief();

    public HingesOnHire() {
    }

    // ---- the house

    public int sign(int v) {
        return text.addFour(v) ? text.length : NONE;
    }

    public boolean end(int n) {
        if (n < 0 || n > text.length) {
            return false;
        }
        text.length = n;
        return true;
    }

    public int house() {
        text.open(HOUSE_SIGNS);
        boolean good = text.length == 0 || builder.readLines(text, town) && text.isWhole();
        int answer = good ? 0 : -1 - text.at;
        if (good && text.length > 0) {
            answer = builder.lines();
            builder.addTo(town);
            past.forgetActs();
        }
        text.length = 0;
        return answer;
    }

    public int rule() {
        text.open(RULE_SIGNS);
        boolean good = creaking.readDraft(text);
        int answer = good ? 0 : -1 - text.at;
        if (good) {
            creaking.adopt();
        }
        text.length = 0;
        return answer;
    }

    public int door(int d, int what) throws NoSuchElementException {
        if (!town.isDoor(d)) {
            throw new NoSuchElementException("no such door");
        }
        switch (what) {
            case 0:
                return town.roomA[d];
            case 1:
                return town.roomB[d];
            case 2:
                return town.doorHand[d];
            case 3:
                return town.weight[d];
            case 4:
                return town.hung[d];
            case 5:
                return town.stateOf(d);
            case 6:
                return creaking.creakOf(town, d, town.hung[d]);
            default:
                throw new NoSuchElementException("nothing such of a door");
        }
    }

    public int hinge(int h, int what) throws NoSuchElementException {
        if (!town.isHinge(h)) {
            throw new NoSuchElementException("no such hinge");
        }
        switch (what) {
            case 0:
                return town.hand[h];
            case 1:
                return town.strength[h];
            case 2:
                return town.fee[h];
            case 3:
                return town.rust[h];
            case 4:
                return town.oilLeft[h];
            case 5:
                return town.place[h];
            case 6:
                return town.hold(h);
            default:
                throw new NoSuchElementException("nothing such of a hinge");
        }
    }

    public int secret(int room, int v) {
        if (!isInside(room) || v < 0 || v > 9) {
            return NONE;
        }
        int before = town.secrets[room];
        town.secrets[room] = v;
        return before;
    }

    public int sheet(int kind, int n, int f, int step) {
        if (kind < 0 || kind > 3 || n > ROOMS - 1) {
            return NONE;
        }
        boolean missing = kind == 3;
        if (!missing && n < 0) {
            return -2;
        }
        int sum = 0;
        for (int room = 1; room < ROOMS; room++) {
            boolean written = !missing && room <= n;
            int v = written ? entry(kind, f + (room - 1) * step) : 0;
            town.secrets[room] = v;
            sum += v;
        }
        return missing ? -3 : sum;
    }

    // ---- hung and let

    public int hang(int h, int d) {
        past.mark(town);
        return sealed(town.tryHang(h, d));
    }

    public int take(int h) {
        past.mark(town);
        return sealed(town.tryTake(h));
    }

    public int oil(int h, int n) {
        past.mark(town);
        return sealed(town.tryOil(h, n));
    }

    public boolean bend(int h) {
        if (!town.isHinge(h) || town.hand[h] == BOTH_HANDS) {
            return false;
        }
        past.mark(town);
        town.hand[h] = BOTH_HANDS;
        past.seal();
        return true;
    }

    public int day() {
        return passDays(1);
    }

    public int days(int n) {
        if (n < 0 || n > MAX_DAYS) {
            return NONE;
        }
        return passDays(n);
    }

    public int gale(int seed, int g) {
        if (g < 1 || g > MAX_GALE) {
            return NONE;
        }
        past.mark(town);
        int fallen = town.blow(seed, g);
        past.seal();
        return fallen;
    }

    public int order() {
        text.open(ORDER_SIGNS);
        boolean good = text.length == 0 || orders.readActs(text) && text.isWhole();
        int answer = -1 - text.at;
        if (good) {
            past.mark(town);
            answer = orders.carryOut(text.length > 0, town);
            if (answer > 0) {
                past.seal();
            }
            told.clear();
            told.add(orders.refused ? 1 : 0);
            told.add(orders.paid);
        }
        text.length = 0;
        return answer;
    }

    public int undo() {
        return past.stepBack(town) ? past.acts : NONE;
    }

    // ---- what is shut (nothing changes)

    public int shut() {
        int shutDoors = 0;
        int swinging = 0;
        int leaning = 0;
        for (int d = 0; d < town.doors; d++) {
            int state = town.stateOf(d);
            shutDoors |= state == 2 ? 1 << d : 0;
            swinging |= state == 1 ? 1 << d : 0;
            leaning |= state == 0 ? 1 << d : 0;
        }
        told.clear();
        told.add(shutDoors);
        told.add(swinging);
        told.add(leaning);
        return Integer.bitCount(shutDoors);
    }

    public int thief(int from) {
        if (!isRoom(from)) {
            return NONE;
        }
        int rooms = town.reach(from, town.shutNow());
        told.clear();
        told.add(town.secretsOf(rooms));
        return rooms;
    }

    public int kept() {
        int safe = INSIDE_ROOMS & ~town.reach(0, town.shutNow());
        told.clear();
        told.add(safe);
        return town.secretsOf(safe);
    }

    public int quiet(int room) {
        if (!isRoom(room)) {
            return NONE;
        }
        burglar.listen(town, creaking);
        return burglar.quietWay(town, room, told);
    }

    public int lasts(int room) {
        if (!isInside(room)) {
            return NONE;
        }
        for (int k = 0; k <= MAX_DAYS; k++) {
            if ((town.reach(0, town.shutAfter(k)) & 1 << room) != 0) {
                return k;
            }
        }
        return -2;
    }

    public int rent(int n) {
        if (n < 0 || n > MAX_RENT_DAYS) {
            return NONE;
        }
        int sum = 0;
        told.clear();
        for (int d = 0; d < town.doors; d++) {
            int paid = n * town.feesOf(town.hung[d]);
            told.add(paid);
            sum += paid;
        }
        return sum;
    }

    public int rusts(int d) {
        if (!town.isDoor(d)) {
            return NONE;
        }
        if (Integer.bitCount(town.hung[d]) < 2) {
            return -3;
        }
        for (int k = 0; k <= MAX_DAYS; k++) {
            if (town.holdsAfter(town.hung[d], k, false) < town.weight[d]) {
                return k;
            }
        }
        return -2;
    }

    public int wall(int room) {
        if (!isInside(room)) {
            return NONE;
        }
        int fewest = hangings.fewestAround(town, room);
        told.clear();
        told.add(fewest);
        return Integer.bitCount(fewest);
    }

    public int guard(int v) {
        if (!isAmount(v)) {
            return NONE;
        }
        hangings.lookRound(town);
        int fewest = hangings.fewestKeeping(v);
        if (fewest < 0) {
            return -2;
        }
        told.clear();
        told.add(fewest);
        told.add(town.secretsKept(fewest));
        return Integer.bitCount(fewest);
    }

    // ---- hangings (all HINGES are taken down and hung anew; nothing changes)

    public int all(int those) {
        if (those < 0 || those >= 1 << town.doors) {
            return NONE;
        }
        hangings.prepare(town, false);
        int cost = hangings.costOf(those);
        if (cost == Hangings.NO_WAY) {
            return -2;
        }
        hangings.choose(those, cost);
        told.clear();
        hangings.tell(told);
        return town.hinges - 2 * Integer.bitCount(those);
    }

    public int most() {
        hangings.prepare(town, false);
        int doors = hangings.largest();
        told.clear();
        told.add(doors);
        return Integer.bitCount(doors);
    }

    public int best() {
        hangings.prepare(town, false);
        hangings.lookRound(town);
        int doors = hangings.safest();
        hangings.choose(doors, 0);
        told.clear();
        told.add(doors);
        hangings.tell(told);
        return town.secretsKept(doors);
    }

    public int cheap(int v) {
        if (!isAmount(v)) {
            return NONE;
        }
        hangings.prepare(town, true);
        hangings.lookRound(town);
        int doors = hangings.cheapest(v);
        if (doors < 0) {
            return -2;
        }
        int cost = hangings.costOf(doors);
        hangings.choose(doors, cost);
        told.clear();
        told.add(doors);
        hangings.tell(told);
        return cost;
    }

    public int change(int v) {
        if (!isAmount(v)) {
            return NONE;
        }
        if (town.hinges > Hangings.CHANGE_HINGES || town.doors > Hangings.CHANGE_DOORS) {
            return -3;
        }
        hangings.prepare(town, false);
        hangings.lookRound(town);
        if (!hangings.findChange(v)) {
            return -2;
        }
        told.clear();
        hangings.tell(told);
        return hangings.changes;
    }

    public int next() {
        int now = town.shutNow();
        int found = -2;
        int onto = NONE;
        int most = NONE;
        for (int h = 0; h < town.hinges; h++) {
            for (int d = 0; d < town.doors; d++) {
                if (town.place[h] == NONE && town.fits(h, d) && town.hasRoom(d)) {
                    boolean shuts = town.shutBy(d, town.hung[d] | 1 << h);
                    int safe = town.secretsKept(shuts ? now | 1 << d : now);
                    if (safe > most) {
                        most = safe;
                        found = h;
                        onto = d;
                    }
                }
            }
        }
        if (found >= 0) {
            told.clear();
            told.add(onto);
            told.add(most);
        }
        return found;
    }

    public int spare() {
        int now = town.shutNow();
        int found = -2;
        int most = NONE;
        int fee = NONE;
        for (int h = 0; h < town.hinges; h++) {
            if (town.isDoor(town.place[h])) {
                int safe = town.secretsKept(now & ~(1 << town.place[h]));
                if (safe > most || safe == most && town.fee[h] > fee) {
                    most = safe;
                    fee = town.fee[h];
                    found = h;
                }
            }
        }
        if (found >= 0) {
            told.clear();
            told.add(most);
        }
        return found;
    }

    // ---- gales

    public int risk(int g) {
        if (g < 1 || g > MAX_GALE) {
            return NONE;
        }
        int loose = town.looseHinges();
        int falling = 0;
        long upper = 1;
        long lower = 1;
        for (int h = 0; h < town.hinges; h++) {
            if ((loose & 1 << h) != 0 && town.hold(h) + 1 < g) {
                falling |= 1 << h;
                upper *= town.hold(h) + 1;
                lower *= g;
            }
        }
        long common = commonDivisor(upper, lower);
        told.clear();
        told.add(upper / common);
        told.add(lower / common);
        return falling;
    }

    public int stands() {
        int loose = town.looseHinges();
        int strongest = MAX_GALE;
        for (int h = 0; h < town.hinges; h++) {
            if ((loose & 1 << h) != 0) {
                strongest = Math.min(strongest, town.hold(h) + 1);
            }
        }
        return strongest;
    }

    // ---- creaks that were heard

    public int heard(int creak) {
        return isCreak(creak) && burglar.hear(creak) ? burglar.size : NONE;
    }

    public int forget() {
        int before = burglar.size;
        burglar.size = 0;
        return before;
    }

    public int ways() {
        burglar.listen(town, creaking);
        long many = burglar.countWays(town, NONE);
        told.clear();
        told.add(burglar.roomsBehind(town, burglar.size));
        burglar.leastWay(town, told);
        return (int) Math.min(many, 1000000L);
    }

    public int been(int k) {
        if (k < 0 || k > burglar.size) {
            return NONE;
        }
        burglar.listen(town, creaking);
        burglar.countWays(town, NONE);
        return burglar.roomsBehind(town, k);
    }

    public int sure() {
        burglar.listen(town, creaking);
        int always = burglar.doorsOfAllWays(town);
        if (burglar.countWays(town, NONE) == 0) {
            return -2;
        }
        told.clear();
        told.add(burglar.doorsOfSomeWay(town));
        return always;
    }

    public int behind(int d, int creak) {
        if (!town.isDoor(d) || !isCreak(creak)) {
            return NONE;
        }
        if (town.hung[d] != 0) {
            return -2;
        }
        int many = 0;
        int least = NONE;
        // The higher HINGE outside, alone (low is NONE) ahead of its pairs: so the sets ascend.
        for (int high = 0; high < town.hinges; high++) {
            for (int low = NONE; low < high; low++) {
                int set = 1 << high | (low < 0 ? 0 : 1 << low);
                if (town.canHang(set, d) && creaking.creakOf(town, d, set) == creak) {
                    many++;
                    least = least == NONE ? set : least;
                }
            }
        }
        told.clear();
        told.add(least);
        return many;
    }

    // ---- bidding, rings

    public int bid(int h) {
        if (!town.isHinge(h)) {
            return NONE;
        }
        if (town.place[h] != NONE) {
            return -3;
        }
        int price = 0;
        int last = -2;
        // Each round but the last raises the price, and no door is worth more than 9.
        for (int round = 0; round <= 9; round++) {
            for (int d = 0; d < town.doors; d++) {
                if (d != last && town.worth(h, d) > price) {
                    price++;
                    last = d;
                }
            }
        }
        if (last >= 0) {
            told.clear();
            told.add(price);
        }
        return last;
    }

    public int rings() {
        int members = 0;
        int many = 0;
        for (int h = 0; h < town.hinges; h++) {
            int least = town.leastOfRing(h);
            if (least != NONE) {
                members |= 1 << h;
                many += least == h ? 1 : 0;
            }
        }
        told.clear();
        told.add(members);
        told.add(many);
        return Integer.bitCount(members);
    }

    // ---- kept

    public boolean keep(int i) {
        if (!Past.isShelf(i)) {
            return false;
        }
        past.shelve(i, town);
        return true;
    }

    public boolean again(int i) {
        if (!Past.isShelf(i) || !past.fetch(i, town)) {
            return false;
        }
        past.forgetActs();
        return true;
    }

    public int count(int what) {
        switch (what) {
            case 0:
                return town.doors;
            case 1:
                return town.hinges;
            case 2:
                return town.dayCount;
            case 3:
                return town.till;
            case 4:
                return town.inForge();
            case 5:
                return town.secretsOf(INSIDE_ROOMS);
            case 6:
                return past.acts;
            case 7:
                return burglar.size;
            case 8:
                return told.size;
            case 9:
                return text.length;
            default:
                return -100;
        }
    }

    public long row(int i) throws NoSuchElementException {
        if (i < 0 || i >= told.size) {
            throw new NoSuchElementException("no such number of the row");
        }
        return told.numbers[i];
    }

    private static boolean isRoom(int room) {
        return room >= 0 && room < ROOMS;
    }

    private static boolean isInside(int room) {
        return room >= 1 && room < ROOMS;
    }

    private static boolean isAmount(int v) {
        return v >= 0 && v <= MAX_SECRETS;
    }

    private static boolean isCreak(int creak) {
        return creak >= 0 && creak <= MAX_CREAK;
    }

    private static int entry(int kind, int number) {
        int read = kind == 0 ? (byte) number : kind == 1 ? (short) number : number;
        return Math.max(0, Math.min(9, read));
    }

    private static long commonDivisor(long a, long b) {
        long high = a;
        long low = b;
        // Two steps at least halve the greater number, so a long is through in far fewer.
        for (int step = 0; step < 200 && low != 0; step++) {
            long left = high % low;
            high = low;
            low = left;
        }
        return Math.max(1, high);
    }

    private int sealed(int answer) {
        if (answer >= 0) {
            past.seal();
        }
        return answer;
    }

    private int passDays(int n) {
        int before = town.shutNow();
        past.mark(town);
        int paid = 0;
        for (int k = 0; k < n; k++) {
            paid += town.passDay();
        }
        if (n > 0) {
            past.seal();
        }
        told.clear();
        told.add(before & ~town.shutNow());
        return paid;
    }

    /** THE TEXT, and how far a reader has come in it. */
    static final class Signs {
        static final int MOST = 80;
        static final int AT_END = -1;

        final int[] signs = new int[MOST];
        int length;
        int at;
        int limit;

        boolean addFour(int v) {
            if (length > MOST - 4) {
                return false;
            }
            for (int shift = 24; shift >= 0; shift -= 8) {
                signs[length] = v >>> shift & 255;
                length++;
            }
            return true;
        }

        /** Readers see the first signs alone, as many as the text may have. */
        void open(int most) {
            at = 0;
            limit = Math.min(length, most);
        }

        /** Behind a reader that came to its end: whether it saw all. If not, it stands where it must stop. */
        boolean isWhole() {
            return at == length;
        }

        boolean isOver() {
            return peek() == AT_END;
        }

        int peek() {
            return at >= 0 && at < limit ? signs[at] : AT_END;
        }

        boolean eat(int wanted) {
            if (peek() != wanted) {
                return false;
            }
            at++;
            return true;
        }

        /** The digit that stands here, if it is one of low .. high: else NONE, and the reader stays. */
        int digit(int low, int high) {
            // Not by peek(): THE RULE's reader is deep enough without it.
            int v = at >= 0 && at < limit ? signs[at] - '0' : NONE;
            if (v < low || v > high) {
                return NONE;
            }
            at++;
            return v;
        }
    }

    /** The ROW: what a call told last. */
    static final class Row {
        final long[] numbers = new long[16];
        int size;

        void clear() {
            size = 0;
        }

        void add(long number) {
            if (size < numbers.length) {
                numbers[size] = number;
                size++;
            }
        }
    }

    /** DOORS, HINGES, SECRETS, THE TILL and DAYS. */
    static final class Town {
        final int[] roomA = new int[MAX_DOORS];
        final int[] roomB = new int[MAX_DOORS];
        final int[] ends = new int[MAX_DOORS];
        final int[] doorHand = new int[MAX_DOORS];
        final int[] weight = new int[MAX_DOORS];
        final int[] hung = new int[MAX_DOORS];
        final int[] hand = new int[MAX_HINGES];
        final int[] strength = new int[MAX_HINGES];
        final int[] fee = new int[MAX_HINGES];
        final int[] rust = new int[MAX_HINGES];
        final int[] oilLeft = new int[MAX_HINGES];
        final int[] place = new int[MAX_HINGES];
        final int[] secrets = new int[ROOMS];
        int doors;
        int hinges;
        int till;
        int dayCount;

        boolean isDoor(int d) {
            return d >= 0 && d < doors;
        }

        boolean isHinge(int h) {
            return h >= 0 && h < hinges;
        }

        boolean fits(int h, int d) {
            return hand[h] == BOTH_HANDS || hand[h] == doorHand[d];
        }

        boolean hasRoom(int d) {
            return Integer.bitCount(hung[d]) < 2;
        }

        int hold(int h) {
            return holdWith(h, rust[h]);
        }

        private int holdWith(int h, int rusty) {
            return Math.max(0, strength[h] - rusty / 2);
        }

        /** What a set holds after k DAYS on a DOOR, with the OIL that it has or as if it had none. */
        int holdsAfter(int set, int k, boolean oiled) {
            int sum = 0;
            for (int h = 0; h < hinges; h++) {
                if ((set & 1 << h) != 0) {
                    int bare = Math.max(0, k - (oiled ? oilLeft[h] : 0));
                    sum += holdWith(h, Math.min(MAX_RUST, rust[h] + bare));
                }
            }
            return sum;
        }

        int feesOf(int set) {
            int sum = 0;
            for (int h = 0; h < hinges; h++) {
                sum += (set & 1 << h) != 0 ? fee[h] : 0;
            }
            return sum;
        }

        boolean shutBy(int d, int set) {
            return Integer.bitCount(set) == 2 && holdsAfter(set, 0, true) >= weight[d];
        }

        int stateOf(int d) {
            return shutBy(d, hung[d]) ? 2 : hung[d] != 0 ? 1 : 0;
        }

        int shutNow() {
            return shutAfter(0);
        }

        int shutAfter(int k) {
            int mask = 0;
            for (int d = 0; d < doors; d++) {
                if (Integer.bitCount(hung[d]) == 2 && holdsAfter(hung[d], k, true) >= weight[d]) {
                    mask |= 1 << d;
                }
            }
            return mask;
        }

        /** ROOMS where a THIEF gets to from one, if just these DOORS are SHUT. */
        int reach(int from, int shutDoors) {
            int rooms = 1 << from;
            for (int round = 0; round < ROOMS; round++) {
                int before = rooms;
                for (int d = 0; d < doors; d++) {
                    if ((shutDoors & 1 << d) == 0 && (rooms & ends[d]) != 0) {
                        rooms |= ends[d];
                    }
                }
                if (rooms == before) {
                    break;
                }
            }
            return rooms;
        }

        int secretsOf(int rooms) {
            int sum = 0;
            for (int room = 1; room < ROOMS; room++) {
                sum += (rooms & 1 << room) != 0 ? secrets[room] : 0;
            }
            return sum;
        }

        int secretsKept(int shutDoors) {
            return secretsOf(~reach(0, shutDoors));
        }

        /** HINGES on DOORS that are not SHUT: a gale shakes no others. */
        int looseHinges() {
            int set = 0;
            for (int d = 0; d < doors; d++) {
                set |= shutBy(d, hung[d]) ? 0 : hung[d];
            }
            return set;
        }

        int inForge() {
            int set = 0;
            for (int h = 0; h < hinges; h++) {
                set |= place[h] == NONE ? 1 << h : 0;
            }
            return set;
        }

        /** Whether all of a set are in THE FORGE and FIT a DOOR. */
        boolean canHang(int set, int d) {
            for (int h = 0; h < hinges; h++) {
                if ((set & 1 << h) != 0 && (place[h] != NONE || !fits(h, d))) {
                    return false;
                }
            }
            return true;
        }

        void put(int h, int d) {
            place[h] = d;
            hung[d] |= 1 << h;
        }

        void unhang(int h) {
            if (isDoor(place[h])) {
                hung[place[h]] &= ~(1 << h);
            }
            place[h] = NONE;
        }

        int tryHang(int h, int d) {
            if (!isHinge(h) || !isDoor(d)) {
                return NONE;
            }
            if (place[h] != NONE) {
                return -2;
            }
            if (!fits(h, d)) {
                return -3;
            }
            if (!hasRoom(d)) {
                return -4;
            }
            put(h, d);
            return Integer.bitCount(hung[d]);
        }

        int tryTake(int h) {
            if (!isHinge(h)) {
                return NONE;
            }
            int d = place[h];
            if (d == NONE) {
                return -2;
            }
            unhang(h);
            return d;
        }

        int tryOil(int h, int n) {
            if (!isHinge(h) || n < 1 || n > 9) {
                return NONE;
            }
            oilLeft[h] = Math.max(oilLeft[h], n);
            return oilLeft[h];
        }

        /** One DAY: the rent that was paid. */
        int passDay() {
            int paid = 0;
            for (int h = 0; h < hinges; h++) {
                if (place[h] != NONE) {
                    paid += fee[h];
                    if (oilLeft[h] > 0) {
                        oilLeft[h]--;
                    } else {
                        rust[h] = Math.min(MAX_RUST, rust[h] + 1);
                    }
                }
            }
            till += paid;
            dayCount++;
            return paid;
        }

        /** A gale of g, which is 1 at least: which fell. */
        int blow(int seed, int g) {
            int loose = looseHinges();
            int drawn = seed;
            int fallen = 0;
            for (int d = 0; d < doors; d++) {
                int set = hung[d] & loose;
                for (int h = 0; h < hinges; h++) {
                    if ((set & 1 << h) != 0) {
                        drawn = drawn * 1103515245 + 12345;
                        fallen |= (drawn >>> 16) % g > hold(h) ? 1 << h : 0;
                    }
                }
            }
            for (int h = 0; h < hinges; h++) {
                if ((fallen & 1 << h) != 0) {
                    unhang(h);
                    rust[h] = Math.min(MAX_RUST, rust[h] + 2);
                }
            }
            return fallen;
        }

        /** What a HINGE is worth to a DOOR that bids; 0 to one that does not. */
        int worth(int h, int d) {
            if (!fits(h, d) || !hasRoom(d)) {
                return 0;
            }
            return Math.max(0, weight[d] - holdsAfter(hung[d], 0, true));
        }

        /** The HINGE whose place this one would rather have, or NONE. */
        private int nextInRing(int h) {
            int wish = NONE;
            for (int d = 0; d < doors; d++) {
                if (d != place[h] && fits(h, d) && (wish == NONE || weight[d] > weight[wish])) {
                    wish = d;
                }
            }
            if (place[h] == NONE || wish == NONE) {
                return NONE;
            }
            for (int other = 0; other < hinges; other++) {
                if (place[other] == wish) {
                    return other;
                }
            }
            return NONE;
        }

        /** The first HINGE of the ring that this one is in, or NONE. */
        int leastOfRing(int h) {
            int least = h;
            int other = h;
            for (int step = 0; step < MAX_HINGES; step++) {
                other = nextInRing(other);
                if (other == h) {
                    return least;
                }
                if (other == NONE) {
                    return NONE;
                }
                least = Math.min(least, other);
            }
            return NONE;
        }
    }

    /** States as they were: a ring of those ahead of the latest acts, and shelves for keep(). */
    static final class Past {
        static final int SLOT = MAX_HINGES + 2;
        // One slot more than the 15 that can be undone: an act is marked before it is known to be done.
        static final int RING = 16;
        static final int SHELVES = 3;

        final int[] states = new int[SLOT * (RING + SHELVES)];
        final boolean[] filled = new boolean[SHELVES];
        final int[] shelfDoors = new int[SHELVES];
        final int[] shelfHinges = new int[SHELVES];
        int top;
        int acts;

        static boolean isShelf(int i) {
            return i >= 0 && i < SHELVES;
        }

        void mark(Town town) {
            save(town, top);
        }

        void seal() {
            top = (top + 1) % RING;
            acts = Math.min(RING - 1, acts + 1);
        }

        void forgetActs() {
            acts = 0;
        }

        boolean stepBack(Town town) {
            if (acts == 0) {
                return false;
            }
            top = (top + RING - 1) % RING;
            acts--;
            load(town, top);
            return true;
        }

        void shelve(int i, Town town) {
            save(town, RING + i);
            filled[i] = true;
            shelfDoors[i] = town.doors;
            shelfHinges[i] = town.hinges;
        }

        boolean fetch(int i, Town town) {
            if (!filled[i] || shelfDoors[i] != town.doors || shelfHinges[i] != town.hinges) {
                return false;
            }
            load(town, RING + i);
            return true;
        }

        private void save(Town town, int slot) {
            int from = slot * SLOT;
            for (int h = 0; h < town.hinges; h++) {
                states[from + h] = town.place[h] + 1 << 12 | town.hand[h] << 8 | town.rust[h] << 4 | town.oilLeft[h];
            }
            states[from + MAX_HINGES] = town.till;
            states[from + MAX_HINGES + 1] = town.dayCount;
        }

        private void load(Town town, int slot) {
            int from = slot * SLOT;
            for (int h = 0; h < town.hinges; h++) {
                int packed = states[from + h];
                town.unhang(h);
                town.hand[h] = packed >> 8 & 15;
                town.rust[h] = packed >> 4 & 15;
                town.oilLeft[h] = packed & 15;
                int d = (packed >> 12) - 1;
                if (town.isDoor(d)) {
                    town.put(h, d);
                }
            }
            town.till = states[from + MAX_HINGES];
            town.dayCount = states[from + MAX_HINGES + 1];
        }
    }

    /** THE RULE, as steps for a stack. */
    static final class Rule {
        static final int THING = 1000;
        static final int OPERATOR = 2000;
        static final int NEGATE = 3000;
        static final int MAX_NESTED = 4;

        final int[] steps = new int[RULE_SIGNS];
        final int[] draft = new int[RULE_SIGNS];
        final int[] stack = new int[RULE_SIGNS + 1];
        int size;
        int draftSize;

        /** Whether the text can be THE RULE: then the draft is it, without a step if the text is empty. */
        boolean readDraft(Signs text) {
            draftSize = 0;
            return text.length == 0 || readExpression(text, 0) && text.isWhole();
        }

        /** The draft is THE RULE now; an empty one is none. */
        void adopt() {
            size = draftSize;
            System.arraycopy(draft, 0, steps, 0, size);
        }

        private void write(int step) {
            if (draftSize < draft.length) {
                draft[draftSize] = step;
                draftSize++;
            }
        }

        private boolean readExpression(Signs text, int depth) {
            if (!readSum(text, depth)) {
                return false;
            }
            int operator = text.peek();
            if (operator != '<' && operator != '>' && operator != '=') {
                return true;
            }
            text.at++;
            if (!readSum(text, depth)) {
                return false;
            }
            write(OPERATOR + operator);
            return true;
        }

        private boolean readSum(Signs text, int depth) {
            if (!readProduct(text, depth)) {
                return false;
            }
            for (int k = 0; k < RULE_SIGNS; k++) {
                int operator = text.peek();
                if (operator != '+' && operator != '-') {
                    return true;
                }
                text.at++;
                if (!readProduct(text, depth)) {
                    return false;
                }
                write(OPERATOR + operator);
            }
            return true;
        }

        private boolean readProduct(Signs text, int depth) {
            if (!readThing(text, depth)) {
                return false;
            }
            for (int k = 0; k < RULE_SIGNS; k++) {
                int operator = text.peek();
                if (operator != '*' && operator != '/') {
                    return true;
                }
                text.at++;
                if (!readThing(text, depth)) {
                    return false;
                }
                write(OPERATOR + operator);
            }
            return true;
        }

        private boolean readThing(Signs text, int depth) {
            boolean negative = false;
            for (int k = 0; k < RULE_SIGNS && text.eat('-'); k++) {
                negative = !negative;
            }
            int sign = text.peek();
            boolean good;
            if (isLetter(sign)) {
                good = text.eat(sign);
                write(THING + sign);
            } else if (sign == '(') {
                good = depth < MAX_NESTED && text.eat('(') && readExpression(text, depth + 1) && text.eat(')');
            } else {
                good = readNumber(text);
            }
            if (good && negative) {
                write(NEGATE);
            }
            return good;
        }

        private boolean readNumber(Signs text) {
            int number = text.digit(0, 9);
            if (number == NONE) {
                return false;
            }
            for (int k = 1; k < 3; k++) {
                int digit = text.digit(0, 9);
                if (digit == NONE) {
                    break;
                }
                number = number * 10 + digit;
            }
            write(number);
            return true;
        }

        private static boolean isLetter(int sign) {
            switch (sign) {
                case 'r':
                case 's':
                case 'o':
                case 'w':
                case 'n':
                case 't':
                case 'i':
                case 'd':
                case 'x':
                    return true;
                default:
                    return false;
            }
        }

        /** CREAK of a DOOR, if just this set were on it. */
        int creakOf(Town town, int d, int set) {
            int sum = 0;
            boolean shuts = town.shutBy(d, set);
            for (int h = 0; h < town.hinges; h++) {
                if ((set & 1 << h) != 0) {
                    int told = size == 0 ? town.rust[h] : tellOf(town, h, d, Integer.bitCount(set), shuts);
                    sum += Math.max(0, Math.min(99, told));
                }
            }
            return sum;
        }

        private int tellOf(Town town, int h, int d, int many, boolean shuts) {
            int top = 0;
            for (int k = 0; k < size && top < stack.length; k++) {
                int step = steps[k];
                if (step < THING) {
                    stack[top] = step;
                    top++;
                } else if (step < OPERATOR) {
                    stack[top] = thingOf(step - THING, town, h, d, many, shuts);
                    top++;
                } else if (step == NEGATE && top > 0) {
                    stack[top - 1] = -stack[top - 1];
                } else if (top > 1) {
                    top--;
                    stack[top - 1] = reckon(step - OPERATOR, stack[top - 1], stack[top]);
                }
            }
            return stack[0];
        }

        private static int thingOf(int letter, Town town, int h, int d, int many, boolean shuts) {
            switch (letter) {
                case 'r':
                    return town.rust[h];
                case 's':
                    return town.strength[h];
                case 'o':
                    return town.oilLeft[h];
                case 'w':
                    return town.weight[d];
                case 'n':
                    return many;
                case 't':
                    return town.dayCount;
                case 'i':
                    return h;
                case 'd':
                    return d;
                default:
                    return shuts ? 1 : 0;
            }
        }

        private static int reckon(int operator, int a, int b) {
            switch (operator) {
                case '<':
                    return a < b ? 1 : 0;
                case '>':
                    return a > b ? 1 : 0;
                case '=':
                    return a == b ? 1 : 0;
                case '+':
                    return a + b;
                case '-':
                    return a - b;
                case '*':
                    return a * b;
                default:
                    return b == 0 ? 0 : a / b;
            }
        }
    }

    /** Reads THE HOUSE; its LINES wait here till all of them are known to be good. */
    static final class Builder {
        final int[] doorLines = new int[MAX_DOORS];
        final int[] hingeLines = new int[MAX_HINGES];
        int newDoors;
        int newHinges;

        int lines() {
            return newDoors + newHinges;
        }

        boolean readLines(Signs text, Town town) {
            newDoors = 0;
            newHinges = 0;
            for (int k = 0; k < HOUSE_SIGNS; k++) {
                if (!readLine(text, town)) {
                    return false;
                }
                if (text.isOver()) {
                    return true;
                }
                if (!text.eat(';')) {
                    return false;
                }
            }
            return false;
        }

        private boolean readLine(Signs text, Town town) {
            if (town.doors + newDoors < MAX_DOORS && text.eat('d')) {
                return readDoor(text);
            }
            if (town.hinges + newHinges < MAX_HINGES && text.eat('h')) {
                return readHinge(text);
            }
            return false;
        }

        private boolean readDoor(Signs text) {
            int a = text.digit(0, ROOMS - 1);
            if (a == NONE || text.peek() == '0' + a) {
                return false;
            }
            int b = text.digit(0, ROOMS - 1);
            if (b == NONE) {
                return false;
            }
            int hand = readHand(text);
            if (hand == NONE || hand == BOTH_HANDS) {
                return false;
            }
            text.at++;
            int weight = text.digit(1, 9);
            if (weight == NONE) {
                return false;
            }
            doorLines[newDoors] = a << 12 | b << 8 | hand << 4 | weight;
            newDoors++;
            return true;
        }

        private boolean readHinge(Signs text) {
            int hand = readHand(text);
            if (hand == NONE) {
                return false;
            }
            text.at++;
            int strength = text.digit(1, 9);
            if (strength == NONE) {
                return false;
            }
            int fee = text.eat('*') ? text.digit(0, 9) : 1;
            if (fee == NONE) {
                return false;
            }
            hingeLines[newHinges] = hand << 8 | strength << 4 | fee;
            newHinges++;
            return true;
        }

        /** The HAND that stands here, or NONE; the reader stays, for a DOOR has no b. */
        private static int readHand(Signs text) {
            switch (text.peek()) {
                case 'l':
                    return 0;
                case 'r':
                    return 1;
                case 'b':
                    return BOTH_HANDS;
                default:
                    return NONE;
            }
        }

        void addTo(Town town) {
            for (int k = 0; k < newDoors && town.doors < MAX_DOORS; k++) {
                addDoor(town, doorLines[k]);
            }
            for (int k = 0; k < newHinges && town.hinges < MAX_HINGES; k++) {
                addHinge(town, hingeLines[k]);
            }
        }

        private static void addDoor(Town town, int line) {
            int d = town.doors;
            town.roomA[d] = line >> 12 & 7;
            town.roomB[d] = line >> 8 & 7;
            town.ends[d] = 1 << town.roomA[d] | 1 << town.roomB[d];
            town.doorHand[d] = line >> 4 & 3;
            town.weight[d] = line & 15;
            town.hung[d] = 0;
            town.doors++;
        }

        private static void addHinge(Town town, int line) {
            int h = town.hinges;
            town.hand[h] = line >> 8 & 3;
            town.strength[h] = line >> 4 & 15;
            town.fee[h] = line & 15;
            town.rust[h] = 0;
            town.oilLeft[h] = 0;
            town.place[h] = NONE;
            town.hinges++;
        }
    }

    /** Reads AN ORDER, then carries it out. */
    static final class Orders {
        final int[] acts = new int[ORDER_SIGNS / 2];
        int size;
        boolean refused;
        int paid;

        boolean readActs(Signs text) {
            size = 0;
            for (int k = 0; k < acts.length; k++) {
                if (!readAct(text)) {
                    return false;
                }
                if (text.isOver()) {
                    return true;
                }
                if (!text.eat(';')) {
                    return false;
                }
            }
            return false;
        }

        private boolean readAct(Signs text) {
            int kind = text.peek();
            if (kind != 'h' && kind != 't' && kind != 'o' && kind != 'n') {
                return false;
            }
            text.at++;
            if (kind == 'n') {
                int many = text.digit(1, 9);
                write(kind, 0, many == NONE ? 1 : many);
                return true;
            }
            int number = readNumber(text);
            if (number == NONE) {
                return false;
            }
            int digit = 0;
            if (kind != 't') {
                digit = text.eat(kind == 'h' ? '>' : '*') ? text.digit(0, 9) : NONE;
            }
            write(kind, number, digit);
            return digit != NONE;
        }

        private static int readNumber(Signs text) {
            int first = text.digit(0, 9);
            if (first == NONE) {
                return NONE;
            }
            int second = text.digit(0, 9);
            return second == NONE ? first : first * 10 + second;
        }

        private void write(int kind, int number, int digit) {
            if (size < acts.length) {
                acts[size] = kind << 16 | number << 8 | digit & 255;
                size++;
            }
        }

        /** Does the acts one by one, till one is refused: how many were done. */
        int carryOut(boolean written, Town town) {
            refused = false;
            paid = 0;
            int many = written ? size : 0;
            for (int k = 0; k < many; k++) {
                if (!carryOutOne(acts[k], town)) {
                    refused = true;
                    return k;
                }
            }
            return many;
        }

        private boolean carryOutOne(int act, Town town) {
            int number = act >> 8 & 255;
            int digit = act & 255;
            switch (act >> 16) {
                case 'h':
                    return town.tryHang(number, digit) >= 0;
                case 't':
                    return town.tryTake(number) >= 0;
                case 'o':
                    return town.tryOil(number, digit) >= 0;
                default:
                    for (int k = 0; k < digit; k++) {
                        paid += town.passDay();
                    }
                    return true;
            }
        }
    }

    /** Which DOORS to shut, and which two HINGES on each of them. */
    static final class Hangings {
        static final int NO_WAY = 200;
        static final int CHANGE_DOORS = 4;
        static final int CHANGE_HINGES = 8;
        static final int MOST_PAIRS = MAX_HINGES * (MAX_HINGES - 1) / 2;
        static final int LAST_STAMP = 1 << 22;
        static final long NO_KEY = 1L << 60;

        final int[] pairs = new int[MAX_DOORS * MOST_PAIRS];
        final int[] prices = new int[MAX_DOORS * MOST_PAIRS];
        final int[] twins = new int[MAX_DOORS * MOST_PAIRS];
        final int[] fees = new int[MAX_HINGES];
        final int[] lowerTwins = new int[MAX_HINGES];
        final int[] leastFees = new int[MAX_HINGES + 1];
        final int[] pairCount = new int[MAX_DOORS];
        final int[] turns = new int[MAX_DOORS];
        // Of each set of used HINGES: the search's stamp and, in the low byte, what the rest costs.
        final int[] memo = new int[1 << MAX_HINGES];
        final int[] chosen = new int[MAX_DOORS];
        final int[] keptBy = new int[1 << MAX_DOORS];
        final boolean[] hopeless = new boolean[1 << MAX_DOORS];
        final int[] hungNow = new int[MAX_DOORS];
        int doors;
        int hinges;
        int turnCount;
        int stamp;
        int changes;
        long leastKey;

        /** The fewest DOORS, of as few the least, without which no THIEF gets to a ROOM. */
        int fewestAround(Town town, int room) {
            int found = (1 << town.doors) - 1;
            for (int mask = found; mask >= 0; mask--) {
                if (Integer.bitCount(mask) <= Integer.bitCount(found) && (town.reach(0, mask) & 1 << room) == 0) {
                    found = mask;
                }
            }
            return found;
        }

        /** Learns what is KEPT by each set of DOORS that are SHUT. */
        void lookRound(Town town) {
            doors = town.doors;
            for (int mask = 0; mask < 1 << doors; mask++) {
                keptBy[mask] = town.secretsKept(mask);
            }
        }

        int fewestKeeping(int v) {
            int found = NONE;
            for (int mask = 0; mask < 1 << doors; mask++) {
                boolean fewer = found == NONE || Integer.bitCount(mask) < Integer.bitCount(found);
                if (fewer && keptBy[mask] >= v) {
                    found = mask;
                }
            }
            return found;
        }

        /** Learns which two HINGES shut each DOOR, and, if asked, what they cost. */
        void prepare(Town town, boolean priced) {
            doors = town.doors;
            hinges = town.hinges;
            for (int h = 0; h < hinges; h++) {
                fees[h] = priced ? town.fee[h] : 0;
            }
            for (int h = 0; h < hinges; h++) {
                lowerTwins[h] = twinsAhead(town, h);
            }
            addUpLeastFees();
            for (int d = 0; d < doors; d++) {
                hungNow[d] = town.hung[d];
                pairCount[d] = 0;
                // By the higher HINGE first, so that the sets ascend.
                for (int high = 1; high < hinges; high++) {
                    for (int low = 0; town.fits(high, d) && low < high; low++) {
                        if (town.fits(low, d) && town.hold(high) + town.hold(low) >= town.weight[d]) {
                            addPair(d, high, low);
                        }
                    }
                }
            }
        }

        /** HINGES ahead of this one that serve as well: a search need not try it while one of them is free. */
        private int twinsAhead(Town town, int h) {
            int set = 0;
            for (int other = 0; other < h; other++) {
                boolean alike = town.hand[other] == town.hand[h] && town.hold(other) == town.hold(h);
                set |= alike && fees[other] == fees[h] ? 1 << other : 0;
            }
            return set;
        }

        /** What so many HINGES cost at least, whichever they are. */
        private void addUpLeastFees() {
            int many = 0;
            leastFees[0] = 0;
            for (int fee = 0; fee <= 9; fee++) {
                for (int h = 0; h < hinges; h++) {
                    if (fees[h] == fee && many < MAX_HINGES) {
                        leastFees[many + 1] = leastFees[many] + fee;
                        many++;
                    }
                }
            }
        }

        private void addPair(int d, int high, int low) {
            int at = d * MOST_PAIRS + pairCount[d];
            pairs[at] = 1 << high | 1 << low;
            prices[at] = fees[high] + fees[low];
            twins[at] = (lowerTwins[high] | lowerTwins[low]) & ~pairs[at];
            pairCount[d]++;
        }

        /** The least cost at which these DOORS are SHUT at once, or NO_WAY. */
        int costOf(int mask) {
            if (2 * Integer.bitCount(mask) > hinges) {
                return NO_WAY;
            }
            startSearch(mask);
            return costFrom(0, 0);
        }

        /** DOORS with the fewest pairs have their turn first: then a search fails early. */
        private void startSearch(int mask) {
            turnCount = 0;
            for (int d = 0; d < doors; d++) {
                if ((mask & 1 << d) != 0) {
                    int at = turnCount;
                    for (; at > 0 && pairCount[turns[at - 1]] > pairCount[d]; at--) {
                        turns[at] = turns[at - 1];
                    }
                    turns[at] = d;
                    turnCount++;
                }
            }
            stamp++;
            if (stamp >= LAST_STAMP) {
                forgetSearches();
            }
        }

        private void forgetSearches() {
            for (int k = 0; k < memo.length; k++) {
                memo[k] = 0;
            }
            stamp = 1;
        }

        private int costFrom(int turn, int used) {
            if (turn >= turnCount) {
                return 0;
            }
            int known = memo[used];
            if (known >> 8 == stamp) {
                return known & 255;
            }
            int from = turns[turn] * MOST_PAIRS;
            int to = from + pairCount[turns[turn]];
            int least = NO_WAY;
            int others = leastFees[Math.min(hinges, 2 * (turnCount - turn - 1))];
            for (int at = from; at < to && least > others; at++) {
                if ((pairs[at] & used) == 0 && (twins[at] & ~used) == 0 && prices[at] + others < least) {
                    least = Math.min(least, prices[at] + costFrom(turn + 1, used | pairs[at]));
                }
            }
            memo[used] = stamp << 8 | least;
            return least;
        }

        /** The least HANGING that shuts these DOORS at just this cost. */
        void choose(int mask, int cost) {
            int used = 0;
            int left = cost;
            for (int d = 0; d < doors; d++) {
                chosen[d] = 0;
                if ((mask & 1 << d) != 0) {
                    // What the rest costs depends on the HINGES that are used, so one search serves all pairs.
                    startSearch(mask & -2 << d);
                    int at = leastPair(d, used, left);
                    chosen[d] = at < 0 ? 0 : pairs[at];
                    left -= at < 0 ? 0 : prices[at];
                    used |= chosen[d];
                }
            }
        }

        private int leastPair(int d, int used, int left) {
            int from = d * MOST_PAIRS;
            for (int at = from; at < from + pairCount[d]; at++) {
                if ((pairs[at] & used) == 0 && prices[at] + costFrom(0, used | pairs[at]) == left) {
                    return at;
                }
            }
            return NONE;
        }

        void tell(Row told) {
            for (int d = 0; d < doors; d++) {
                told.add(chosen[d]);
            }
        }

        /** The most DOORS that can be SHUT at once, of as many the least bits. */
        int largest() {
            int found = 0;
            for (int mask = 0; mask < 1 << doors; mask++) {
                hopeless[mask] = hasHopelessPart(mask);
                if (!hopeless[mask] && Integer.bitCount(mask) > Integer.bitCount(found)) {
                    hopeless[mask] = costOf(mask) == NO_WAY;
                    found = hopeless[mask] ? found : mask;
                }
            }
            return found;
        }

        private boolean hasHopelessPart(int mask) {
            for (int d = 0; d < doors; d++) {
                if ((mask & 1 << d) != 0 && hopeless[mask & ~(1 << d)]) {
                    return true;
                }
            }
            return false;
        }

        /** Those by which the most is KEPT, of as good ones the fewest, then the least. */
        int safest() {
            int found = 0;
            for (int many = 0; many <= doors; many++) {
                for (int mask = 0; mask < 1 << doors; mask++) {
                    if (Integer.bitCount(mask) == many) {
                        hopeless[mask] = hasHopelessPart(mask);
                        if (!hopeless[mask] && keptBy[mask] > keptBy[found]) {
                            hopeless[mask] = costOf(mask) == NO_WAY;
                            found = hopeless[mask] ? found : mask;
                        }
                    }
                }
            }
            return found;
        }

        /** Those by which v is KEPT at the least cost, of as cheap ones the least; NONE, if it can't be. */
        int cheapest(int v) {
            int found = NONE;
            int least = NO_WAY;
            for (int mask = 0; mask < 1 << doors && least > 0; mask++) {
                int many = Math.min(2 * Integer.bitCount(mask), hinges);
                if (leastFees[many] < least && isNeeded(mask, v)) {
                    int cost = costOf(mask);
                    if (cost < least) {
                        least = cost;
                        found = mask;
                    }
                }
            }
            return found;
        }

        /** Whether v is KEPT by these DOORS and would not be without any of them: more than that costs no less. */
        private boolean isNeeded(int mask, int v) {
            if (keptBy[mask] < v) {
                return false;
            }
            for (int d = 0; d < doors; d++) {
                if ((mask & 1 << d) != 0 && keptBy[mask & ~(1 << d)] >= v) {
                    return false;
                }
            }
            return true;
        }

        /** The fewest changes by which v is KEPT, and the least HANGING with so few. */
        boolean findChange(int v) {
            leastKey = NO_KEY;
            for (int mask = 0; mask < 1 << doors; mask++) {
                if (isNeeded(mask, v)) {
                    tryPairs(mask, 0, 0);
                }
            }
            if (leastKey == NO_KEY) {
                return false;
            }
            long key = leastKey;
            for (int d = doors - 1; d >= 0; d--) {
                chosen[d] = (int) (key & 4095);
                key >>= MAX_HINGES;
            }
            changes = (int) key;
            return true;
        }

        private void tryPairs(int mask, int d, int used) {
            if (d >= doors) {
                weigh(mask, used);
                return;
            }
            if ((mask & 1 << d) == 0) {
                tryPairs(mask, d + 1, used);
                return;
            }
            int from = d * MOST_PAIRS;
            for (int at = from; at < from + pairCount[d]; at++) {
                if ((pairs[at] & used) == 0) {
                    chosen[d] = pairs[at];
                    tryPairs(mask, d + 1, used | pairs[at]);
                }
            }
        }

        /** DOORS that need not be shut keep what is not used: to take it down would be a change for nothing. */
        private void weigh(int mask, int used) {
            int moved = 0;
            int displaced = 0;
            long hanging = 0;
            for (int d = 0; d < doors; d++) {
                int set = hungNow[d] & ~used;
                if ((mask & 1 << d) != 0) {
                    set = chosen[d];
                    moved |= set & ~hungNow[d];
                    displaced |= hungNow[d] & ~used;
                }
                hanging = hanging << MAX_HINGES | set;
            }
            long key = (long) Integer.bitCount(moved | displaced) << MAX_HINGES * doors | hanging;
            leastKey = Math.min(leastKey, key);
        }
    }

    /** A THIEF's ways, and the CREAKS that were heard of him. */
    static final class Thief {
        static final int MOST_HEARD = 12;
        static final int SHUT_DOOR = -1;
        static final int FAR = 1 << 20;

        final int[] creaks = new int[MAX_DOORS];
        final int[] heardCreaks = new int[MOST_HEARD];
        // From each ROOM, behind so many CREAKS: in how many ways the rest can be gone.
        final long[] waysLeft = new long[(MOST_HEARD + 1) * ROOMS];
        final int[] far = new int[ROOMS];
        int size;

        boolean hear(int creak) {
            if (size >= MOST_HEARD) {
                return false;
            }
            heardCreaks[size] = creak;
            size++;
            return true;
        }

        void listen(Town town, Rule rule) {
            for (int d = 0; d < town.doors; d++) {
                int set = town.hung[d];
                creaks[d] = town.shutBy(d, set) ? SHUT_DOOR : rule.creakOf(town, d, set);
            }
        }

        /** Where a DOOR leads to from a ROOM, or NONE. */
        private static int beyond(Town town, int d, int room) {
            if (town.roomA[d] == room) {
                return town.roomB[d];
            }
            return town.roomB[d] == room ? town.roomA[d] : NONE;
        }

        // A DOOR counts 1 beside 16 for each CREAK: a way has 7 at most, so they only part equally quiet ways.
        private int lengthOf(int d) {
            return creaks[d] * 16 + 1;
        }

        int quietWay(Town town, int room, Row told) {
            measureTo(town, room);
            if (far[0] >= FAR) {
                return -2;
            }
            told.clear();
            int here = 0;
            for (int step = 0; step < ROOMS && here != room; step++) {
                int d = doorOnTheWay(town, here);
                if (d == NONE) {
                    break;
                }
                told.add(d);
                here = beyond(town, d, here);
            }
            return far[0] / 16;
        }

        private void measureTo(Town town, int room) {
            for (int k = 0; k < ROOMS; k++) {
                far[k] = k == room ? 0 : FAR;
            }
            for (int round = 0; round < ROOMS; round++) {
                for (int d = 0; d < town.doors; d++) {
                    if (creaks[d] != SHUT_DOOR) {
                        int a = town.roomA[d];
                        int b = town.roomB[d];
                        far[a] = Math.min(far[a], far[b] + lengthOf(d));
                        far[b] = Math.min(far[b], far[a] + lengthOf(d));
                    }
                }
            }
        }

        private int doorOnTheWay(Town town, int here) {
            for (int d = 0; d < town.doors; d++) {
                int there = beyond(town, d, here);
                if (there != NONE && creaks[d] != SHUT_DOOR && far[there] + lengthOf(d) == far[here]) {
                    return d;
                }
            }
            return NONE;
        }

        /** How many ways there are that do not go through one DOOR (NONE: through any). */
        long countWays(Town town, int avoided) {
            for (int room = 0; room < ROOMS; room++) {
                waysLeft[size * ROOMS + room] = 1;
            }
            for (int k = size - 1; k >= 0; k--) {
                for (int room = 0; room < ROOMS; room++) {
                    long sum = 0;
                    for (int d = 0; d < town.doors; d++) {
                        sum += d == avoided ? 0 : waysThrough(town, k, room, d);
                    }
                    waysLeft[k * ROOMS + room] = sum;
                }
            }
            return waysLeft[0];
        }

        /** Ways on from a ROOM, if CREAK k was that of this DOOR: 0, if it can't be. */
        private long waysThrough(Town town, int k, int room, int d) {
            int there = beyond(town, d, room);
            if (there == NONE || creaks[d] != heardCreaks[k]) {
                return 0;
            }
            return waysLeft[(k + 1) * ROOMS + there];
        }

        int roomsBehind(Town town, int k) {
            int rooms = waysLeft[0] > 0 ? 1 : 0;
            for (int step = 0; step < k; step++) {
                int after = 0;
                for (int d = 0; d < town.doors; d++) {
                    after |= roomsThrough(town, step, rooms, d);
                }
                rooms = after;
            }
            return rooms;
        }

        /** ROOMS to which ways lead on from these through a DOOR at CREAK k. */
        private int roomsThrough(Town town, int k, int rooms, int d) {
            int after = 0;
            for (int room = 0; room < ROOMS; room++) {
                if ((rooms & 1 << room) != 0 && waysThrough(town, k, room, d) > 0) {
                    after |= 1 << beyond(town, d, room);
                }
            }
            return after;
        }

        void leastWay(Town town, Row told) {
            int here = 0;
            for (int k = 0; k < size && waysLeft[0] > 0; k++) {
                int d = 0;
                while (d < town.doors - 1 && waysThrough(town, k, here, d) == 0) {
                    d++;
                }
                told.add(d);
                here = beyond(town, d, here);
            }
        }

        int doorsOfAllWays(Town town) {
            int set = 0;
            for (int d = 0; d < town.doors; d++) {
                set |= countWays(town, d) == 0 ? 1 << d : 0;
            }
            return set;
        }

        int doorsOfSomeWay(Town town) {
            int set = 0;
            for (int k = 0; k < size; k++) {
                int rooms = roomsBehind(town, k);
                for (int d = 0; d < town.doors; d++) {
                    set |= roomsThrough(town, k, rooms, d) != 0 ? 1 << d : 0;
                }
            }
            return set;
        }
    }
}
