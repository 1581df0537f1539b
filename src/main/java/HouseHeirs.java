/**
 * Houses that inherit: built from one another, leaning on one another by walls, owning people.
 * The document ../shared/DOC.md tells what each call answers; words in capitals are its terms.
 */
public final class HouseHeirs {
    public static final int NONE = -1, BAD = -2, NO = -3, FULL = -4;

    private static final int MOST_HOUSES = 5;
    private static final int MOST_PEOPLE = 6;
    private static final int FAMILIES = 4;
    private static final int MOST_BYTES = 150;
    /** No ITEM is shorter than 7 bytes, so THE TEXT never holds more than 21 of them. */
    private static final int MOST_ITEMS = 24;
    private static final int MOST_UNDO = 8;
    private static final int YEARS_AHEAD = 60;

    private static final int KINDS = 6;
    private static final int LAW = 0, ROOMY = 1, DEAR = 2, QUIET = 3, OPEN = 4, HOARD = 5;
    private static final int NO_RANK = 1000;
    private static final int OPEN_RANK = 9;
    private static final int DOOR_GAIN = 3;
    private static final int OLD_BEAMS = 100;
    private static final int IS_HEIR_NOW = 99;
    private static final int NOT_SO_MANY = -5;

    private final Street now = new Street();
    /** What may come is tried out here, so that the street itself stays as it is. */
    private final Street trial = new Street();
    private final Past past = new Past();
    private final Image image0 = new Image();
    private final Image image1 = new Image();
    private final Text text = new Text();
    private final Orders orders = new Orders();
    private final Lodgings lodgings = new Lodgings();
    private long above = 0;
    private long below = 1;
    private int bads = 0;
    private int nos = 0;
    private int fulls = 0;

    public HouseHeirs() {
    }

    // ---- a street

    public int street() {
        int before = now.houses;
        now.empty();
        past.forget();
        return before;
    }

    public int house(int rooms, int worth, int beams) {
        return told(now.addHouse(rooms, worth, beams), BAD);
    }

    public int builtFrom(int house, int from) {
        return told(now.setFrom(house, from), -10);
    }

    public int will(int house, int kind) {
        return told(now.setWill(house, kind), BAD);
    }

    public int wall(int a, int b, boolean is) {
        return told(now.setWall(a, b, is), BAD);
    }

    public int one(int family, int house) {
        return told(now.addOne(family, house), BAD);
    }

    public int feud(int a, int b, boolean is) {
        return told(now.setFeud(a, b, is), BAD);
    }

    public int mark(int house, int marks) {
        return told(now.setMarks(house, marks), BAD);
    }

    public int type(int c) {
        if (c < 0 || c > 127) {
            return refused(BAD, BAD);
        }
        if (text.length >= MOST_BYTES) {
            return refused(FULL, FULL);
        }
        return text.append(c);
    }

    public int clear() {
        int before = text.length;
        text.length = 0;
        return before;
    }

    public int read() {
        int fault = text.parse();
        if (fault != NONE) {
            return -10 - fault;
        }
        int item = text.tellTo(trial);
        if (item != NONE) {
            return -1000 - item;
        }
        now.takeFrom(trial);
        past.forget();
        return text.items;
    }

    // ---- falls, years

    public int fall(int house) {
        if (!now.has(house)) {
            return refused(BAD, -10);
        }
        if (!now.stands(house)) {
            return refused(NO, -20);
        }
        past.keep(now);
        return now.letFall(house);
    }

    public int year(int n) {
        if (n < 1 || n > 20) {
            return refused(BAD, BAD);
        }
        for (int i = 0; i < n; i++) {
            past.keep(now);
            now.passYear();
        }
        return Integer.bitCount(now.standing);
    }

    public int move(int one, int house) {
        if (!now.hasOne(one) || (house != NONE && !now.has(house))) {
            return refused(BAD, -10);
        }
        if ((house != NONE && !now.stands(house)) || now.where[one] == house) {
            return refused(NO, -20);
        }
        int before = now.where[one];
        past.keep(now);
        now.where[one] = house;
        return before;
    }

    public int undo() {
        if (past.size == 0) {
            return refused(NO, NO);
        }
        past.bringBack(now);
        return 1;
    }

    public int of(int house, int what) {
        if (!now.has(house)) {
            return refused(BAD, -10);
        }
        switch (what) {
            case 0: return now.rooms[house];
            case 1: return now.worth[house];
            case 2: return now.beams[house];
            case 3: return now.from[house];
            case 4: return now.will[house];
            case 5: return now.stands(house) ? 1 : 0;
            case 6: return now.dwellerBits(house);
            case 7: return now.marks[house];
            default: return refused(BAD, -10);
        }
    }

    public int who(int one, int what) {
        if (!now.hasOne(one) || what < 0 || what > 1) {
            return refused(BAD, -10);
        }
        return what == 0 ? now.family[one] : now.where[one];
    }

    // ---- kin, heirs

    public int degree(int a, int b) {
        if (!now.has(a) || !now.has(b)) {
            return refused(BAD, BAD);
        }
        return now.degreeOf(a, b);
    }

    public int rank(int house, int other) {
        if (!now.hasTwo(house, other)) {
            return refused(BAD, -1000);
        }
        return now.rankOf(house, other);
    }

    public int heir(int house) {
        if (!now.has(house)) {
            return refused(BAD, -10);
        }
        return now.heirOf(house);
    }

    public int wills(int house, int other) {
        if (!now.hasTwo(house, other)) {
            return refused(BAD, BAD);
        }
        int bits = 0;
        for (int kind = 0; kind < KINDS; kind++) {
            if (now.heirBy(kind, house, 0) == other) {
                bits |= 1 << kind;
            }
        }
        return bits;
    }

    public int buildFor(int house, int other) {
        if (!now.hasTwo(house, other)) {
            return refused(BAD, BAD);
        }
        if (now.heirOf(house) == other) {
            return IS_HEIR_NOW;
        }
        trial.takeFrom(now);
        for (int a = 0; a < trial.houses; a++) {
            for (int b = a + 1; b < trial.houses; b++) {
                if (trial.mayWall(a, b) && heirByWall(house, a, b) == other) {
                    return 10 * a + b;
                }
            }
        }
        return NONE;
    }

    public int adopts(int a, int b) {
        if (!now.hasTwo(a, b)) {
            return refused(BAD, BAD);
        }
        if (!now.mayWall(a, b)) {
            return refused(NO, NO);
        }
        trial.takeFrom(now);
        int others = 0;
        for (int house = 0; house < now.houses; house++) {
            if (heirByWall(house, a, b) != now.heirOf(house)) {
                others++;
            }
        }
        return others;
    }

    // ---- what comes

    public int lives(int one, int m) {
        if (!now.hasOne(one) || m < 0 || m > YEARS_AHEAD) {
            return refused(BAD, -10);
        }
        lookAhead(m);
        return trial.where[one];
    }

    public int stand(int m) {
        if (m < 0 || m > YEARS_AHEAD) {
            return refused(BAD, BAD);
        }
        lookAhead(m);
        return trial.standing;
    }

    public int overfull(int what) {
        if (what < 0 || what > 1) {
            return refused(BAD, -10);
        }
        trial.takeFrom(now);
        for (int ahead = 0; ahead <= YEARS_AHEAD; ahead++) {
            int house = trial.firstOverfull();
            if (house != NONE) {
                return what == 0 ? ahead : house;
            }
            trial.passYear();
        }
        return NONE;
    }

    public int orders(int houses, int one, int house, int i) {
        boolean known = (houses & ~now.standing) == 0 && now.hasOne(one);
        if (!known || (house != NONE && !now.has(house)) || i < NONE) {
            return refused(BAD, -10);
        }
        orders.seek(now, houses, one, house);
        if (i == NONE) {
            return orders.found;
        }
        if (orders.found == 0) {
            return NONE;
        }
        if (i >= Integer.bitCount(houses) || i >= MOST_HOUSES) {
            return NOT_SO_MANY;
        }
        return orders.first[i];
    }

    public int safe(int one) {
        if (!now.hasOne(one)) {
            return refused(BAD, BAD);
        }
        int bits = 0;
        for (int kind = 0; kind < KINDS; kind++) {
            if (now.standing == 0 || orders.isSafe(now, kind, one)) {
                bits |= 1 << kind;
            }
        }
        return bits;
    }

    public int moves(int i) {
        if (i < NONE) {
            return refused(BAD, -10);
        }
        int fewest = lodgings.seek(now);
        if (fewest == NONE || i == NONE) {
            return fewest;
        }
        if (i >= now.people || i >= MOST_PEOPLE) {
            return NOT_SO_MANY;
        }
        return lodgings.best[i];
    }

    // ---- shares, plaster, doors

    public int share(int house) {
        if (!now.has(house)) {
            return refused(BAD, BAD);
        }
        int sharers = now.nearestKin(house);
        above = sharers == 0 ? 0 : now.worth[house];
        below = sharers == 0 ? 1 : sharers;
        lowerFraction();
        return sharers;
    }

    public int plaster(int d, int x) {
        if (d < 0 || d > 8 || (x != NONE && !now.has(x))) {
            return refused(BAD, -10);
        }
        if (x != NONE) {
            return onlyBit(now.begetters(x, d));
        }
        int ways = 1;
        for (int h = 1; h < now.houses; h++) {
            ways *= Integer.bitCount(now.begetters(h, d));
        }
        return ways;
    }

    public int gables(int d) {
        if (d < 0 || d > 8) {
            return refused(BAD, BAD);
        }
        int bits = 0;
        for (int h = 1; h < now.houses; h++) {
            if (now.begetters(h, d) == 0) {
                bits |= 1 << h;
            }
        }
        return bits;
    }

    public int doors(int a, int b, int falls, int what) {
        boolean apart = a != falls && b != falls && now.hasTwo(a, b) && now.has(falls);
        if (!apart || what < 0 || what > 1) {
            return refused(BAD, -10);
        }
        if (!now.stands(a) || !now.stands(b) || !now.stands(falls)) {
            return refused(NO, -20);
        }
        int resting = 0;
        int first = NONE;
        for (int pair = 0; pair < 4; pair++) {
            int doorA = pair >> 1;
            int doorB = pair & 1;
            if (rests(a, b, falls, doorA, doorB)) {
                first = resting == 0 ? 10 * doorA + doorB : first;
                resting++;
            }
        }
        return what == 0 ? resting : first;
    }

    public int drawn(int seed, int m) {
        if (seed < 0 || seed > 999999 || m < 0 || m > 5) {
            return refused(BAD, BAD);
        }
        trial.takeFrom(now);
        long x = seed;
        for (int i = 0; i < m; i++) {
            int left = Integer.bitCount(trial.standing);
            if (left > 0) {
                x = (x * 1103515245L + 12345L) % 2147483648L;
                trial.letFall(trial.nthStanding((int) (x / 65536 % left)));
            }
        }
        return trial.dwellers(NONE);
    }

    // ---- what there is

    public long part(int what) {
        if (what < 0 || what > 1) {
            return refused(BAD, BAD);
        }
        return what == 0 ? above : below;
    }

    public int image(int i) {
        if (i < 0 || i > 1) {
            return refused(BAD, BAD);
        }
        imageAt(i).keep(now, past);
        return 1;
    }

    public int from(int i) {
        if (i < 0 || i > 1) {
            return refused(BAD, BAD);
        }
        if (!imageAt(i).kept) {
            return refused(NO, NO);
        }
        imageAt(i).giveBack(now, past);
        return 1;
    }

    public int status(int what) {
        switch (what) {
            case 0: return bads;
            case 1: return nos;
            case 2: return fulls;
            default: return refused(BAD, -1);
        }
    }

    public int count(int what) {
        if (what < 0 || what > 8) {
            return refused(BAD, BAD);
        }
        return amount(what);
    }

    public long digest() {
        long h = 967;
        for (int what = 0; what <= 8; what++) {
            h = 31 * h + amount(what);
        }
        h = now.addTo(h);
        h = 31 * h + above;
        return 31 * h + below;
    }

    // ---- what the calls have in common

    /** The answer of a call that tells of HOUSES, PEOPLE, WALLS or FEUDS: those leave nothing to undo. */
    private int told(int answer, int badAnswer) {
        if (answer == BAD) {
            return refused(BAD, badAnswer);
        }
        if (answer < NONE) {
            return refused(answer, answer);
        }
        past.forget();
        return answer;
    }

    private int refused(int why, int answer) {
        if (why == BAD) {
            bads++;
        } else if (why == NO) {
            nos++;
        } else if (why == FULL) {
            fulls++;
        }
        return answer;
    }

    private Image imageAt(int i) {
        return i == 0 ? image0 : image1;
    }

    private int amount(int what) {
        switch (what) {
            case 0: return now.houses;
            case 1: return Integer.bitCount(now.standing);
            case 2: return now.people;
            case 3: return now.dwellers(NONE);
            case 4: return now.wallsInAll();
            case 5: return now.feudsInAll();
            case 6: return now.year;
            case 7: return past.size;
            case 8: return text.length;
            default: return 0;
        }
    }

    private void lookAhead(int years) {
        trial.takeFrom(now);
        for (int i = 0; i < years; i++) {
            trial.passYear();
        }
    }

    /** The HEIR on the trial street if it had a WALL more; the WALL is taken away again. */
    private int heirByWall(int house, int a, int b) {
        trial.setWall(a, b, true);
        int found = trial.heirOf(house);
        trial.setWall(a, b, false);
        return found;
    }

    private boolean rests(int a, int b, int falls, int doorA, int doorB) {
        int open = (doorA << a) | (doorB << b);
        int otherA = open ^ (1 << a);
        int otherB = open ^ (1 << b);
        return gain(a, falls, open) >= gain(a, falls, otherA)
            && gain(b, falls, open) >= gain(b, falls, otherB);
    }

    /** What a HOUSE gets if another one falls while the doors of some (bits) are open. */
    private int gain(int house, int falls, int open) {
        boolean inherits = now.heirBy(now.will[falls], falls, open) == house;
        int come = inherits ? now.dwellers(falls) : 0;
        int tooMany = Math.max(0, now.dwellers(house) + come - now.rooms[house]);
        return 2 * come - tooMany - (open >> house & 1);
    }

    /** At most four HOUSES share, so small divisors are enough for the lowest terms. */
    private void lowerFraction() {
        for (long d = MOST_HOUSES; d > 1; d--) {
            if (above % d == 0 && below % d == 0) {
                above /= d;
                below /= d;
            }
        }
    }

    /** The place of the bit that stands alone; NONE if there is not just one. */
    private static int onlyBit(int bits) {
        for (int h = 0; h < MOST_HOUSES; h++) {
            if (bits == 1 << h) {
                return h;
            }
        }
        return NONE;
    }

    private static void copyRow(int[] source, int[] target) {
        int length = Math.min(source.length, target.length);
        System.arraycopy(source, 0, target, 0, length);
    }

    // ---- the street itself

    /** HOUSES, PEOPLE, WALLS, FEUDS and the YEAR; what is refused answers BAD, NO or FULL and changes nothing. */
    private static final class Street {
        private int houses = 0;
        private int standing = 0;
        private int people = 0;
        private int year = 0;
        private final int[] rooms = new int[MOST_HOUSES];
        private final int[] worth = new int[MOST_HOUSES];
        private final int[] beams = new int[MOST_HOUSES];
        private final int[] from = new int[MOST_HOUSES];
        private final int[] will = new int[MOST_HOUSES];
        private final int[] marks = new int[MOST_HOUSES];
        private final int[] walls = new int[MOST_HOUSES];
        private final int[] family = new int[MOST_PEOPLE];
        private final int[] where = new int[MOST_PEOPLE];
        private final int[] feuds = new int[FAMILIES];
        // What was measured last, for one HOUSE that may fall; nothing that lasts.
        private final int[] steps = new int[MOST_HOUSES];
        private final int[] living = new int[MOST_HOUSES];
        private final int[] families = new int[MOST_HOUSES];

        private void empty() {
            houses = 0;
            standing = 0;
            people = 0;
            year = 0;
            for (int h = 0; h < MOST_HOUSES; h++) {
                walls[h] = 0;
            }
            for (int f = 0; f < FAMILIES; f++) {
                feuds[f] = 0;
            }
        }

        private void takeFrom(Street other) {
            houses = other.houses;
            standing = other.standing;
            people = other.people;
            year = other.year;
            copyRow(other.rooms, rooms);
            copyRow(other.worth, worth);
            copyRow(other.beams, beams);
            copyRow(other.from, from);
            copyRow(other.will, will);
            copyRow(other.marks, marks);
            copyRow(other.walls, walls);
            copyRow(other.family, family);
            copyRow(other.where, where);
            copyRow(other.feuds, feuds);
        }

        // ---- telling

        private int addHouse(int roomCount, int value, int age) {
            if (roomCount < 1 || roomCount > 9 || value < 0 || value > 99 || age < 0 || age > 99) {
                return BAD;
            }
            if (houses >= MOST_HOUSES) {
                return FULL;
            }
            int house = houses;
            rooms[house] = roomCount;
            worth[house] = value;
            beams[house] = age;
            from[house] = NONE;
            will[house] = LAW;
            marks[house] = 0;
            standing |= 1 << house;
            houses++;
            return house;
        }

        private int setFrom(int house, int parent) {
            if (!has(house) || parent < NONE || parent >= house) {
                return BAD;
            }
            int before = from[house];
            from[house] = parent;
            return before;
        }

        private int setWill(int house, int kind) {
            if (!has(house) || kind < 0 || kind >= KINDS) {
                return BAD;
            }
            int before = will[house];
            will[house] = kind;
            return before;
        }

        private int setWall(int a, int b, boolean is) {
            if (!hasTwo(a, b)) {
                return BAD;
            }
            if (hasWall(a, b) == is) {
                return NO;
            }
            walls[a] ^= 1 << b;
            walls[b] ^= 1 << a;
            return 1;
        }

        private int addOne(int kin, int house) {
            if (kin < 0 || kin >= FAMILIES || (house != NONE && !has(house))) {
                return BAD;
            }
            if (house != NONE && !stands(house)) {
                return NO;
            }
            if (people >= MOST_PEOPLE) {
                return FULL;
            }
            family[people] = kin;
            where[people] = house;
            people++;
            return people - 1;
        }

        private int setFeud(int a, int b, boolean is) {
            if (a < 0 || a >= FAMILIES || b < 0 || b >= FAMILIES || a == b) {
                return BAD;
            }
            if (hasFeud(a, b) == is) {
                return NO;
            }
            feuds[a] ^= 1 << b;
            feuds[b] ^= 1 << a;
            return 1;
        }

        private int setMarks(int house, int bits) {
            if (!has(house) || bits < 0 || bits > 255) {
                return BAD;
            }
            int before = marks[house];
            marks[house] = bits;
            return before;
        }

        // ---- asking

        private boolean has(int house) {
            return house >= 0 && house < houses && house < MOST_HOUSES;
        }

        private boolean hasTwo(int a, int b) {
            return has(a) && has(b) && a != b;
        }

        private boolean hasOne(int one) {
            return one >= 0 && one < people && one < MOST_PEOPLE;
        }

        private boolean stands(int house) {
            return house >= 0 && house < MOST_HOUSES && (standing >> house & 1) == 1;
        }

        private boolean hasWall(int a, int b) {
            return has(a) && has(b) && (walls[a] >> b & 1) == 1;
        }

        private boolean mayWall(int a, int b) {
            return stands(a) && stands(b) && !hasWall(a, b);
        }

        private boolean hasFeud(int a, int b) {
            return a >= 0 && a < FAMILIES && b >= 0 && b < FAMILIES && (feuds[a] >> b & 1) == 1;
        }

        /** How many live in a HOUSE; of NONE, how many SLEEP OUT. */
        private int dwellers(int house) {
            int found = 0;
            for (int p = 0; p < people; p++) {
                if (where[p] == house) {
                    found++;
                }
            }
            return found;
        }

        private int dwellerBits(int house) {
            int bits = 0;
            for (int p = 0; p < people; p++) {
                if (where[p] == house) {
                    bits |= 1 << p;
                }
            }
            return bits;
        }

        private boolean isOverfull(int house) {
            return stands(house) && dwellers(house) > rooms[house];
        }

        private int firstOverfull() {
            for (int h = 0; h < houses; h++) {
                if (isOverfull(h)) {
                    return h;
                }
            }
            return NONE;
        }

        private int nthStanding(int n) {
            int passed = 0;
            for (int h = 0; h < houses; h++) {
                if (stands(h)) {
                    if (passed == n) {
                        return h;
                    }
                    passed++;
                }
            }
            return NONE;
        }

        private int wallsInAll() {
            int ends = 0;
            for (int h = 0; h < houses; h++) {
                ends += Integer.bitCount(walls[h]);
            }
            return ends / 2;
        }

        private int feudsInAll() {
            int ends = 0;
            for (int f = 0; f < FAMILIES; f++) {
                ends += Integer.bitCount(feuds[f]);
            }
            return ends / 2;
        }

        // ---- kin, heirs

        private int kinBits(int house) {
            int bits = (standing >> house & 1) == 1 ? walls[house] & standing : 0;
            for (int h = 0; h < houses; h++) {
                if (from[h] == house || from[house] == h) {
                    bits |= 1 << h;
                }
            }
            return bits;
        }

        /** Fills the row of steps: rings of KIN, one around the other. */
        private void measureSteps(int house) {
            for (int h = 0; h < MOST_HOUSES; h++) {
                steps[h] = NONE;
            }
            int reached = 1 << house;
            int ring = reached;
            for (int step = 0; step < MOST_HOUSES && ring != 0; step++) {
                int next = 0;
                for (int h = 0; h < houses; h++) {
                    if ((ring >> h & 1) == 1) {
                        steps[h] = step;
                        next |= kinBits(h);
                    }
                }
                ring = next & ~reached;
                reached |= next;
            }
        }

        /** Fills the rows of how many, and of which FAMILIES (bits), live in the HOUSES. */
        private void measureDwellers() {
            for (int h = 0; h < MOST_HOUSES; h++) {
                living[h] = 0;
                families[h] = 0;
            }
            for (int p = 0; p < people; p++) {
                int house = where[p];
                if (has(house)) {
                    living[house]++;
                    families[house] |= 1 << family[p];
                }
            }
        }

        private int degreeOf(int a, int b) {
            if (!has(a) || !has(b)) {
                return NONE;
            }
            measureSteps(a);
            return steps[b];
        }

        private int rankOf(int house, int other) {
            if (!stands(house) || !stands(other)) {
                return NO_RANK;
            }
            measureSteps(house);
            measureDwellers();
            return measuredRank(will[house], house, other);
        }

        /** The RANK of another HOUSE, by what was measured for the one that falls. */
        private int measuredRank(int kind, int house, int other) {
            int law = steps[other] == NONE ? NO_RANK : steps[other];
            int open = law == NO_RANK ? OPEN_RANK : law;
            boolean roomy = rooms[other] - living[other] >= living[house];
            switch (kind) {
                case LAW: return law;
                case ROOMY: return roomy ? law : NO_RANK;
                case DEAR: return law == NO_RANK ? NO_RANK : 10 * law - worth[other] / 10;
                case QUIET: return roomy && isQuiet(families[house], families[other]) ? law : NO_RANK;
                case OPEN: return open;
                case HOARD: return open - 2 * living[other];
                default: return NO_RANK;
            }
        }

        /** Whether no FEUD is between two sets of FAMILIES (bits). */
        private boolean isQuiet(int some, int others) {
            for (int f = 0; f < FAMILIES; f++) {
                if ((some >> f & 1) == 1 && (feuds[f] & others) != 0) {
                    return false;
                }
            }
            return true;
        }

        private int heirOf(int house) {
            return has(house) ? heirBy(will[house], house, 0) : NONE;
        }

        /** THE HEIR by a KIND of WILL, while some HOUSES (bits) hold a door open. */
        private int heirBy(int kind, int house, int doorsOpen) {
            if (!stands(house)) {
                return NONE;
            }
            measureSteps(house);
            measureDwellers();
            int best = NONE;
            int least = NO_RANK;
            for (int h = 0; h < houses; h++) {
                if (h != house && stands(h)) {
                    int rank = measuredRank(kind, house, h);
                    if ((doorsOpen >> h & 1) == 1) {
                        rank = (rank == NO_RANK ? OPEN_RANK : rank) - DOOR_GAIN;
                    }
                    if (rank < least) {
                        least = rank;
                        best = h;
                    }
                }
            }
            return best;
        }

        /** How many KIN that STAND share; all are of the least DEGREE. */
        private int nearestKin(int house) {
            if (!has(house)) {
                return 0;
            }
            measureSteps(house);
            int least = MOST_HOUSES;
            int sharers = 0;
            for (int h = 0; h < houses; h++) {
                if (h != house && stands(h) && steps[h] != NONE && steps[h] <= least) {
                    sharers = steps[h] < least ? 1 : sharers + 1;
                    least = steps[h];
                }
            }
            return sharers;
        }

        /** HOUSES (bits) that may have begotten one, by their MARKS. */
        private int begetters(int house, int d) {
            int bits = 0;
            for (int h = 0; h < house && has(house); h++) {
                if (Integer.bitCount(marks[h] ^ marks[house]) <= d) {
                    bits |= 1 << h;
                }
            }
            return bits;
        }

        // ---- falls, years

        private int letFall(int house) {
            if (!stands(house)) {
                return NONE;
            }
            int next = heirBy(will[house], house, 0);
            for (int p = 0; p < people; p++) {
                if (where[p] == house) {
                    where[p] = next;
                }
            }
            standing &= ~(1 << house);
            return next;
        }

        private void passYear() {
            year++;
            for (int h = 0; h < houses; h++) {
                if (stands(h)) {
                    beams[h] += isOverfull(h) ? 2 : 1;
                }
            }
            for (int h = 0; h < houses; h++) {
                if (stands(h) && beams[h] >= OLD_BEAMS) {
                    letFall(h);
                }
            }
        }

        // ---- the digest's part

        private long addTo(long before) {
            long h = before;
            for (int i = 0; i < houses; i++) {
                h = 31 * h + rooms[i];
                h = 31 * h + worth[i];
                h = 31 * h + beams[i];
                h = 31 * h + from[i];
                h = 31 * h + will[i];
                h = 31 * h + (stands(i) ? 1 : 0);
                h = 31 * h + marks[i];
            }
            for (int a = 0; a < houses; a++) {
                for (int b = a + 1; b < houses; b++) {
                    h = 31 * h + (hasWall(a, b) ? 1 : 0);
                }
            }
            for (int p = 0; p < people; p++) {
                h = 31 * h + family[p];
                h = 31 * h + where[p];
            }
            for (int a = 0; a < FAMILIES; a++) {
                for (int b = a + 1; b < FAMILIES; b++) {
                    h = 31 * h + (hasFeud(a, b) ? 1 : 0);
                }
            }
            return h;
        }
    }

    // ---- what may be undone

    /** The last few states ahead of a YEAR, a fall or one that moved, in a ring: the oldest gives way. */
    private static final class Past {
        private int size = 0;
        private int next = 0;
        private final int[] standing = new int[MOST_UNDO];
        private final int[] year = new int[MOST_UNDO];
        private final int[][] beams = new int[MOST_UNDO][MOST_HOUSES];
        private final int[][] where = new int[MOST_UNDO][MOST_PEOPLE];

        private void forget() {
            size = 0;
            next = 0;
        }

        private void keep(Street street) {
            int slot = Math.floorMod(next, MOST_UNDO);
            standing[slot] = street.standing;
            year[slot] = street.year;
            copyRow(street.beams, beams[slot]);
            copyRow(street.where, where[slot]);
            next = Math.floorMod(slot + 1, MOST_UNDO);
            size = Math.min(size + 1, MOST_UNDO);
        }

        private void bringBack(Street street) {
            if (size == 0) {
                return;
            }
            int slot = Math.floorMod(next - 1, MOST_UNDO);
            street.standing = standing[slot];
            street.year = year[slot];
            copyRow(beams[slot], street.beams);
            copyRow(where[slot], street.where);
            next = slot;
            size--;
        }

        private void takeFrom(Past other) {
            size = other.size;
            next = other.next;
            copyRow(other.standing, standing);
            copyRow(other.year, year);
            for (int i = 0; i < MOST_UNDO; i++) {
                copyRow(other.beams[i], beams[i]);
                copyRow(other.where[i], where[i]);
            }
        }
    }

    private static final class Image {
        private boolean kept = false;
        private final Street street = new Street();
        private final Past past = new Past();

        private void keep(Street nowStreet, Past nowPast) {
            street.takeFrom(nowStreet);
            past.takeFrom(nowPast);
            kept = true;
        }

        private void giveBack(Street nowStreet, Past nowPast) {
            nowStreet.takeFrom(street);
            nowPast.takeFrom(past);
        }
    }

    // ---- what comes in every order

    /** Tries the orders in which HOUSES may fall, the lesser HOUSE ahead. */
    private static final class Orders {
        private final Street street = new Street();
        private final int[] standingAt = new int[MOST_HOUSES];
        private final int[][] whereAt = new int[MOST_HOUSES][MOST_PEOPLE];
        private final int[] order = new int[MOST_HOUSES];
        private final int[] first = new int[MOST_HOUSES];
        private int found = 0;

        /** Counts the orders by which one lives in a HOUSE at last and keeps the first of them. */
        private void seek(Street now, int falling, int one, int goal) {
            street.takeFrom(now);
            found = 0;
            if (street.hasOne(one)) {
                tryOrders(this, 0, falling, one, goal);
            }
        }

        private static void tryOrders(Orders o, int depth, int left, int one, int goal) {
            if (left == 0) {
                o.atLast(one, goal);
                return;
            }
            if (depth >= MOST_HOUSES) {
                return;
            }
            o.keep(depth);
            for (int h = 0; h < MOST_HOUSES; h++) {
                if ((left >> h & 1) == 1) {
                    o.order[depth] = h;
                    o.street.letFall(h);
                    tryOrders(o, depth + 1, left & ~(1 << h), one, goal);
                    o.bringBack(depth);
                }
            }
        }

        private void atLast(int one, int goal) {
            if (street.where[one] == goal) {
                if (found == 0) {
                    copyRow(order, first);
                }
                found++;
            }
        }

        /** Whether one never SLEEPS OUT, were all WILLS of a KIND, whichever HOUSE is left. */
        private boolean isSafe(Street now, int kind, int one) {
            street.takeFrom(now);
            for (int h = 0; h < MOST_HOUSES; h++) {
                street.will[h] = kind;
            }
            return street.hasOne(one) && neverOut(this, 0, street.standing, one);
        }

        /** One who SLEEPS OUT never comes back by falls, so the first such fall decides. */
        private static boolean neverOut(Orders o, int depth, int left, int one) {
            if (o.street.where[one] == NONE) {
                return false;
            }
            if (Integer.bitCount(left) <= 1 || depth >= MOST_HOUSES) {
                return true;
            }
            o.keep(depth);
            for (int h = 0; h < MOST_HOUSES; h++) {
                if ((left >> h & 1) == 1) {
                    o.street.letFall(h);
                    if (!neverOut(o, depth + 1, left & ~(1 << h), one)) {
                        return false;
                    }
                    o.bringBack(depth);
                }
            }
            return true;
        }

        private void keep(int depth) {
            standingAt[depth] = street.standing;
            copyRow(street.where, whereAt[depth]);
        }

        private void bringBack(int depth) {
            street.standing = standingAt[depth];
            copyRow(whereAt[depth], street.where);
        }
    }

    // ---- where all may live

    /** Seeks where all PEOPLE may live with the fewest moves, the lesser HOUSE ahead. */
    private static final class Lodgings {
        private final int[] living = new int[MOST_HOUSES];
        private final int[] families = new int[MOST_HOUSES];
        private final int[] best = new int[MOST_PEOPLE];

        /** The fewest moves; NONE if there is no way. One more move is allowed at a time, so the first way found is it. */
        private int seek(Street now) {
            for (int h = 0; h < MOST_HOUSES; h++) {
                living[h] = 0;
                families[h] = 0;
            }
            for (int allowed = 0; allowed <= now.people; allowed++) {
                if (lodge(this, now, 0, allowed)) {
                    return allowed;
                }
            }
            return NONE;
        }

        private static boolean lodge(Lodgings l, Street now, int one, int allowed) {
            if (allowed < 0) {
                return false;
            }
            if (one >= now.people || one >= MOST_PEOPLE) {
                return true;
            }
            for (int h = 0; h < now.houses; h++) {
                if (l.mayLive(now, one, h)) {
                    int before = l.families[h];
                    l.families[h] |= 1 << now.family[one];
                    l.living[h]++;
                    l.best[one] = h;
                    if (lodge(l, now, one + 1, allowed - (now.where[one] == h ? 0 : 1))) {
                        return true;
                    }
                    l.living[h]--;
                    l.families[h] = before;
                }
            }
            return false;
        }

        private boolean mayLive(Street now, int one, int house) {
            return now.stands(house)
                && living[house] < now.rooms[house]
                && now.isQuiet(1 << now.family[one], families[house]);
        }
    }

    // ---- THE TEXT

    /** THE TEXT, and the STREET that it tells. */
    private static final class Text {
        private static final int END = 0, WORD = 1, NUMBER = 2, SEMICOLON = 3, NOTHING = 4;
        private static final int STREET = 0, HOUSE = 1, FROM = 2, WILL = 3, WALL = 4, ONE = 5, FEUD = 6;
        private static final int BLANK = 32;

        private final int[] bytes = new int[MOST_BYTES];
        private int length = 0;
        private final int[] itemKind = new int[MOST_ITEMS];
        private final int[][] itemNumbers = new int[MOST_ITEMS][3];
        private int items = 0;
        private int token = END;
        private int tokenStart = 0;
        private int tokenEnd = 0;

        private int append(int c) {
            if (length >= MOST_BYTES) {
                return FULL;
            }
            bytes[length] = c;
            length++;
            return length;
        }

        /** Keeps the ITEMS; the FAULT, NONE if there is none. */
        private int parse() {
            items = 0;
            tokenEnd = 0;
            nextToken();
            for (int n = 0; n < MOST_ITEMS; n++) {
                if (token == END && items > 0) {
                    return NONE;
                }
                if (!parseItem(n)) {
                    return tokenStart;
                }
                items++;
            }
            return token == END ? NONE : tokenStart;
        }

        /** Stops at the TOKEN that can not stand there. */
        private boolean parseItem(int n) {
            int kind = token == WORD ? wordKind() : NONE;
            boolean fits = n == 0 ? kind == STREET : kind > STREET;
            if (!fits) {
                return false;
            }
            itemKind[n] = kind;
            nextToken();
            int numbers = numbersOf(kind);
            for (int i = 0; i < numbers; i++) {
                if (token != NUMBER) {
                    return false;
                }
                itemNumbers[n][i] = tokenNumber();
                nextToken();
            }
            if (token != SEMICOLON) {
                return false;
            }
            nextToken();
            return true;
        }

        private static int numbersOf(int kind) {
            return kind == STREET ? 0 : kind == HOUSE ? 3 : 2;
        }

        private void nextToken() {
            int at = tokenEnd;
            while (at < length && bytes[at] == BLANK) {
                at++;
            }
            tokenStart = at;
            tokenEnd = at;
            if (at >= length) {
                token = END;
            } else if (isLetter(bytes[at])) {
                token = WORD;
                tokenEnd = runEnd(true);
            } else if (isFigure(bytes[at])) {
                tokenEnd = runEnd(false);
                token = tokenEnd - tokenStart <= 2 ? NUMBER : NOTHING;
            } else {
                token = bytes[at] == ';' ? SEMICOLON : NOTHING;
                tokenEnd = at + 1;
            }
        }

        /** Where the letters, or the figures, that stand together from the TOKEN's start on end. */
        private int runEnd(boolean letters) {
            int at = tokenStart;
            while (at < length && (letters ? isLetter(bytes[at]) : isFigure(bytes[at]))) {
                at++;
            }
            return at;
        }

        private static boolean isLetter(int c) {
            return c >= 'a' && c <= 'z';
        }

        private static boolean isFigure(int c) {
            return c >= '0' && c <= '9';
        }

        private int tokenNumber() {
            int number = 0;
            for (int i = tokenStart; i < tokenEnd && i < MOST_BYTES; i++) {
                number = 10 * number + bytes[i] - '0';
            }
            return number;
        }

        private int wordKind() {
            if (isWord("street")) {
                return STREET;
            }
            if (isWord("house")) {
                return HOUSE;
            }
            if (isWord("from")) {
                return FROM;
            }
            if (isWord("will")) {
                return WILL;
            }
            if (isWord("wall")) {
                return WALL;
            }
            if (isWord("one")) {
                return ONE;
            }
            return isWord("feud") ? FEUD : NONE;
        }

        private boolean isWord(String word) {
            int size = word.length();
            if (tokenEnd - tokenStart != size || tokenEnd > MOST_BYTES) {
                return false;
            }
            for (int i = 0; i < size; i++) {
                if (bytes[tokenStart + i] != word.charAt(i)) {
                    return false;
                }
            }
            return true;
        }

        /** Tells the ITEMS to a street; the first that is refused, NONE if there is none. */
        private int tellTo(Street street) {
            street.empty();
            for (int n = 0; n < items && n < MOST_ITEMS; n++) {
                int[] numbers = itemNumbers[n];
                if (tellItem(street, itemKind[n], numbers[0], numbers[1], numbers[2]) < NONE) {
                    return n;
                }
            }
            return NONE;
        }

        private static int tellItem(Street street, int kind, int a, int b, int c) {
            switch (kind) {
                case HOUSE: return street.addHouse(a, b, c);
                case FROM: return street.setFrom(a, b);
                case WILL: return street.setWill(a, b);
                case WALL: return street.setWall(a, b, true);
                case ONE: return street.addOne(a, b);
                case FEUD: return street.setFeud(a, b, true);
                default: return 0;
            }
        }
    }
}
