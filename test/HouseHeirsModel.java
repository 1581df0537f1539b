import java.util.ArrayDeque;
import java.util.ArrayList;
import java.util.Deque;
import java.util.List;

/**
 * The document told a second time, as plainly as it goes and without regard to cost:
 * what the random runs of ModelTest hold HouseHeirs against.
 */
final class HouseHeirsModel {
    private static final int INF = 1000000;

    static final class House {
        int rooms, worth, beams, from = -1, will, marks;
        boolean stands = true;

        House copy() {
            House h = new House();
            h.rooms = rooms; h.worth = worth; h.beams = beams; h.from = from;
            h.will = will; h.marks = marks; h.stands = stands;
            return h;
        }
    }

    static final class World {
        List<House> houses = new ArrayList<>();
        List<int[]> people = new ArrayList<>();
        boolean[][] wall = new boolean[5][5];
        boolean[][] feud = new boolean[4][4];
        int year;

        World copy() {
            World w = new World();
            for (House h : houses) w.houses.add(h.copy());
            for (int[] p : people) w.people.add(p.clone());
            for (int i = 0; i < 5; i++) w.wall[i] = wall[i].clone();
            for (int i = 0; i < 4; i++) w.feud[i] = feud[i].clone();
            w.year = year;
            return w;
        }

        boolean exists(int h) { return h >= 0 && h < houses.size(); }
        boolean stands(int h) { return exists(h) && houses.get(h).stands; }
        boolean person(int p) { return p >= 0 && p < people.size(); }

        int standingBits() {
            int bits = 0;
            for (int h = 0; h < houses.size(); h++) if (stands(h)) bits += 1 << h;
            return bits;
        }

        List<Integer> in(int house) {
            List<Integer> all = new ArrayList<>();
            for (int p = 0; p < people.size(); p++) if (people.get(p)[1] == house) all.add(p);
            return all;
        }

        /** Floyd and Warshall, instead of rings. */
        int degree(int a, int b) {
            int n = houses.size();
            int[][] d = new int[n][n];
            for (int i = 0; i < n; i++) {
                for (int j = 0; j < n; j++) {
                    boolean blood = houses.get(i).from == j || houses.get(j).from == i;
                    boolean leaning = wall[i][j] && stands(i) && stands(j);
                    d[i][j] = i == j ? 0 : blood || leaning ? 1 : INF;
                }
            }
            for (int k = 0; k < n; k++)
                for (int i = 0; i < n; i++)
                    for (int j = 0; j < n; j++) d[i][j] = Math.min(d[i][j], d[i][k] + d[k][j]);
            return d[a][b] >= INF ? -1 : d[a][b];
        }

        /** null: none. */
        Integer rank(int kind, int house, int other) {
            int degree = degree(house, other);
            Integer law = degree < 0 ? null : Integer.valueOf(degree);
            if (kind == 0) return law;
            if (kind == 1) {
                int free = houses.get(other).rooms - in(other).size();
                return free < in(house).size() ? null : law;
            }
            if (kind == 2) return law == null ? null : Integer.valueOf(10 * law - houses.get(other).worth / 10);
            if (kind == 3) {
                for (int p : in(house))
                    for (int q : in(other)) if (feud[people.get(p)[0]][people.get(q)[0]]) return null;
                return rank(1, house, other);
            }
            if (kind == 4) return law == null ? Integer.valueOf(9) : law;
            return rank(4, house, other) - 2 * in(other).size();
        }

        int heir(int kind, int house, int open) {
            if (!stands(house)) return -1;
            int best = -1;
            int least = 0;
            for (int h = 0; h < houses.size(); h++) {
                if (h == house || !stands(h)) continue;
                Integer r = rank(kind, house, h);
                if ((open >> h & 1) != 0) r = r == null ? Integer.valueOf(6) : Integer.valueOf(r - 3);
                if (r != null && (best < 0 || r < least)) {
                    best = h;
                    least = r;
                }
            }
            return best;
        }

        int heir(int house) { return heir(houses.get(house).will, house, 0); }

        int fall(int house) {
            int next = heir(house);
            for (int p : in(house)) people.get(p)[1] = next;
            houses.get(house).stands = false;
            return next;
        }

        boolean overfull(int h) { return stands(h) && in(h).size() > houses.get(h).rooms; }

        void passYear() {
            for (int h = 0; h < houses.size(); h++) if (stands(h)) houses.get(h).beams += overfull(h) ? 2 : 1;
            for (int h = 0; h < houses.size(); h++) if (stands(h) && houses.get(h).beams >= 100) fall(h);
            year++;
        }

        World after(int years) {
            World w = copy();
            for (int i = 0; i < years; i++) w.passYear();
            return w;
        }

        World afterFalls(List<Integer> order) {
            World w = copy();
            for (int h : order) w.fall(h);
            return w;
        }
    }

    World w = new World();
    Deque<World> past = new ArrayDeque<>();
    World[] image = new World[2];
    List<Deque<World>> imagePast = new ArrayList<>(List.of(new ArrayDeque<>(), new ArrayDeque<>()));
    StringBuilder text = new StringBuilder();
    long above = 0, below = 1;
    int[] status = new int[3];

    int bad(int answer) { status[0]++; return answer; }
    int no(int answer) { status[1]++; return answer; }
    int full(int answer) { status[2]++; return answer; }

    /** Counts what is refused; what is not leaves nothing to undo. */
    int told(int answer, int bad) {
        if (answer == -2) return bad(bad);
        if (answer == -3) return no(-3);
        if (answer == -4) return full(-4);
        past.clear();
        return answer;
    }

    void remember() {
        past.addLast(w.copy());
        if (past.size() > 8) past.removeFirst();
    }

    int street() {
        int n = w.houses.size();
        w = new World();
        past.clear();
        return n;
    }

    static int house(World w, int rooms, int worth, int beams) {
        if (rooms < 1 || rooms > 9 || worth < 0 || worth > 99 || beams < 0 || beams > 99) return -2;
        if (w.houses.size() == 5) return -4;
        House h = new House();
        h.rooms = rooms; h.worth = worth; h.beams = beams;
        w.houses.add(h);
        return w.houses.size() - 1;
    }

    static int builtFrom(World w, int house, int from) {
        if (!w.exists(house)) return -2;
        if (from != -1 && (from < 0 || from >= house)) return -2;
        int old = w.houses.get(house).from;
        w.houses.get(house).from = from;
        return old;
    }

    static int will(World w, int house, int kind) {
        if (!w.exists(house) || kind < 0 || kind > 5) return -2;
        int old = w.houses.get(house).will;
        w.houses.get(house).will = kind;
        return old;
    }

    static int wall(World w, int a, int b, boolean is) {
        if (!w.exists(a) || !w.exists(b) || a == b) return -2;
        if (w.wall[a][b] == is) return -3;
        w.wall[a][b] = is;
        w.wall[b][a] = is;
        return 1;
    }

    static int one(World w, int family, int house) {
        if (family < 0 || family > 3) return -2;
        if (house != -1) {
            if (!w.exists(house)) return -2;
            if (!w.stands(house)) return -3;
        }
        if (w.people.size() == 6) return -4;
        w.people.add(new int[] {family, house});
        return w.people.size() - 1;
    }

    static int feud(World w, int a, int b, boolean is) {
        if (a < 0 || a > 3 || b < 0 || b > 3 || a == b) return -2;
        if (w.feud[a][b] == is) return -3;
        w.feud[a][b] = is;
        w.feud[b][a] = is;
        return 1;
    }

    int house(int rooms, int worth, int beams) { return told(house(w, rooms, worth, beams), -2); }
    int builtFrom(int house, int from) { return told(builtFrom(w, house, from), -10); }
    int will(int house, int kind) { return told(will(w, house, kind), -2); }
    int wall(int a, int b, boolean is) { return told(wall(w, a, b, is), -2); }
    int one(int family, int house) { return told(one(w, family, house), -2); }
    int feud(int a, int b, boolean is) { return told(feud(w, a, b, is), -2); }

    int mark(int house, int marks) {
        if (!w.exists(house) || marks < 0 || marks > 255) return bad(-2);
        int old = w.houses.get(house).marks;
        w.houses.get(house).marks = marks;
        past.clear();
        return old;
    }

    int type(int c) {
        if (c < 0 || c > 127) return bad(-2);
        if (text.length() == 150) return full(-4);
        text.append((char) c);
        return text.length();
    }

    int clear() {
        int n = text.length();
        text.setLength(0);
        return n;
    }

    /** TOKENS as {place, what}: a word, a number, ";" or "?" for a byte that begins none. */
    static List<Object[]> tokens(String s) {
        List<Object[]> all = new ArrayList<>();
        java.util.regex.Matcher m = java.util.regex.Pattern.compile("[a-z]+|[0-9]+|;|[^ ]", java.util.regex.Pattern.DOTALL).matcher(s);
        while (m.find()) all.add(new Object[] {m.start(), m.group()});
        return all;
    }

    /** What stands in the items' places: their word and how many numbers. */
    static int numbers(String word) {
        switch (word) {
            case "house": return 3;
            case "from": case "will": case "wall": case "one": case "feud": return 2;
            default: return -1;
        }
    }

    int read() {
        List<List<String>> items = new ArrayList<>();
        List<String> item = new ArrayList<>();
        for (Object[] t : tokens(text.toString())) {
            int place = (Integer) t[0];
            String what = (String) t[1];
            boolean ok;
            if (item.isEmpty()) {
                ok = items.isEmpty() ? what.equals("street") : numbers(what) > 0;
            } else {
                int want = item.get(0).equals("street") ? 0 : numbers(item.get(0));
                ok = item.size() - 1 < want ? what.matches("[0-9]{1,2}") : what.equals(";");
            }
            if (!ok) return -10 - place;
            if (what.equals(";")) {
                items.add(item);
                item = new ArrayList<>();
            } else {
                item.add(what);
            }
        }
        if (!item.isEmpty() || items.isEmpty()) return -10 - text.length();
        World fresh = new World();
        for (int i = 0; i < items.size(); i++) if (tell(fresh, items.get(i)) < -1) return -1000 - i;
        w = fresh;
        past.clear();
        return items.size();
    }

    static int tell(World w, List<String> item) {
        int[] n = new int[3];
        for (int i = 1; i < item.size(); i++) n[i - 1] = Integer.parseInt(item.get(i));
        switch (item.get(0)) {
            case "house": return house(w, n[0], n[1], n[2]);
            case "from": return builtFrom(w, n[0], n[1]);
            case "will": return will(w, n[0], n[1]);
            case "wall": return wall(w, n[0], n[1], true);
            case "one": return one(w, n[0], n[1]);
            case "feud": return feud(w, n[0], n[1], true);
            default: return 0;
        }
    }

    int fall(int house) {
        if (!w.exists(house)) return bad(-10);
        if (!w.stands(house)) return no(-20);
        remember();
        return w.fall(house);
    }

    int year(int n) {
        if (n < 1 || n > 20) return bad(-2);
        for (int i = 0; i < n; i++) {
            remember();
            w.passYear();
        }
        return Integer.bitCount(w.standingBits());
    }

    int move(int one, int house) {
        if (!w.person(one) || (house != -1 && !w.exists(house))) return bad(-10);
        if (house != -1 && !w.stands(house)) return no(-20);
        int old = w.people.get(one)[1];
        if (old == house) return no(-20);
        remember();
        w.people.get(one)[1] = house;
        return old;
    }

    int undo() {
        if (past.isEmpty()) return no(-3);
        w = past.removeLast();
        return 1;
    }

    int of(int house, int what) {
        if (!w.exists(house) || what < 0 || what > 7) return bad(-10);
        House h = w.houses.get(house);
        int lives = 0;
        for (int p : w.in(house)) lives += 1 << p;
        return new int[] {h.rooms, h.worth, h.beams, h.from, h.will, h.stands ? 1 : 0, lives, h.marks}[what];
    }

    int who(int one, int what) {
        if (!w.person(one) || what < 0 || what > 1) return bad(-10);
        return w.people.get(one)[what];
    }

    boolean two(int a, int b) { return w.exists(a) && w.exists(b) && a != b; }

    int degree(int a, int b) { return w.exists(a) && w.exists(b) ? w.degree(a, b) : bad(-2); }

    int rank(int house, int other) {
        if (!two(house, other)) return bad(-1000);
        if (!w.stands(house) || !w.stands(other)) return 1000;
        Integer r = w.rank(w.houses.get(house).will, house, other);
        return r == null ? 1000 : r;
    }

    int heir(int house) { return w.exists(house) ? w.heir(house) : bad(-10); }

    int wills(int house, int other) {
        if (!two(house, other)) return bad(-2);
        int bits = 0;
        for (int k = 0; k < 6; k++) {
            World t = w.copy();
            t.houses.get(house).will = k;
            if (t.heir(house) == other) bits += 1 << k;
        }
        return bits;
    }

    int buildFor(int house, int other) {
        if (!two(house, other)) return bad(-2);
        if (w.heir(house) == other) return 99;
        for (int code = 1; code < 35; code++) {
            int a = code / 10, b = code % 10;
            if (a >= b || !w.stands(a) || !w.stands(b) || w.wall[a][b]) continue;
            World t = w.copy();
            t.wall[a][b] = t.wall[b][a] = true;
            if (t.heir(house) == other) return code;
        }
        return -1;
    }

    int adopts(int a, int b) {
        if (!two(a, b)) return bad(-2);
        if (!w.stands(a) || !w.stands(b) || w.wall[a][b]) return no(-3);
        World t = w.copy();
        t.wall[a][b] = t.wall[b][a] = true;
        int n = 0;
        for (int h = 0; h < w.houses.size(); h++) if (t.heir(h) != w.heir(h)) n++;
        return n;
    }

    int lives(int one, int m) {
        return w.person(one) && m >= 0 && m <= 60 ? w.after(m).people.get(one)[1] : bad(-10);
    }

    int stand(int m) { return m >= 0 && m <= 60 ? w.after(m).standingBits() : bad(-2); }

    int overfull(int what) {
        if (what != 0 && what != 1) return bad(-10);
        for (int m = 0; m <= 60; m++) {
            World t = w.after(m);
            for (int h = 0; h < t.houses.size(); h++) if (t.overfull(h)) return what == 0 ? m : h;
        }
        return -1;
    }

    /** All orders of the houses told by bits, the lesser house ahead. */
    static List<List<Integer>> allOrders(int bits) {
        List<List<Integer>> all = new ArrayList<>();
        if (bits == 0) {
            all.add(new ArrayList<>());
            return all;
        }
        for (int h = 0; h < 5; h++) {
            if ((bits >> h & 1) == 0) continue;
            for (List<Integer> rest : allOrders(bits - (1 << h))) {
                rest.add(0, h);
                all.add(rest);
            }
        }
        return all;
    }

    int orders(int houses, int one, int house, int i) {
        boolean bad = houses < 0 || houses > 31 || !w.person(one) || (house != -1 && !w.exists(house)) || i < -1;
        for (int h = 0; h < 5 && !bad; h++) if ((houses >> h & 1) != 0 && !w.stands(h)) bad = true;
        if (bad) return bad(-10);
        List<List<Integer>> good = new ArrayList<>();
        for (List<Integer> order : allOrders(houses)) {
            if (w.afterFalls(order).people.get(one)[1] == house) good.add(order);
        }
        if (i == -1) return good.size();
        if (good.isEmpty()) return -1;
        return i < good.get(0).size() ? good.get(0).get(i) : -5;
    }

    int safe(int one) {
        if (!w.person(one)) return bad(-2);
        int bits = 0;
        for (int k = 0; k < 6; k++) {
            World t = w.copy();
            for (House h : t.houses) h.will = k;
            boolean safe = true;
            for (int left = 0; left < 5; left++) {
                if (!t.stands(left)) continue;
                for (List<Integer> order : allOrders(t.standingBits() - (1 << left))) {
                    if (t.afterFalls(order).people.get(one)[1] == -1) safe = false;
                }
            }
            if (safe) bits += 1 << k;
        }
        return bits;
    }

    int moves(int i) {
        if (i < -1) return bad(-10);
        int n = w.people.size();
        int ways = 1;
        for (int p = 0; p < n; p++) ways *= w.houses.size();
        int[] best = null;
        int fewest = INF;
        for (int way = 0; way < ways; way++) {
            int[] at = new int[n];
            int rest = way;
            for (int p = n - 1; p >= 0; p--) {
                at[p] = rest % w.houses.size();
                rest /= w.houses.size();
            }
            int moved = 0;
            for (int p = 0; p < n; p++) if (at[p] != w.people.get(p)[1]) moved++;
            if (moved < fewest && mayAll(at)) {
                fewest = moved;
                best = at;
            }
        }
        if (best == null) return -1;
        if (i == -1) return fewest;
        return i < n ? best[i] : -5;
    }

    boolean mayAll(int[] at) {
        int[] in = new int[5];
        for (int p = 0; p < at.length; p++) {
            if (!w.stands(at[p]) || ++in[at[p]] > w.houses.get(at[p]).rooms) return false;
            for (int q = 0; q < p; q++) {
                if (at[q] == at[p] && w.feud[w.people.get(p)[0]][w.people.get(q)[0]]) return false;
            }
        }
        return true;
    }

    int share(int house) {
        if (!w.exists(house)) return bad(-2);
        for (int d = 1; d < 5; d++) {
            int n = 0;
            for (int h = 0; h < w.houses.size(); h++) if (h != house && w.stands(h) && w.degree(house, h) == d) n++;
            if (n > 0) {
                java.math.BigInteger g = java.math.BigInteger.valueOf(w.houses.get(house).worth).gcd(java.math.BigInteger.valueOf(n));
                above = w.houses.get(house).worth / g.longValue();
                below = n / g.longValue();
                return n;
            }
        }
        above = 0;
        below = 1;
        return 0;
    }

    List<Integer> begetters(int x, int d) {
        List<Integer> all = new ArrayList<>();
        for (int h = 0; h < x; h++) {
            int differ = 0;
            for (int bit = 0; bit < 8; bit++) {
                if ((w.houses.get(h).marks >> bit & 1) != (w.houses.get(x).marks >> bit & 1)) differ++;
            }
            if (differ <= d) all.add(h);
        }
        return all;
    }

    int plaster(int d, int x) {
        if (d < 0 || d > 8 || (x != -1 && !w.exists(x))) return bad(-10);
        if (x != -1) return begetters(x, d).size() == 1 ? begetters(x, d).get(0) : -1;
        int ways = 1;
        for (int h = 1; h < w.houses.size(); h++) ways *= begetters(h, d).size();
        return ways;
    }

    int gables(int d) {
        if (d < 0 || d > 8) return bad(-2);
        int bits = 0;
        for (int h = 1; h < w.houses.size(); h++) if (begetters(h, d).isEmpty()) bits += 1 << h;
        return bits;
    }

    int gain(int house, int other, int falls, int door, int otherDoor) {
        int open = (door << house) + (otherDoor << other);
        int come = w.heir(w.houses.get(falls).will, falls, open) == house ? w.in(falls).size() : 0;
        int living = w.in(house).size() + come;
        int rooms = w.houses.get(house).rooms;
        return 2 * come - (living > rooms ? living - rooms : 0) - door;
    }

    int doors(int a, int b, int falls, int what) {
        if (!two(a, b) || !two(a, falls) || !two(b, falls) || what < 0 || what > 1) return bad(-10);
        if (!w.stands(a) || !w.stands(b) || !w.stands(falls)) return no(-20);
        List<Integer> resting = new ArrayList<>();
        for (int x = 0; x < 2; x++) {
            for (int y = 0; y < 2; y++) {
                boolean aRests = gain(a, b, falls, x, y) >= gain(a, b, falls, 1 - x, y);
                boolean bRests = gain(b, a, falls, y, x) >= gain(b, a, falls, 1 - y, x);
                if (aRests && bRests) resting.add(10 * x + y);
            }
        }
        return what == 0 ? resting.size() : resting.isEmpty() ? -1 : resting.get(0);
    }

    int drawn(int seed, int m) {
        if (seed < 0 || seed > 999999 || m < 0 || m > 5) return bad(-2);
        World t = w.copy();
        java.math.BigInteger x = java.math.BigInteger.valueOf(seed);
        for (int i = 0; i < m; i++) {
            List<Integer> standing = new ArrayList<>();
            for (int h = 0; h < t.houses.size(); h++) if (t.stands(h)) standing.add(h);
            if (standing.isEmpty()) break;
            x = x.multiply(java.math.BigInteger.valueOf(1103515245)).add(java.math.BigInteger.valueOf(12345))
                .mod(java.math.BigInteger.valueOf(2147483648L));
            t.fall(standing.get((int) (x.longValue() / 65536 % standing.size())));
        }
        return t.in(-1).size();
    }

    long part(int what) {
        if (what != 0 && what != 1) return bad(-2);
        return what == 0 ? above : below;
    }

    int image(int i) {
        if (i != 0 && i != 1) return bad(-2);
        image[i] = w.copy();
        imagePast.set(i, copyPast(past));
        return 1;
    }

    int from(int i) {
        if (i != 0 && i != 1) return bad(-2);
        if (image[i] == null) return no(-3);
        w = image[i].copy();
        past = copyPast(imagePast.get(i));
        return 1;
    }

    static Deque<World> copyPast(Deque<World> some) {
        Deque<World> all = new ArrayDeque<>();
        for (World each : some) all.addLast(each.copy());
        return all;
    }

    int status(int what) { return what >= 0 && what < 3 ? status[what] : bad(-1); }

    int count(int what) { return what >= 0 && what < 9 ? amount(what) : bad(-2); }

    int amount(int what) {
        int walls = 0, feuds = 0;
        for (int a = 0; a < 5; a++) for (int b = a + 1; b < 5; b++) if (w.wall[a][b]) walls++;
        for (int a = 0; a < 4; a++) for (int b = a + 1; b < 4; b++) if (w.feud[a][b]) feuds++;
        return new int[] {w.houses.size(), Integer.bitCount(w.standingBits()), w.people.size(), w.in(-1).size(),
            walls, feuds, w.year, past.size(), text.length()}[what];
    }

    long digest() {
        List<Long> all = new ArrayList<>();
        for (int what = 0; what < 9; what++) all.add((long) amount(what));
        for (House h : w.houses) {
            for (int v : new int[] {h.rooms, h.worth, h.beams, h.from, h.will, h.stands ? 1 : 0, h.marks}) all.add((long) v);
        }
        int n = w.houses.size();
        for (int a = 0; a < n; a++) for (int b = a + 1; b < n; b++) all.add(w.wall[a][b] ? 1L : 0L);
        for (int[] p : w.people) {
            all.add((long) p[0]);
            all.add((long) p[1]);
        }
        for (int a = 0; a < 4; a++) for (int b = a + 1; b < 4; b++) all.add(w.feud[a][b] ? 1L : 0L);
        all.add(above);
        all.add(below);
        long h = 967;
        for (long v : all) h = 31 * h + v;
        return h;
    }
}
