import java.math.BigInteger;
import java.util.ArrayList;
import java.util.List;
import java.util.function.IntToLongFunction;
import java.util.function.LongSupplier;

/**
 * Each sentence of the document that names a boundary case, in the document's order, has a test of its own here:
 * edge(..) names the sentence, what follows holds the program to it.
 */
public final class EdgeTest {
    private static final int NONE = -1, BAD = -2, NO = -3, FULL = -4;
    private static final int LEAST = Integer.MIN_VALUE, MOST = Integer.MAX_VALUE;
    private static final int AS_BAD = 0, AS_NO = 1, AS_FULL = 2;
    private static final int LAW = 1, ROOMY = 2, DEAR = 4, QUIET = 8, OPEN = 16, HOARD = 32, ALL = 63;

    private static String sentence = "";
    private static int sentences = 0;
    private static int right = 0;
    private static int wrong = 0;

    public static void main(String[] args) {
        houses();
        buildings();
        people();
        kin();
        rankLaw();
        rankRoomy();
        rankDear();
        rankQuiet();
        rankOpenAndHoard();
        heirs();
        falls();
        years();
        then();
        overfullFirst();
        wills();
        wallFor();
        adopts();
        orders();
        ordersRefused();
        safe();
        moves();
        movesRefused();
        share();
        plaster();
        doors();
        doorsRefused();
        drawn();
        undo();
        undoLeavesNone();
        bytes();
        tokens();
        faults();
        faultsAtTheEnd();
        words();
        itemsRefused();
        toldAnew();
        images();
        fraction();
        status();
        firstOfBadNoFull();
        looks();
        street();
        changes();
        digest();
        askingChangesNothing();
        System.out.println("EdgeTest: " + sentences + " sentences, " + right + " answers as due, " + wrong + " not");
        if (wrong != 0) System.exit(1);
    }

    // ---- what the tests have in common

    private static void edge(String told) {
        sentence = told;
        sentences++;
    }

    private static void due(String call, long got, long want) {
        if (got == want) {
            right++;
            return;
        }
        wrong++;
        System.out.println("\"" + sentence + "\": " + call + ": answered " + got + ", due is " + want);
    }

    /** A refused call answers as told, changes nothing and is counted once, as what it is. */
    private static void refused(HouseHeirs x, int why, long answer, String call, LongSupplier made) {
        long before = x.digest();
        int[] counted = {x.status(0), x.status(1), x.status(2)};
        due(call, made.getAsLong(), answer);
        counted[why]++;
        for (int k = 0; k < 3; k++) due(call + ", STATUS " + k, x.status(k), counted[k]);
        due(call + " changes nothing", x.digest(), before);
    }

    /** BAD for each number that is not from least to most, near and far. */
    private static void outside(HouseHeirs x, int least, int most, long answer, String call, IntToLongFunction made) {
        for (int n : new int[] {least - 1, most + 1, least - 32, most + 32, most + 256, LEAST, MOST}) {
            refused(x, AS_BAD, answer, call + " with " + n, () -> made.applyAsLong(n));
        }
    }

    /** Houses of 2 rooms, worth 50, beams 10. */
    private static HouseHeirs houses(int n) {
        HouseHeirs x = new HouseHeirs();
        for (int i = 0; i < n; i++) x.house(2, 50, 10);
        return x;
    }

    /** Each house built from the one ahead of it. */
    private static HouseHeirs line(int n) {
        HouseHeirs x = houses(n);
        for (int i = 1; i < n; i++) x.builtFrom(i, i - 1);
        return x;
    }

    /** Houses of so many rooms, each built from the one ahead of it. */
    private static HouseHeirs roomLine(int... rooms) {
        HouseHeirs x = new HouseHeirs();
        for (int i = 0; i < rooms.length; i++) {
            x.house(rooms[i], 50, 10);
            x.builtFrom(i, i - 1);
        }
        return x;
    }

    private static void come(HouseHeirs x, int family, int... houses) {
        for (int house : houses) x.one(family, house);
    }

    private static HouseHeirs typed(HouseHeirs x, String text) {
        x.clear();
        for (int i = 0; i < text.length(); i++) x.type(text.charAt(i));
        return x;
    }

    private static void reads(String text, int want) {
        due("read of " + text, typed(new HouseHeirs(), text).read(), want);
    }

    private static void faultAt(String text, int place) {
        reads(text, -10 - place);
    }

    private static String times(int n, String s) {
        StringBuilder all = new StringBuilder();
        for (int i = 0; i < n; i++) all.append(s);
        return all.toString();
    }

    // ---- Terms: what there is

    private static void houses() {
        edge("HOUSES 0 .. 4, as they come; house: FULL: 5");
        HouseHeirs x = new HouseHeirs();
        for (int i = 0; i < 5; i++) due("the next", x.house(1, 0, 0), i);
        refused(x, AS_FULL, FULL, "a sixth", () -> x.house(1, 0, 0));
        x.fall(2);
        refused(x, AS_FULL, FULL, "a fallen one leaves no place", () -> x.house(9, 99, 99));
        x.street();
        due("anew", x.house(1, 0, 0), 0);

        edge("ROOMS (1 .. 9)");
        HouseHeirs r = new HouseHeirs();
        due("the fewest", r.house(1, 50, 50), 0);
        due("the most", r.house(9, 50, 50), 1);
        due("of", r.of(0, 0) * 10 + r.of(1, 0), 19);
        outside(r, 1, 9, BAD, "rooms", n -> r.house(n, 50, 50));

        edge("WORTH (0 .. 99)");
        HouseHeirs w = new HouseHeirs();
        due("the least", w.house(5, 0, 50), 0);
        due("the most", w.house(5, 99, 50), 1);
        due("of", w.of(0, 1) * 100 + w.of(1, 1), 99);
        outside(w, 0, 99, BAD, "worth", n -> w.house(5, n, 50));

        edge("BEAMS (0 .. 99 years old)");
        HouseHeirs b = new HouseHeirs();
        due("the youngest", b.house(5, 50, 0), 0);
        due("the oldest", b.house(5, 50, 99), 1);
        due("of", b.of(0, 2) * 100 + b.of(1, 2), 99);
        outside(b, 0, 99, BAD, "beams", n -> b.house(5, 50, n));

        edge("house: FROM none, by LAW; they STAND at first; MARKS 0 at first");
        HouseHeirs s = line(3);
        s.will(2, 5);
        s.mark(2, 255);
        s.fall(2);
        s.street();
        for (int i = 0; i < 3; i++) s.house(1, 1, 1);
        due("from", s.of(2, 3), NONE);
        due("will", s.of(2, 4), 0);
        due("stands", s.of(2, 5), 1);
        due("marks", s.of(2, 7), 0);
    }

    private static void buildings() {
        edge("built FROM a HOUSE of a lesser number (or none); builtFrom: BAD: not of a lesser number: -10");
        for (int house = 0; house < 5; house++) {
            HouseHeirs x = houses(5);
            int h = house;
            int before = NONE;
            for (int from = 0; from < h; from++) {
                due(h + " from " + from, x.builtFrom(h, from), before);
                before = from;
            }
            due(h + " from none", x.builtFrom(h, NONE), before);
            outside(x, NONE, h - 1, -10, h + " from", n -> x.builtFrom(h, n));
        }
        HouseHeirs y = houses(3);
        outside(y, 0, 2, -10, "of house", n -> y.builtFrom(n, NONE));
        refused(y, AS_BAD, -10, "a house that has not come", () -> y.builtFrom(3, 0));

        edge("a WILL (a KIND): 0 LAW .. 5 HOARD; will: BAD");
        HouseHeirs w = houses(2);
        for (int kind = 0; kind <= 5; kind++) due("will " + kind, w.will(1, kind), Math.max(0, kind - 1));
        outside(w, 0, 5, BAD, "kind", n -> w.will(1, n));
        due("the last stays", w.of(1, 4), 5);
        HouseHeirs v = houses(2);
        outside(v, 0, 1, BAD, "of house", n -> v.will(n, 0));

        edge("WALLS between two HOUSES, one each at most");
        HouseHeirs x = houses(5);
        for (int a = 0; a < 5; a++) {
            for (int b = a + 1; b < 5; b++) due("wall " + a + b, (a + b) % 2 == 0 ? x.wall(a, b, true) : x.wall(b, a, true), 1);
        }
        due("ten", x.count(4), 10);
        refused(x, AS_NO, NO, "there is one", () -> x.wall(3, 4, true));
        refused(x, AS_NO, NO, "the other way round", () -> x.wall(4, 3, true));
        for (int a = 0; a < 5; a++) for (int b = a + 1; b < 5; b++) x.wall(b, a, false);
        due("none", x.count(4), 0);
        refused(x, AS_NO, NO, "there is none", () -> x.wall(0, 4, false));
        refused(x, AS_NO, NO, "the other way round", () -> x.wall(4, 0, false));

        edge("builtFrom, will, wall, mark: no NO for HOUSES that do not STAND");
        HouseHeirs fallen = houses(3);
        fallen.fall(1);
        fallen.fall(2);
        due("builtFrom", fallen.builtFrom(2, 1), NONE);
        due("will", fallen.will(2, 5), 0);
        due("mark", fallen.mark(2, 3), 0);
        due("wall", fallen.wall(2, 1, true), 1);
        due("wall to one that stands", fallen.wall(0, 2, true), 1);
        due("walls", fallen.count(4), 2);
        due("wall away", fallen.wall(1, 2, false), 1);
        due("of", fallen.of(2, 3) * 100 + fallen.of(2, 4) * 10 + fallen.of(2, 7), 153);
        due("it does not stand again", fallen.of(2, 5), 0);

        edge("wall: BAD: alike, too");
        HouseHeirs y2 = houses(4);
        outside(y2, 0, 3, BAD, "the one", n -> y2.wall(n, 0, true));
        outside(y2, 0, 3, BAD, "the other", n -> y2.wall(0, n, true));
        for (int i = 0; i < 4; i++) {
            int h = i;
            refused(y2, AS_BAD, BAD, "alike", () -> y2.wall(h, h, true));
            refused(y2, AS_BAD, BAD, "alike, none", () -> y2.wall(h, h, false));
        }
    }

    private static void people() {
        edge("PEOPLE 0 .. 5, as they come; one: FULL: 6");
        HouseHeirs x = houses(1);
        for (int i = 0; i < 6; i++) due("the next", x.one(0, i % 2 == 0 ? 0 : NONE), i);
        refused(x, AS_FULL, FULL, "a seventh", () -> x.one(0, 0));
        refused(x, AS_FULL, FULL, "a seventh who sleeps out", () -> x.one(3, NONE));

        edge("a FAMILY (0 .. 3)");
        HouseHeirs f = houses(1);
        due("the first", f.one(0, 0), 0);
        due("the last", f.one(3, 0), 1);
        outside(f, 0, 3, BAD, "family", n -> f.one(n, 0));

        edge("one: lives in a HOUSE that STANDS (NONE: SLEEPS OUT)");
        HouseHeirs h = houses(3);
        h.fall(1);
        due("in the first", h.one(0, 0), 0);
        due("in the last", h.one(0, 2), 1);
        due("out", h.one(0, NONE), 2);
        refused(h, AS_NO, NO, "in a fallen one", () -> h.one(0, 1));
        outside(h, NONE, 2, BAD, "house", n -> h.one(0, n));

        edge("FEUDS between two FAMILIES; feud: NO: it is so");
        HouseHeirs u = new HouseHeirs();
        for (int a = 0; a < 4; a++) for (int b = a + 1; b < 4; b++) due("feud " + a + b, (a + b) % 2 == 0 ? u.feud(a, b, true) : u.feud(b, a, true), 1);
        due("six", u.count(5), 6);
        refused(u, AS_NO, NO, "there is one", () -> u.feud(0, 3, true));
        refused(u, AS_NO, NO, "the other way round", () -> u.feud(3, 0, true));
        for (int a = 0; a < 4; a++) for (int b = a + 1; b < 4; b++) u.feud(b, a, false);
        due("none", u.count(5), 0);
        refused(u, AS_NO, NO, "there is none", () -> u.feud(0, 3, false));
        refused(u, AS_NO, NO, "the other way round", () -> u.feud(3, 0, false));
        due("again", u.feud(3, 0, true), 1);
        due("one", u.count(5), 1);

        edge("feud: BAD: alike, too");
        HouseHeirs v = new HouseHeirs();
        outside(v, 0, 3, BAD, "the one", n -> v.feud(n, 0, true));
        outside(v, 0, 3, BAD, "the other", n -> v.feud(0, n, true));
        for (int i = 0; i < 4; i++) {
            int a = i;
            refused(v, AS_BAD, BAD, "alike", () -> v.feud(a, a, true));
            refused(v, AS_BAD, BAD, "alike, none", () -> v.feud(a, a, false));
        }

        edge("mark: MARKS of HOUSES (0 .. 255; 0 at first)");
        HouseHeirs m = houses(2);
        due("0 at first", m.mark(1, 255), 0);
        due("the most", m.mark(1, 0), 255);
        outside(m, 0, 255, BAD, "marks", n -> m.mark(1, n));
        outside(m, 0, 1, BAD, "of house", n -> m.mark(n, 1));

        edge("The YEAR is 0 at first");
        due("year", new HouseHeirs().count(6), 0);
    }

    // ---- Terms: kin, heirs, falls

    private static void kin() {
        edge("KIN of that which it is built FROM, and the other way round (also those that do not STAND)");
        HouseHeirs x = line(5);
        for (int i = 1; i < 4; i++) x.fall(i);
        due("over three fallen ones", x.degree(0, 4), 4);
        due("the other way round", x.degree(4, 0), 4);
        x.fall(0);
        x.fall(4);
        due("of fallen ones", x.degree(0, 4), 4);
        due("of fallen ones", x.degree(2, 1), 1);

        edge("KIN of those with which it has a WALL, while both STAND");
        HouseHeirs w = houses(3);
        w.wall(0, 1, true);
        w.wall(1, 2, true);
        due("both stand", w.degree(0, 2), 2);
        w.fall(1);
        due("the one between has fallen", w.degree(0, 2), NONE);
        due("the other has fallen", w.degree(0, 1), NONE);
        due("the one has fallen", w.degree(1, 0), NONE);
        due("the wall is still there", w.count(4), 2);
        w.undo();
        due("it stands again", w.degree(0, 2), 2);

        edge("DEGREE of two HOUSES: the fewest steps of KIN; none");
        HouseHeirs d = line(5);
        due("the most", d.degree(0, 4), 4);
        for (int i = 0; i < 5; i++) due("of itself", d.degree(i, i), 0);
        d.wall(0, 4, true);
        due("round the other way", d.degree(0, 4), 1);
        due("round the other way", d.degree(0, 3), 2);
        due("as far either way", d.degree(1, 4), 2);
        due("none", houses(2).degree(0, 1), NONE);

        edge("degree: NONE. BAD");
        HouseHeirs b = houses(3);
        outside(b, 0, 2, BAD, "the one", n -> b.degree(n, 0));
        outside(b, 0, 2, BAD, "the other", n -> b.degree(0, n));
        HouseHeirs none = new HouseHeirs();
        refused(none, AS_BAD, BAD, "no houses", () -> none.degree(0, 0));
    }

    private static void rankLaw() {
        edge("0 LAW: DEGREE (none, if it has none); rank: 1000: none");
        HouseHeirs x = line(4);
        x.house(9, 99, 10);
        due("the nearest", x.rank(0, 1), 1);
        due("the farthest", x.rank(0, 3), 3);
        due("none", x.rank(0, 4), 1000);
        due("none", x.rank(4, 0), 1000);

        edge("rank: 1000: one of them does not STAND");
        x.fall(1);
        due("the other", x.rank(0, 1), 1000);
        due("the one", x.rank(1, 0), 1000);
        x.fall(0);
        due("both", x.rank(1, 0), 1000);
        due("it is no refused call", x.status(0) + x.status(1) + x.status(2), 0);

        edge("rank: BAD: alike, too: -1000");
        HouseHeirs b = houses(3);
        outside(b, 0, 2, -1000, "the one", n -> b.rank(n, 0));
        outside(b, 0, 2, -1000, "the other", n -> b.rank(0, n));
        for (int i = 0; i < 3; i++) {
            int h = i;
            refused(b, AS_BAD, -1000, "alike", () -> b.rank(h, h));
        }
        b.fall(1);
        refused(b, AS_BAD, -1000, "alike, fallen", () -> b.rank(1, 1));
    }

    private static void rankRoomy() {
        edge("1 ROOMY: none, if fewer ROOMS are free there than live in the HOUSE that falls");
        HouseHeirs x = roomLine(9, 3);
        x.will(0, 1);
        come(x, 0, 0, 0);
        due("three free, two come", x.rank(0, 1), 1);
        come(x, 0, 1);
        due("two free, two come", x.rank(0, 1), 1);
        come(x, 0, 1);
        due("one free, two come", x.rank(0, 1), 1000);
        HouseHeirs y = roomLine(9, 1);
        y.will(0, 1);
        come(y, 0, 1);
        due("none free, nobody comes", y.rank(0, 1), 1);
        come(y, 0, 1);
        due("OVERFULL, nobody comes", y.rank(0, 1), 1000);
        HouseHeirs z = roomLine(9, 9);
        z.will(0, 1);
        z.builtFrom(1, NONE);
        due("none by LAW", z.rank(0, 1), 1000);
    }

    private static void rankDear() {
        edge("2 DEAR: 10 times LAW less WORTH by 10 (cut) of the other one");
        int[] worths = {0, 9, 10, 19, 20, 89, 90, 99};
        int[] ranks = {10, 10, 9, 9, 8, 2, 1, 1};
        for (int i = 0; i < worths.length; i++) {
            HouseHeirs x = new HouseHeirs();
            x.house(1, 77, 1);
            x.house(1, worths[i], 1);
            x.builtFrom(1, 0);
            x.will(0, 2);
            due("worth " + worths[i], x.rank(0, 1), ranks[i]);
        }
        HouseHeirs y = line(5);
        y.will(0, 2);
        due("DEGREE 4, worth 50", y.rank(0, 4), 35);
        y.builtFrom(4, NONE);
        due("none by LAW", y.rank(0, 4), 1000);
    }

    private static void rankQuiet() {
        edge("3 QUIET (under ROOMY): as ROOMY");
        HouseHeirs r = roomLine(9, 2);
        r.will(0, 3);
        come(r, 0, 0, 1);
        due("one free, one comes", r.rank(0, 1), 1);
        come(r, 0, 1);
        due("none free, one comes", r.rank(0, 1), 1000);

        edge("3 QUIET: none, if a FAMILY of one who lives there has a FEUD with that of one who lives in the HOUSE that falls");
        HouseHeirs x = roomLine(9, 9);
        x.will(0, 3);
        x.will(1, 3);
        x.feud(0, 1, true);
        come(x, 0, 0);
        due("nobody there", x.rank(0, 1), 1);
        come(x, 0, 1);
        due("of the same family", x.rank(0, 1), 1);
        come(x, 1, 1);
        due("one of the other", x.rank(0, 1), 1000);
        due("the other way round", x.rank(1, 0), 1000);
        come(x, 1, 1);
        due("two of the other", x.rank(0, 1), 1000);
        come(x, 0, 0);
        due("two of the one", x.rank(0, 1), 1000);
        x.feud(1, 0, false);
        due("no feud any more", x.rank(0, 1), 1);
        due("the other way round", x.rank(1, 0), 1);
        x.feud(2, 3, true);
        due("a feud of others", x.rank(0, 1), 1);
        HouseHeirs y = roomLine(9, 9);
        y.will(0, 3);
        y.feud(0, 1, true);
        come(y, 0, 1);
        come(y, 1, 1);
        due("a feud among those there, nobody comes", y.rank(0, 1), 1);
        come(y, 2, 0);
        due("a feud among those there alone", y.rank(0, 1), 1);
        come(y, 3, 0);
        y.feud(2, 3, true);
        due("a feud among those who come alone", y.rank(0, 1), 1);
        y.feud(3, 1, true);
        due("one of many", y.rank(0, 1), 1000);
        y.move(1, NONE);
        due("who sleeps out counts nowhere", y.rank(0, 1), 1);
    }

    private static void rankOpenAndHoard() {
        edge("4 OPEN: as LAW; 9, if LAW has none");
        HouseHeirs x = line(4);
        x.house(1, 1, 1);
        x.will(0, 4);
        due("as LAW", x.rank(0, 3), 3);
        due("9", x.rank(0, 4), 9);
        come(x, 0, 0, 0, 4, 4);
        due("9, though full", x.rank(0, 4), 9);

        edge("5 HOARD: OPEN less twice how many live there; rank: it may be below 0");
        x.will(0, 5);
        due("nobody there", x.rank(0, 3), 3);
        due("9 less 4", x.rank(0, 4), 5);
        x.move(0, 4);
        x.move(1, 4);
        due("9 less 8", x.rank(0, 4), 1);
        come(x, 0, 4, 4);
        due("9 less 12", x.rank(0, 4), -3);
        for (int i = 0; i < 6; i++) x.move(i, 1);
        due("1 less 12", x.rank(0, 1), -11);
    }

    private static void heirs() {
        edge("THE HEIR: of those that have a RANK the least, of like ones the least number");
        HouseHeirs x = houses(5);
        x.will(2, 4);
        due("all 9", x.heir(2), 0);
        x.fall(0);
        due("the next", x.heir(2), 1);
        x.wall(2, 4, true);
        due("1 ahead of 9", x.heir(2), 4);
        x.wall(3, 2, true);
        due("two of 1", x.heir(2), 3);

        edge("THE HEIR: none; heir: NONE (it does not STAND, too)");
        HouseHeirs y = houses(2);
        due("no RANK", y.heir(0), NONE);
        y.builtFrom(1, 0);
        due("one", y.heir(0), 1);
        y.fall(1);
        due("none that stands", y.heir(0), NONE);
        due("fallen", y.heir(1), NONE);
        y.will(0, 4);
        due("none that stands, OPEN", y.heir(0), NONE);
        due("a house alone", houses(1).heir(0), NONE);
        due("it is no refused call", y.status(0) + y.status(1), 0);

        edge("heir: BAD: -10");
        outside(y, 0, 1, -10, "house", n -> y.heir(n));
        HouseHeirs none = new HouseHeirs();
        refused(none, AS_BAD, -10, "no houses", () -> none.heir(0));
    }

    private static void falls() {
        edge("A HOUSE falls: all who live in it come to live in THE HEIR");
        HouseHeirs x = roomLine(1, 1);
        come(x, 0, 1, 1, 1, 1, 1);
        x.one(0, NONE);
        due("nobody lives there", x.fall(0), 1);
        x.undo();
        due("five come, whatever the rooms", x.fall(1), 0);
        due("all five", x.of(0, 6), 31);
        due("who sleeps out stays out", x.who(5, 1), NONE);

        edge("A HOUSE falls: if there is none, they SLEEP OUT; it does not STAND any more; fall: THE HEIR (NONE)");
        due("none", x.fall(0), NONE);
        due("all out", x.count(3), 6);
        due("none stands", x.count(1), 0);
        due("it is still there", x.count(0), 2);

        edge("fall: NO: it does not STAND: -20");
        refused(x, AS_NO, -20, "fallen", () -> x.fall(0));
        refused(x, AS_NO, -20, "fallen", () -> x.fall(1));

        edge("fall: BAD: -10");
        HouseHeirs y = houses(2);
        outside(y, 0, 1, -10, "house", n -> y.fall(n));
    }

    private static void years() {
        edge("A HOUSE is OVERFULL, if more live in it than it has ROOMS: of those two years older");
        for (int rooms = 1; rooms <= 5; rooms += 4) {
            HouseHeirs x = new HouseHeirs();
            x.house(rooms, 1, 10);
            for (int i = 0; i < rooms; i++) x.one(0, 0);
            due("as many", x.overfull(0), NONE);
            x.year(1);
            due("as many", x.of(0, 2), 11);
            x.one(0, 0);
            due("one more", x.overfull(0), 0);
            x.year(1);
            due("one more", x.of(0, 2), 13);
        }

        edge("then those of which BEAMS are 100 or more fall");
        int[][] table = {{98, 0, 99, 1}, {99, 0, 100, 0}, {97, 2, 99, 1}, {98, 2, 100, 0}, {99, 2, 101, 0}};
        for (int[] row : table) {
            HouseHeirs x = new HouseHeirs();
            x.house(1, 1, row[0]);
            for (int i = 0; i < row[1]; i++) x.one(0, 0);
            due("of " + row[0] + " with " + row[1], x.year(1), row[3]);
            due("beams of " + row[0] + " with " + row[1], x.of(0, 2), row[2]);
        }

        edge("BEAMS of all that STAND are a year older");
        HouseHeirs f = houses(2);
        f.fall(0);
        f.year(20);
        due("a fallen one is not", f.of(0, 2), 10);
        due("the other is", f.of(1, 2), 30);

        edge("by numbers, one behind the other");
        HouseHeirs x = new HouseHeirs();
        for (int i = 0; i < 3; i++) {
            x.house(9, 1, i == 1 ? 5 : 99);
            x.builtFrom(i, i - 1);
        }
        x.one(0, 0);
        x.one(0, 2);
        due("0 and 2 fall", x.year(1), 1);
        due("both in 1", x.of(1, 6), 3);
        HouseHeirs y = new HouseHeirs();
        for (int i = 0; i < 3; i++) {
            y.house(9, 1, 99);
            y.builtFrom(i, i - 1);
        }
        for (int i = 0; i < 3; i++) y.one(0, i);
        due("all fall", y.year(1), 0);
        due("all out at last", y.count(3), 3);
        HouseHeirs z = new HouseHeirs();
        z.house(2, 1, 99);
        z.house(1, 1, 97);
        z.builtFrom(1, 0);
        come(z, 0, 0, 0);
        z.year(1);
        due("OVERFULL behind its ageing: one year older", z.of(1, 2), 98);
        due("the next year two", z.year(1), 0);

        edge("year: n YEARS (1 .. 20)");
        HouseHeirs n = houses(1);
        due("one", n.year(1), 1);
        due("the year", n.count(6), 1);
        due("twenty", n.year(20), 1);
        due("the year", n.count(6), 21);
        outside(n, 1, 20, BAD, "years", k -> n.year(k));
        HouseHeirs none = new HouseHeirs();
        due("without houses", none.year(20), 0);
        due("the year", none.count(6), 20);
    }

    // ---- Terms: what comes

    private static void then() {
        edge("THEN: behind m YEARS (0 .. 60): where one of the PEOPLE lives (none: SLEEPS OUT)");
        HouseHeirs x = new HouseHeirs();
        x.house(1, 1, 40);
        x.one(0, 0);
        x.one(0, NONE);
        due("now", x.lives(0, 0), 0);
        due("in 59", x.lives(0, 59), 0);
        due("in 60", x.lives(0, 60), NONE);
        due("out", x.lives(1, 0), NONE);
        outside(x, 0, 60, -10, "years", n -> x.lives(0, n));
        outside(x, 0, 1, -10, "one", n -> x.lives(n, 0));

        edge("THEN: which HOUSES STAND (bits)");
        HouseHeirs y = new HouseHeirs();
        due("no houses", y.stand(0), 0);
        for (int i = 0; i < 5; i++) y.house(1, 1, 40 - (i & 1));
        due("now", y.stand(0), 31);
        due("in 59", y.stand(59), 31);
        due("in 60", y.stand(60), 10);
        outside(y, 0, 60, BAD, "years", n -> y.stand(n));
    }

    private static void overfullFirst() {
        edge("OVERFULL FIRST: of 61 (0: now); none");
        for (int beams = 98; beams >= 38; beams -= 20) {
            HouseHeirs x = new HouseHeirs();
            x.house(9, 1, 0);
            x.house(1, 1, 0);
            x.house(1, 1, beams);
            x.builtFrom(2, 1);
            x.one(0, 1);
            x.one(0, 2);
            int ahead = 100 - beams;
            due("beams " + beams, x.overfull(0), ahead > 60 ? NONE : ahead);
            due("beams " + beams, x.overfull(1), ahead > 60 ? NONE : 1);
        }
        HouseHeirs last = new HouseHeirs();
        last.house(1, 1, 0);
        last.house(1, 1, 40);
        last.builtFrom(1, 0);
        last.one(0, 0);
        last.one(0, 1);
        due("the 61st", last.overfull(0), 60);
        due("of it", last.overfull(1), 0);
        HouseHeirs now = roomLine(1, 1, 1);
        come(now, 0, 2, 2, 1, 1);
        due("now", now.overfull(0), 0);

        edge("OVERFULL FIRST: which HOUSE (the first)");
        due("the lesser", now.overfull(1), 1);
        due("none", new HouseHeirs().overfull(1), NONE);

        edge("overfull: NONE. BAD: -10");
        outside(now, 0, 1, -10, "what", n -> now.overfull(n));
    }

    private static void wills() {
        edge("WILLS for a HOUSE: KINDS (bits) by which another one would be THE HEIR");
        HouseHeirs x = line(2);
        due("all", x.wills(0, 1), ALL);
        due("all", x.wills(1, 0), ALL);
        x.builtFrom(1, NONE);
        due("without kin", x.wills(0, 1), OPEN + HOARD);
        x.builtFrom(1, 0);
        come(x, 0, 0, 1, 1);
        due("full", x.wills(0, 1), ALL - ROOMY - QUIET);
        x.move(2, NONE);
        due("just enough", x.wills(0, 1), ALL);
        x.fall(1);
        due("the other fallen", x.wills(0, 1), 0);
        due("the one fallen", x.wills(1, 0), 0);

        edge("wills: BAD: alike, too");
        HouseHeirs b = houses(3);
        outside(b, 0, 2, BAD, "the one", n -> b.wills(n, 0));
        outside(b, 0, 2, BAD, "the other", n -> b.wills(0, n));
        refused(b, AS_BAD, BAD, "alike", () -> b.wills(2, 2));
    }

    private static void wallFor() {
        edge("WALL for a HOUSE: 99: it is");
        HouseHeirs x = line(4);
        due("it is", x.buildFor(0, 1), 99);
        due("the lesser of like ones is", x.buildFor(1, 0), 99);

        edge("WALL for a HOUSE: the first WALL more (10 the lesser and the other one; rising)");
        HouseHeirs y = houses(5);
        due("01, the least", y.buildFor(0, 1), 1);
        due("01, the other way round", y.buildFor(1, 0), 1);
        due("34, the greatest", y.buildFor(3, 4), 34);
        due("34, the other way round", y.buildFor(4, 3), 34);
        HouseHeirs z = houses(4);
        z.builtFrom(3, 1);
        z.will(3, 5);
        come(z, 0, 1, 0, 0, 0);
        due("01 ahead of 03", z.buildFor(3, 0), 1);

        edge("WALL for a HOUSE: between two that STAND");
        z.fall(1);
        due("not with 1", z.buildFor(3, 0), 99);
        HouseHeirs w = houses(3);
        w.fall(1);
        due("with a fallen one", w.buildFor(0, 1), NONE);
        due("for a fallen one", w.buildFor(1, 0), NONE);
        due("02", w.buildFor(2, 0), 2);

        edge("WALL for a HOUSE: none");
        due("1 stays ahead", x.buildFor(1, 2), NONE);
        HouseHeirs all = houses(3);
        for (int a = 0; a < 3; a++) for (int b = a + 1; b < 3; b++) all.wall(a, b, true);
        due("no WALL more", all.buildFor(0, 2), NONE);

        edge("buildFor: BAD: alike, too");
        HouseHeirs b = houses(3);
        outside(b, 0, 2, BAD, "the one", n -> b.buildFor(n, 0));
        outside(b, 0, 2, BAD, "the other", n -> b.buildFor(0, n));
        refused(b, AS_BAD, BAD, "alike", () -> b.buildFor(0, 0));
    }

    private static void adopts() {
        edge("ADOPTS: how many HOUSES would have another HEIR than now by that WALL");
        HouseHeirs x = houses(5);
        due("two from none", x.adopts(0, 4), 2);
        x.wall(0, 1, true);
        due("one: 0 keeps the lesser", x.adopts(0, 4), 1);
        x.wall(0, 4, true);
        due("none: 1 and 4 keep 0", x.adopts(1, 4), 0);
        HouseHeirs y = houses(5);
        for (int i = 0; i < 4; i++) y.one(0, 4);
        for (int i = 0; i < 5; i++) y.will(i, 5);
        due("9 less 8 is as 1: the lesser", y.adopts(0, 1), 2);
        y.one(0, 4);
        due("9 less 10 stays ahead", y.adopts(0, 1), 0);

        edge("adopts: between two that STAND and have none; NO: as told");
        refused(x, AS_NO, NO, "there is one", () -> x.adopts(0, 1));
        refused(x, AS_NO, NO, "the other way round", () -> x.adopts(1, 0));
        x.fall(3);
        refused(x, AS_NO, NO, "the other fallen", () -> x.adopts(2, 3));
        refused(x, AS_NO, NO, "the one fallen", () -> x.adopts(3, 2));

        edge("adopts: BAD: alike, too");
        HouseHeirs b = houses(3);
        outside(b, 0, 2, BAD, "the one", n -> b.adopts(n, 0));
        outside(b, 0, 2, BAD, "the other", n -> b.adopts(0, n));
        refused(b, AS_BAD, BAD, "alike", () -> b.adopts(1, 1));
        b.fall(1);
        refused(b, AS_BAD, BAD, "alike, fallen", () -> b.adopts(1, 1));
    }

    private static void orders() {
        edge("ORDERS of some HOUSES that STAND (bits): how many (i = NONE)");
        HouseHeirs x = houses(5);
        x.one(0, 4);
        due("none of them: one order", x.orders(0, 0, 4, NONE), 1);
        due("none of them, but elsewhere", x.orders(0, 0, 3, NONE), 0);
        due("one", x.orders(1, 0, 4, NONE), 1);
        due("four", x.orders(15, 0, 4, NONE), 24);

        edge("ORDERS: lives in a HOUSE (or SLEEPS OUT) at last");
        due("all five", x.orders(31, 0, NONE, NONE), 120);
        due("in one that falls itself", x.orders(16, 0, 4, NONE), 0);
        x.one(0, NONE);
        due("out already", x.orders(15, 1, NONE, NONE), 24);
        due("out never comes back", x.orders(15, 1, 4, NONE), 0);

        edge("ORDERS: the first (the lesser HOUSE ahead): the i-th");
        for (int i = 0; i < 5; i++) due("the " + i + "-th", x.orders(31, 0, NONE, i), i);
        int[] bits = {1, 3, 4};
        for (int i = 0; i < 3; i++) due("of some the " + i + "-th", x.orders(26, 0, NONE, i), bits[i]);
        HouseHeirs y = line(3);
        y.one(0, 0);
        y.wall(0, 2, true);
        y.builtFrom(2, NONE);
        due("to 2: 1 must not fall behind 0 alone", y.orders(3, 0, 2, NONE), 1);
        due("so 1 first", y.orders(3, 0, 2, 0), 1);
        due("then 0", y.orders(3, 0, 2, 1), 0);

        edge("orders: NONE (i from 0 on): none, whatever i is");
        for (int i : new int[] {0, 1, 4, 5, MOST}) due("i " + i, x.orders(15, 0, 3, i), NONE);

        edge("orders: then -5: not so many");
        for (int i : new int[] {5, 6, 32, MOST}) due("five, i " + i, x.orders(31, 0, NONE, i), -5);
        for (int i : new int[] {3, 4, MOST}) due("three, i " + i, x.orders(26, 0, NONE, i), -5);
        for (int i : new int[] {0, 1, MOST}) due("none of them, i " + i, x.orders(0, 0, 4, i), -5);
        due("it is no refused call", x.status(0) + x.status(1), 0);
    }

    private static void ordersRefused() {
        edge("orders: BAD: HOUSES that do not STAND, too: -10");
        HouseHeirs x = houses(4);
        x.one(0, 0);
        x.fall(2);
        refused(x, AS_BAD, -10, "a fallen one", () -> x.orders(4, 0, 0, NONE));
        refused(x, AS_BAD, -10, "a fallen one among others", () -> x.orders(15, 0, 0, NONE));
        due("all that stand", x.orders(11, 0, NONE, NONE), 6);
        for (int bits : new int[] {16, 32, 64, 1 << 30, -1, LEAST, MOST}) {
            refused(x, AS_BAD, -10, "bits " + bits, () -> x.orders(bits, 0, 0, NONE));
        }

        edge("orders: BAD: -10, the others");
        HouseHeirs y = houses(3);
        come(y, 0, 0, 1);
        outside(y, 0, 1, -10, "one", n -> y.orders(1, n, 0, NONE));
        outside(y, NONE, 2, -10, "house", n -> y.orders(1, 0, n, NONE));
        for (int i : new int[] {-2, -5, LEAST}) refused(y, AS_BAD, -10, "i " + i, () -> y.orders(1, 0, 1, i));
        HouseHeirs none = new HouseHeirs();
        refused(none, AS_BAD, -10, "nobody", () -> none.orders(0, 0, NONE, NONE));
    }

    private static void safe() {
        edge("SAFE: all KINDS, if none STANDS");
        HouseHeirs x = houses(1);
        x.one(0, 0);
        x.one(0, NONE);
        x.fall(0);
        due("none stands", x.safe(0), ALL);
        due("none stands", x.safe(1), ALL);
        HouseHeirs none = new HouseHeirs();
        none.one(0, NONE);
        due("no houses", none.safe(0), ALL);

        edge("SAFE: whichever of the HOUSES that STAND is left");
        x.undo();
        due("one stands: nothing falls", x.safe(0), ALL);
        due("one stands: out", x.safe(1), 0);
        HouseHeirs two = houses(2);
        two.one(0, 0);
        due("1 left, no kin", two.safe(0), OPEN + HOARD);

        edge("SAFE: in whichever order all others of them fall");
        HouseHeirs y = roomLine(1, 2, 2);
        y.one(0, 1);
        y.one(1, 0);
        due("0 first is safe, 1 first and then 2 is not", y.safe(0), ALL - ROOMY - QUIET);
        HouseHeirs five = line(5);
        five.one(0, 0);
        due("five houses", five.safe(0), ALL);
        five.builtFrom(4, NONE);
        due("only if 4 is left", five.safe(0), OPEN + HOARD);

        edge("SAFE: were all WILLS of that KIND");
        for (int i = 0; i < 5; i++) five.will(i, 4);
        due("whatever they are", five.safe(0), OPEN + HOARD);
        for (int i = 0; i < 5; i++) due("they stay", five.of(i, 4), 4);

        edge("safe: BAD");
        outside(y, 0, 1, BAD, "one", n -> y.safe(n));
        HouseHeirs nobody = houses(1);
        refused(nobody, AS_BAD, BAD, "nobody", () -> nobody.safe(0));
    }

    private static void moves() {
        edge("MOVES: in HOUSES that STAND, none OVERFULL");
        HouseHeirs x = roomLine(1, 2, 3);
        for (int i = 0; i < 6; i++) x.one(0, NONE);
        due("as many rooms as people", x.moves(NONE), 6);
        int[] at = {0, 1, 1, 2, 2, 2};
        for (int i = 0; i < 6; i++) due("the first", x.moves(i), at[i]);
        x.fall(0);
        due("a room too few", x.moves(NONE), NONE);

        edge("MOVES: no FEUD in one");
        HouseHeirs f = roomLine(9);
        come(f, 0, 0, 0);
        f.one(1, 0);
        due("no feud", f.moves(NONE), 0);
        f.feud(1, 0, true);
        due("one house", f.moves(NONE), NONE);
        f.house(1, 1, 1);
        due("one moves", f.moves(NONE), 1);
        due("the one", f.moves(2), 1);
        HouseHeirs g = roomLine(6, 1);
        come(g, 0, 0, 0);
        g.one(1, 0);
        g.one(2, 0);
        g.feud(0, 1, true);
        g.feud(1, 2, true);
        due("1 with nobody", g.moves(2), 1);
        g.feud(0, 2, true);
        due("three that feud, two houses", g.moves(NONE), NONE);

        edge("MOVES: so that fewest of them move (one who SLEEPS OUT moves, too)");
        HouseHeirs o = houses(1);
        o.one(0, NONE);
        due("one", o.moves(NONE), 1);
        o.one(0, 0);
        due("the other stays", o.moves(NONE), 1);
        HouseHeirs swap = roomLine(9, 9);
        come(swap, 0, 1, 1);
        due("all stay", swap.moves(NONE), 0);
        due("though 0 is lesser", swap.moves(0), 1);

        edge("MOVES: of like ones the first (by PEOPLE, the lesser HOUSE ahead)");
        HouseHeirs l = roomLine(1, 1, 1);
        come(l, 0, 2, 2, 2);
        due("two", l.moves(NONE), 2);
        for (int i = 0; i < 3; i++) due("the " + i + "-th", l.moves(i), i);

        edge("MOVES: nobody");
        HouseHeirs none = new HouseHeirs();
        due("no houses", none.moves(NONE), 0);
        none.one(0, NONE);
        due("one, no houses", none.moves(NONE), NONE);
    }

    private static void movesRefused() {
        edge("moves: NONE: none");
        HouseHeirs x = roomLine(1);
        come(x, 0, 0, 0);
        for (int i : new int[] {NONE, 0, 1, 2, MOST}) due("i " + i, x.moves(i), NONE);

        edge("moves: -5: not so many PEOPLE");
        HouseHeirs y = roomLine(9);
        due("nobody", y.moves(0), -5);
        for (int i = 0; i < 6; i++) {
            y.one(0, 0);
            due("the last", y.moves(i), 0);
            due("one more", y.moves(i + 1), -5);
        }
        due("far more", y.moves(MOST), -5);
        due("it is no refused call", y.status(0) + y.status(1), 0);

        edge("moves: BAD: -10");
        for (int i : new int[] {-2, -3, -10, LEAST}) {
            refused(y, AS_BAD, -10, "i " + i, () -> y.moves(i));
            refused(x, AS_BAD, -10, "i " + i + ", none", () -> x.moves(i));
        }
    }

    // ---- Terms: shares, plaster, doors

    private static void share() {
        edge("share: SHARE is THE FRACTION (0 by 1: no KIN that STAND)");
        HouseHeirs x = houses(3);
        x.builtFrom(2, 1);
        due("one", x.share(1), 1);
        due("no kin", x.share(0), 0);
        due("above", x.part(0), 0);
        due("below", x.part(1), 1);
        x.share(1);
        x.fall(2);
        due("kin, fallen", x.share(1), 0);
        due("above", x.part(0), 0);
        due("below", x.part(1), 1);
        due("of a fallen one", x.share(2), 1);
        due("above", x.part(0), 50);

        edge("SHARE: all KIN that STAND of the least DEGREE");
        HouseHeirs y = line(5);
        due("two of 1", y.share(2), 2);
        y.fall(1);
        due("one of 1", y.share(2), 1);
        y.fall(3);
        due("two of 2", y.share(2), 2);
        y.fall(2);
        y.fall(0);
        due("4, of 2", y.share(2), 1);
        due("4, of 4", y.share(0), 1);

        edge("THE FRACTION: lowest terms, below above 0");
        int[][] table = {{0, 4, 0, 1}, {1, 4, 1, 4}, {2, 4, 1, 2}, {96, 4, 24, 1}, {98, 4, 49, 2}, {99, 3, 33, 1}, {99, 4, 99, 4}, {50, 3, 50, 3}, {99, 1, 99, 1}, {0, 1, 0, 1}};
        for (int[] row : table) {
            HouseHeirs z = new HouseHeirs();
            z.house(1, row[0], 1);
            for (int i = 1; i <= row[1]; i++) {
                z.house(1, 7, 1);
                z.builtFrom(i, 0);
            }
            due(row[0] + " by " + row[1], z.share(0), row[1]);
            due(row[0] + " by " + row[1] + " above", z.part(0), row[2]);
            due(row[0] + " by " + row[1] + " below", z.part(1), row[3]);
        }

        edge("share: BAD");
        outside(y, 0, 4, BAD, "house", n -> y.share(n));
        due("THE FRACTION stays", y.part(0), 50);
    }

    private static void plaster() {
        edge("PLASTER: d (0 .. 8) bits at most");
        for (int bits = 0; bits <= 8; bits++) {
            HouseHeirs x = houses(2);
            x.mark(1, (1 << bits) - 1);
            for (int d = 0; d <= 8; d++) {
                due(bits + " bits, d " + d + ", ways", x.plaster(d, NONE), bits <= d ? 1 : 0);
                due(bits + " bits, d " + d + ", the sure one", x.plaster(d, 1), bits <= d ? 0 : NONE);
                due(bits + " bits, d " + d + ", false", x.gables(d), bits <= d ? 0 : 2);
            }
        }
        HouseHeirs o = houses(2);
        outside(o, 0, 8, -10, "plaster d", n -> o.plaster(n, NONE));
        outside(o, 0, 8, -10, "plaster d, of one", n -> o.plaster(n, 1));
        outside(o, 0, 8, BAD, "gables d", n -> o.gables(n));
        outside(o, NONE, 1, -10, "plaster of", n -> o.plaster(0, n));

        edge("PLASTER: for all but HOUSE 0: how many ways");
        int[] ways = {1, 1, 1, 2, 6, 24};
        for (int n = 0; n <= 5; n++) due(n + " houses", houses(n).plaster(0, NONE), ways[n]);

        edge("PLASTER: of a HOUSE the sure one (none: not just one may be)");
        HouseHeirs x = houses(4);
        x.mark(3, 1);
        due("of HOUSE 0 none", x.plaster(8, 0), NONE);
        due("of 1: 0", x.plaster(0, 1), 0);
        due("of 2: two", x.plaster(0, 2), NONE);
        due("of 3: none", x.plaster(0, 3), NONE);
        x.mark(2, 1);
        due("of 3: 2", x.plaster(0, 3), 2);

        edge("FALSE: HOUSES (bits) but 0 that none may have begotten");
        HouseHeirs f = houses(5);
        due("none", f.gables(0), 0);
        for (int i = 0; i < 5; i++) f.mark(i, 1 << i);
        due("all but 0", f.gables(1), 30);
        due("none", f.gables(2), 0);
        due("no houses", new HouseHeirs().gables(8), 0);

        edge("HOUSE x may be begotten by one of a lesser number: also those that do not STAND");
        f.fall(0);
        due("of 1", f.plaster(2, 1), 0);
        f.fall(1);
        due("of 1", f.plaster(2, 1), 0);
    }

    private static void doors() {
        edge("DOORS: an open one's RANK counts 3 less");
        HouseHeirs x = line(5);
        x.one(0, 0);
        due("4 less 3 is 1, 1 is the lesser: so nobody opens", x.doors(1, 4, 0, 0), 1);
        due("nobody", x.doors(1, 4, 0, 1), 0);
        due("for 4 and 3: 4 gains nothing, 3 less 3 is 0", x.doors(4, 3, 0, 0), 1);
        due("3 opens", x.doors(4, 3, 0, 1), 1);

        edge("DOORS: or 9 less 3, if it has none");
        HouseHeirs o = houses(3);
        o.one(0, 0);
        o.will(0, 4);
        due("1 as it is, so 2 opens, so 1 opens, so 2 does not, so 1 does not", o.doors(1, 2, 0, 0), 0);
        due("none rests", o.doors(1, 2, 0, 1), NONE);
        for (int worth = 30; worth <= 50; worth += 10) {
            HouseHeirs k = houses(3);
            k.house(1, worth, 10);
            k.builtFrom(3, 0);
            k.will(0, 2);
            k.one(0, 0);
            due("against DEAR " + (10 - worth / 10), k.doors(1, 2, 0, 0), 1);
            due("against DEAR " + (10 - worth / 10), k.doors(1, 2, 0, 1), worth == 50 ? 0 : 10);
        }
        HouseHeirs n = line(4);
        n.builtFrom(3, NONE);
        n.one(0, 0);
        n.fall(1);
        due("2 is of 2, 3 open of 6", n.doors(2, 3, 0, 0), 1);
        due("nobody opens", n.doors(2, 3, 0, 1), 0);

        edge("DOORS: 2 for each one who comes to it, less 1 for its door, if that is open");
        HouseHeirs z = houses(3);
        due("nobody comes: no door", z.doors(1, 2, 0, 0), 1);
        due("no door", z.doors(1, 2, 0, 1), 0);
        z.one(0, 0);
        due("one comes: 2 less 1", z.doors(1, 2, 0, 1), 10);

        edge("DOORS: less 1 for each who lives there then above its ROOMS");
        HouseHeirs r = roomLine(9, 1, 1);
        r.builtFrom(1, NONE);
        r.builtFrom(2, NONE);
        r.one(0, 0);
        due("a room for one", r.doors(1, 2, 0, 0), 1);
        due("1 opens", r.doors(1, 2, 0, 1), 10);
        come(r, 0, 1, 2);
        due("2 less 1 less 1 is nothing: any but both", r.doors(1, 2, 0, 0), 3);
        due("nobody", r.doors(1, 2, 0, 1), 0);
        r.one(0, 0);
        due("two come: 4 less 2 less 1", r.doors(1, 2, 0, 0), 1);
        due("1 opens", r.doors(1, 2, 0, 1), 10);

        edge("DOORS: pairs that rest: how many (0), the first (1; NONE)");
        HouseHeirs none = line(3);
        none.one(0, 0);
        due("none rests: 2 opens, so 1 does, so 2 does not, so 1 does not", none.doors(1, 2, 0, 0), 0);
        due("the first", none.doors(1, 2, 0, 1), NONE);
        due("the other way round", none.doors(2, 1, 0, 1), NONE);
    }

    private static void doorsRefused() {
        edge("doors: BAD: alike ones, too; BAD: -10");
        HouseHeirs x = houses(4);
        outside(x, 0, 3, -10, "a", n -> x.doors(n, 1, 2, 0));
        outside(x, 0, 3, -10, "b", n -> x.doors(0, n, 2, 0));
        HouseHeirs y = houses(4);
        outside(y, 0, 3, -10, "falls", n -> y.doors(0, 1, n, 0));
        outside(y, 0, 1, -10, "what", n -> y.doors(0, 1, 2, n));
        HouseHeirs z = houses(4);
        for (int what = 0; what < 2; what++) {
            int w = what;
            refused(z, AS_BAD, -10, "a and b", () -> z.doors(1, 1, 2, w));
            refused(z, AS_BAD, -10, "a and falls", () -> z.doors(1, 2, 1, w));
            refused(z, AS_BAD, -10, "b and falls", () -> z.doors(2, 1, 1, w));
            refused(z, AS_BAD, -10, "all", () -> z.doors(1, 1, 1, w));
        }

        edge("doors: NO: one does not STAND: -20");
        z.fall(3);
        refused(z, AS_NO, -20, "a", () -> z.doors(3, 1, 2, 0));
        refused(z, AS_NO, -20, "b", () -> z.doors(1, 3, 2, 1));
        refused(z, AS_NO, -20, "falls", () -> z.doors(1, 2, 3, 0));
    }

    /** How many sleep out where 0, 1, 2, 3 live in houses without kin; by numbers without end. */
    private static int drawnOut(int seed, int m) {
        List<Integer> standing = new ArrayList<>(List.of(0, 1, 2, 3));
        BigInteger x = BigInteger.valueOf(seed);
        int out = 0;
        for (int i = 0; i < m && !standing.isEmpty(); i++) {
            x = x.multiply(new BigInteger("1103515245")).add(new BigInteger("12345")).mod(new BigInteger("2147483648"));
            out += standing.remove(x.divide(new BigInteger("65536")).intValue() % standing.size());
        }
        return out;
    }

    private static void drawn() {
        edge("DRAWN by a SEED (0 .. 999999): X times 1103515245 and 12345, by 2147483648 what is left over");
        for (int block = 0; block < 8; block++) {
            HouseHeirs x = houses(4);
            come(x, 0, 1, 2, 2, 3, 3, 3);
            for (int k = 0; k < 50; k++) {
                int seed = block == 0 ? k : block == 1 ? 999999 - k : (block * 50 + k) * 2477;
                int m = 1 + k % 3;
                due("seed " + seed + ", " + m + " falls", x.drawn(seed, m), drawnOut(seed, m));
            }
        }
        HouseHeirs s = houses(4);
        s.one(0, 0);
        outside(s, 0, 999999, BAD, "seed", n -> s.drawn(n, 1));

        edge("DRAWN: m (0 .. 5) falls");
        HouseHeirs y = houses(5);
        for (int i = 0; i < 5; i++) y.one(0, i);
        for (int m = 0; m <= 5; m++) due(m + " falls", y.drawn(4711, m), m);
        outside(y, 0, 5, BAD, "falls", n -> y.drawn(1, n));

        edge("DRAWN: none STANDS: nothing falls, nothing is drawn");
        HouseHeirs z = houses(2);
        come(z, 0, 0, 1, NONE);
        due("both fall, no more", z.drawn(999999, 5), 3);
        z.fall(0);
        z.fall(1);
        due("none stands", z.drawn(0, 5), 3);
        due("no houses", new HouseHeirs().drawn(999999, 5), 0);
    }

    // ---- Terms: what may be undone

    private static void undo() {
        edge("UNDO: which HOUSES STAND, BEAMS, where PEOPLE live, the YEAR as ahead of the last YEAR");
        HouseHeirs x = new HouseHeirs();
        x.house(1, 1, 99);
        x.house(1, 1, 98);
        x.builtFrom(1, 0);
        come(x, 0, 0, 0, 1);
        long before = x.digest();
        x.year(1);
        due("one stands", x.count(1), 1);
        due("undone", x.undo(), 1);
        due("as ahead of it", x.digest(), before);

        edge("UNDO: .. the last fall");
        x.fall(1);
        due("undone", x.undo(), 1);
        due("as ahead of it", x.digest(), before);

        edge("UNDO: .. the last one that moved");
        x.move(2, NONE);
        due("undone", x.undo(), 1);
        due("as ahead of it", x.digest(), before);

        edge("undo: NO: none may be");
        refused(x, AS_NO, NO, "no more", () -> x.undo());
        HouseHeirs none = new HouseHeirs();
        refused(none, AS_NO, NO, "a new one", () -> none.undo());

        edge("UNDO: 8 at most");
        HouseHeirs y = houses(2);
        y.one(0, 0);
        for (int i = 1; i <= 12; i++) {
            y.move(0, i % 2);
            due("moves", y.count(7), Math.min(8, i));
        }
        y.undo();
        for (int i = 0; i < 3; i++) y.move(0, 1 - y.who(0, 1));
        due("full again", y.count(7), 8);
        for (int i = 7; i >= 0; i--) {
            due("undone", y.undo(), 1);
            due("left", y.count(7), i);
        }
        refused(y, AS_NO, NO, "a ninth", () -> y.undo());
        HouseHeirs z = houses(1);
        z.year(7);
        due("seven", z.count(7), 7);
        z.year(1);
        due("eight", z.count(7), 8);
        z.year(1);
        due("eight still", z.count(7), 8);
        for (int i = 0; i < 8; i++) z.undo();
        due("the first is lost", z.count(6), 1);
        due("its beams too", z.of(0, 2), 11);

        edge("year: each of which may be undone");
        z.year(3);
        for (int i = 3; i > 0; i--) {
            due("to undo", z.count(7), i);
            z.undo();
        }
        due("back", z.count(6), 1);

        edge("move: BAD: -10; NO: it does not STAND, or one lives there: -20");
        HouseHeirs m = houses(3);
        come(m, 0, 0, NONE);
        m.fall(2);
        outside(m, 0, 1, -10, "one", n -> m.move(n, 1));
        outside(m, NONE, 2, -10, "house", n -> m.move(0, n));
        refused(m, AS_NO, -20, "fallen", () -> m.move(0, 2));
        refused(m, AS_NO, -20, "lives there", () -> m.move(0, 0));
        refused(m, AS_NO, -20, "sleeps out already", () -> m.move(1, NONE));
        due("to the next", m.move(0, 1), 0);
        due("out", m.move(0, NONE), 1);
        due("in again", m.move(0, 0), NONE);
    }

    private static void undoLeavesNone() {
        String[] names = {"street", "house", "builtFrom", "will", "wall", "wall away", "one", "feud", "feud away", "mark", "read"};
        for (int what = 0; what < names.length; what++) {
            edge("UNDO: what else is told of HOUSES, PEOPLE, WALLS, FEUDS leaves none: " + names[what]);
            HouseHeirs x = typed(line(3), "street;");
            x.wall(0, 2, true);
            x.feud(0, 1, true);
            x.year(3);
            x.fall(1);
            due("ahead of it", x.count(7), 4);
            tell(x, what);
            due("behind it", x.count(7), 0);
            refused(x, AS_NO, NO, "undo", () -> x.undo());
        }

        edge("Refused, changing nothing but STATUS: what may be undone stays");
        HouseHeirs x = line(3);
        x.year(2);
        x.house(0, 1, 1);
        x.builtFrom(0, 0);
        x.will(0, 6);
        x.wall(0, 0, true);
        x.wall(0, 2, false);
        x.one(4, 0);
        x.feud(0, 0, true);
        x.feud(0, 1, false);
        x.mark(0, 256);
        x.fall(3);
        x.year(0);
        x.move(0, 0);
        x.from(1);
        typed(x, "street;one 0 0;").read();
        typed(x, "street").read();
        due("two", x.count(7), 2);
        due("undone", x.undo(), 1);
        due("the year", x.count(6), 1);
    }

    private static void tell(HouseHeirs x, int what) {
        switch (what) {
            case 0: x.street(); break;
            case 1: x.house(1, 1, 1); break;
            case 2: x.builtFrom(2, 1); break;
            case 3: x.will(0, 0); break;
            case 4: x.wall(0, 1, true); break;
            case 5: x.wall(0, 2, false); break;
            case 6: x.one(0, NONE); break;
            case 7: x.feud(2, 3, true); break;
            case 8: x.feud(0, 1, false); break;
            case 9: x.mark(0, 0); break;
            default: x.read();
        }
    }

    // ---- Terms: THE TEXT

    private static void bytes() {
        edge("type: A byte (0 .. 127): how many it has");
        HouseHeirs x = new HouseHeirs();
        due("the least", x.type(0), 1);
        due("the most", x.type(127), 2);
        outside(x, 0, 127, BAD, "byte", n -> x.type(n));

        edge("a TEXT (150 bytes at most); type: FULL: 150");
        HouseHeirs y = new HouseHeirs();
        for (int i = 1; i <= 150; i++) due("byte " + i, y.type(32), i);
        refused(y, AS_FULL, FULL, "one more", () -> y.type(32));
        refused(y, AS_FULL, FULL, "one more", () -> y.type(127));
        due("all blanks: ends too early", y.read(), -160);

        edge("clear: THE TEXT is empty: how many it had");
        due("150", y.clear(), 150);
        due("0", y.clear(), 0);
        due("empty", y.read(), -10);
        due("there is place again", y.type(32), 1);

        edge("a full TEXT is read");
        String longest = "street;house1 1 1;" + times(6, "one0 0;") + "feud0 1;feud0 2;feud0 3;feud1 2;feud1 3;feud2 3;" + times(5, "will0 1;");
        reads(longest + "  ", 19);
        reads("  " + longest, 19);
        reads("street;" + times(20, "one0 0;") + "   ", -1001);
        faultAt("street;" + times(20, "one0 0;") + "one", 150);
        faultAt("street;" + times(20, "one0 0;") + "  ;", 149);
        faultAt(times(144, " ") + "street", 150);
        faultAt(times(149, " ") + "s", 149);
        reads(times(143, " ") + "street;", 1);
        faultAt("street;" + times(18, "one0 0;") + times(11, " ") + "one 12", 150);
        faultAt("street;" + times(18, "one0 0;") + times(11, " ") + "one123", 147);
    }

    private static void tokens() {
        edge("street (once, first of all)");
        reads("street;", 1);
        reads("street;street;", -10 - 7);
        reads("street;house 1 1 1;street;", -10 - 19);

        edge("TOKENS: letters a .. z that stand together (a word)");
        faultAt("streethouse 1 1 1;", 0);
        faultAt("street;housex 1 1 1;", 7);
        faultAt("street;hou se 1 1 1;", 7);
        faultAt("street`;", 6);
        faultAt("street{;", 6);
        faultAt("street;`", 7);
        faultAt("street;{", 7);
        faultAt("STREET;", 0);

        edge("TOKENS: figures that stand together (a number)");
        reads("street;house 9 99 99;", 2);
        reads("street;house 09 00 07;", 2);
        faultAt("street;house 9 9 9 9;", 19);
        faultAt("street;house 9 99;", 17);
        faultAt("street;wall 0/1;", 13);
        faultAt("street;wall 0:1;", 13);
        reads("street;house1 1 1;house1 1 1;wall0 1;", 4);
        reads("street;feud0  1;", 2);

        edge("TOKENS: of more than 2 it is none");
        faultAt("street;house 100 1 1;", 13);
        faultAt("street;house 1 100 1;", 15);
        faultAt("street;house 1 1 001;", 17);
        faultAt("street;feud 000 1;", 12);

        edge("TOKENS: ;");
        reads("street ; feud 0 1 ;", 2);
        faultAt("street;;", 7);
        faultAt(";", 0);

        edge("TOKENS: blanks (32) between");
        reads("   street   ;   feud   0   1   ;   ", 2);
        for (int c : new int[] {0, 1, 9, 10, 13, 31, 33, 127}) faultAt("street;" + (char) c + "feud 0 1;", 7);
        for (int c : new int[] {0, 9, 10, 31, 33, 127}) faultAt("street" + (char) c + ";", 6);
    }

    private static void faults() {
        edge("FAULT: a word that is none");
        faultAt("alley;", 0);
        faultAt("street;alley 1;", 7);
        faultAt("street;house one 1 1;", 13);

        edge("FAULT: street again");
        faultAt("street; street;", 8);
        faultAt("street;feud 0 1;street;", 16);
        faultAt("street street;", 7);

        edge("FAULT: anything ahead of it");
        faultAt("house 1 1 1;street;", 0);
        faultAt("  one 0 0;street;", 2);
        faultAt(" ;street;", 1);
        faultAt(" 1 street;", 1);
        faultAt("\tstreet;", 0);

        edge("FAULT: a number of more than 2 figures");
        faultAt("street;wall 0 123;", 14);
        faultAt("123", 0);
        faultAt("street 123;", 7);
        faultAt("street;123;", 7);

        edge("FAULT: a byte that begins none, too");
        faultAt("street;wall 0 -1;", 14);
        faultAt("street;wall 0,1;", 13);
        faultAt("street;wall 0 1.", 15);
        faultAt("street;wall 0 1;.", 16);
        faultAt("Street;", 0);

        edge("FAULT: the first TOKEN that can not stand there");
        faultAt("street;wall wall;x", 12);
        faultAt("street;1 wall;", 7);
        faultAt("street 1;", 7);
        faultAt("street;feud 0 1 2;", 16);
        faultAt("street;feud 0 1 feud 0 1;", 16);
        faultAt("street;feud 0;", 13);
        faultAt("street;feud;", 11);

        edge("FAULT: ahead of an ITEM that is refused");
        faultAt("street;one 0 0;x", 15);
        HouseHeirs x = typed(line(2), "street;one 0 0;x");
        x.year(1);
        long before = x.digest();
        due("read", x.read(), -25);
        due("nothing changes", x.digest(), before);
        due("it is counted as none", x.status(0) + x.status(1) + x.status(2), 0);
    }

    private static void faultsAtTheEnd() {
        edge("FAULT: the TEXT's length, if it ends too early");
        String whole = "street;house 1 2 3;";
        for (int n = 0; n < whole.length(); n++) {
            boolean cut = n > 0 && n < 6 || n > 7 && n < 12;
            int want = n == 7 ? 1 : cut ? -10 - (n < 6 ? 0 : 7) : -10 - n;
            reads(whole.substring(0, n), want);
        }
        faultAt("street  ", 8);
        faultAt("street;wall 0 1", 15);
        faultAt("street;wall 0 1  ", 17);
        faultAt("street;wall 0", 13);
        faultAt("street;wall ", 12);

        edge("FAULT: an empty one, too");
        faultAt("", 0);
        faultAt(" ", 1);
        faultAt("     ", 5);
    }

    private static void words() {
        edge("ITEMS: house ROOMS WORTH BEAMS; from h FROM; will h KIND; wall a b; one FAMILY h; feud a b");
        String[] items = {"house 1 1 1;", "from 1 0;", "will 0 1;", "wall 0 1;", "one 1 0;", "feud 0 1;"};
        String two = "street;house1 1 1;house1 1 1;";
        for (String item : items) {
            reads(two + item, 4);
            int word = item.indexOf(' ');
            faultAt(two + "x" + item.substring(1), 29);
            faultAt(two + "x" + item, 29);
            faultAt(two + item.substring(1), 29);
            faultAt(two + item.substring(0, word) + "s" + item.substring(word), 29);
            faultAt(two + item.substring(0, word - 1) + "x" + item.substring(word), 29);
            faultAt(two + item.substring(0, word - 1) + item.substring(word), 29);
            int last = item.lastIndexOf(' ');
            faultAt(two + item.substring(0, last) + ";", 29 + last);
            faultAt(two + item.substring(0, item.length() - 1) + " 1;", 29 + item.length());
        }
        faultAt("xtreet;", 0);
        faultAt("treet;", 0);
        faultAt("streex;", 0);
        faultAt("streets;", 0);
    }

    private static void itemsRefused() {
        edge("read: -1000 less the number of the first ITEM that is refused (as its call is)");
        String two = "street;house 1 1 1;house 1 1 1;";
        String[] items = {
            "house 0 1 1;", "house 10 1 1;", "from 0 0;", "from 1 1;", "from 2 0;", "from 0 1;", "will 0 6;", "will 2 0;",
            "wall 0 0;", "wall 0 2;", "wall 2 0;", "one 4 0;", "one 0 2;", "feud 0 0;", "feud 0 4;", "feud 4 0;", "feud 99 0;"};
        for (String item : items) reads(two + item, -1003);
        reads(two + "wall 0 1;wall 0 1;", -1004);
        reads(two + "wall 0 1;wall 1 0;", -1004);
        reads("street;feud 0 1;feud 1 0;", -1002);
        reads("street;one 0 0;house 0 0 0;", -1001);
        reads("street;one 0 0;house 1 1 1;", -1001);
        reads("street;house 1 1 1;one 0 0;house 0 0 0;will 9 9;", -1003);

        edge("read: an ITEM refused as FULL");
        reads("street;" + times(5, "house1 1 1;"), 6);
        reads("street;" + times(6, "house1 1 1;"), -1006);
        reads("street;house1 1 1;" + times(6, "one0 0;"), 8);
        reads("street;house1 1 1;" + times(7, "one0 0;"), -1008);

        edge("ITEMS are none (in STATUS)");
        HouseHeirs x = typed(line(3), two + "one 0 2;");
        x.year(4);
        x.mark(1, 3);
        x.move(0, 0);
        long before = x.digest();
        int bads = x.status(0);
        due("refused", x.read(), -1003);
        due("nothing changes", x.digest(), before);
        due("BAD", x.status(0), bads);
        due("NO", x.status(1), 0);
        due("FULL", x.status(2), 0);
    }

    private static void toldAnew() {
        edge("A STREET without a FAULT is told anew by these alone");
        HouseHeirs x = line(5);
        for (int i = 0; i < 6; i++) x.one(i % 4, i % 5);
        for (int i = 0; i < 5; i++) {
            x.will(i, 5);
            x.mark(i, 255);
        }
        x.wall(0, 4, true);
        x.feud(0, 3, true);
        x.fall(2);
        x.year(9);
        x.stand(60);
        x.safe(0);
        x.drawn(1, 5);
        typed(x, "street;house 1 2 3;house 4 5 6;");
        due("items", x.read(), 3);
        int[] dues = {2, 2, 0, 0, 0, 0, 0, 0, 31};
        for (int what = 0; what <= 8; what++) due("count(" + what + ")", x.count(what), dues[what]);
        int[] of = {4, 5, 6, NONE, 0, 1, 0, 0};
        for (int what = 0; what <= 7; what++) due("of(1, " + what + ")", x.of(1, what), of[what]);
        HouseHeirs fresh = typed(new HouseHeirs(), "street;house 1 2 3;house 4 5 6;");
        fresh.read();
        due("as if new", x.digest(), fresh.digest());

        edge("read again");
        x.wall(0, 1, true);
        x.feud(0, 1, true);
        x.one(0, 0);
        due("the same", x.read(), 3);
        due("the same", x.digest(), fresh.digest());
        typed(x, "street;");
        due("street alone", x.read(), 1);
        due("no houses", x.count(0), 0);

        edge("A STREET is told .. in their order");
        HouseHeirs o = typed(new HouseHeirs(), "street;house 1 1 1;one 0 0;house 2 2 2;one 1 1;from 1 0;");
        due("items", o.read(), 6);
        due("the first house", o.of(0, 0), 1);
        due("the first one", o.who(0, 0), 0);
        due("from", o.of(1, 3), 0);
    }

    // ---- Terms: images, STATUS

    private static void images() {
        edge("image: IMAGES 0, 1: An IMAGE is kept: 1. BAD");
        HouseHeirs x = line(2);
        outside(x, 0, 1, BAD, "image", n -> x.image(n));

        edge("from: NO: none was kept");
        refused(x, AS_NO, NO, "0", () -> x.from(0));
        refused(x, AS_NO, NO, "1", () -> x.from(1));
        due("kept", x.image(1), 1);
        refused(x, AS_NO, NO, "0 still", () -> x.from(0));

        edge("from: BAD");
        outside(x, 0, 1, BAD, "from", n -> x.from(n));

        edge("IMAGES keep all but them");
        HouseHeirs y = imaged();
        long before = y.digest();
        due("kept", y.image(0), 1);
        y.house(1, 1, 1);
        y.street();
        y.year(20);
        due("an image of later", y.image(1), 1);
        due("it goes on", y.from(0), 1);
        due("as it was", y.digest(), before);
        due("the heir", y.heir(2), 1);
        due("the other is still there", y.from(1), 1);
        due("20 years", y.count(6), 20);
        due("and back", y.from(0), 1);
        due("as it was", y.digest(), before);

        edge("IMAGES keep all but .. THE TEXT, THE FRACTION and STATUS");
        HouseHeirs z = line(2);
        z.image(0);
        z.type(1);
        z.share(0);
        z.undo();
        z.from(0);
        due("the text", z.count(8), 1);
        due("the fraction", z.part(0), 50);
        due("status", z.status(1), 1);

        edge("what may be undone they keep; it goes on from one");
        HouseHeirs u = line(2);
        u.one(0, 1);
        u.year(3);
        u.fall(1);
        u.image(1);
        u.undo();
        u.year(20);
        u.move(0, NONE);
        for (int i = 0; i < 9; i++) u.move(0, i % 2);
        due("it goes on", u.from(1), 1);
        due("four", u.count(7), 4);
        int[] years = {3, 2, 1, 0};
        for (int i = 0; i < 4; i++) {
            due("undone", u.undo(), 1);
            due("year", u.count(6), years[i]);
            due("beams", u.of(0, 2), 10 + years[i]);
            due("stand", u.count(1), 2);
            due("lives", u.who(0, 1), 1);
        }
        refused(u, AS_NO, NO, "no more", () -> u.undo());
        u.from(1);
        due("it keeps them still", u.count(7), 4);
        HouseHeirs f = houses(1);
        f.year(12);
        f.image(0);
        f.street();
        f.from(0);
        for (int i = 0; i < 8; i++) due("eight", f.undo(), 1);
        due("the fourth year", f.count(6), 4);
    }

    /** A street with something of all. */
    private static HouseHeirs imaged() {
        HouseHeirs x = line(3);
        x.will(2, 3);
        x.mark(1, 9);
        x.wall(0, 2, true);
        x.feud(1, 2, true);
        x.one(1, 0);
        x.one(2, 2);
        x.one(3, NONE);
        x.year(2);
        return x;
    }

    private static void fraction() {
        edge("THE FRACTION is 0 by 1 at first");
        HouseHeirs x = line(2);
        due("above", x.part(0), 0);
        due("below", x.part(1), 1);

        edge("part: BAD");
        outside(x, 0, 1, BAD, "part", n -> x.part(n));
    }

    private static void status() {
        edge("status: -1: another what (counts as BAD)");
        HouseHeirs x = houses(1);
        outside(x, 0, 2, -1, "what", n -> x.status(n));

        edge("STATUS: how many calls were refused as BAD, NO, FULL");
        HouseHeirs y = houses(5);
        for (int i = 0; i < 3; i++) due("at first", y.status(i), 0);
        y.house(1, 1, 1);
        y.house(1, 1, 1);
        y.house(1, 1, 1);
        y.undo();
        y.undo();
        y.share(9);
        due("BAD", y.status(0), 1);
        due("NO", y.status(1), 2);
        due("FULL", y.status(2), 3);

        edge("STATUS: no answer that is none is a refused one");
        HouseHeirs z = houses(2);
        z.one(0, NONE);
        z.heir(0);
        z.degree(0, 1);
        z.rank(0, 1);
        z.builtFrom(1, 0);
        z.who(0, 1);
        z.of(0, 3);
        z.lives(0, 0);
        z.overfull(0);
        z.orders(1, 0, 0, 0);
        z.orders(1, 0, NONE, 1);
        z.moves(6);
        z.plaster(0, 0);
        z.buildFor(0, 1);
        z.read();
        for (int i = 0; i < 3; i++) due("none", z.status(i), 0);

        edge("count: BAD");
        HouseHeirs c = houses(1);
        outside(c, 0, 8, BAD, "count", n -> c.count(n));
        due("none of them stays hidden", c.count(0), 1);
    }

    private static void firstOfBadNoFull() {
        edge("Refused, the first of: BAD, NO, FULL");
        HouseHeirs x = houses(5);
        x.fall(4);
        for (int i = 0; i < 6; i++) x.one(0, 0);
        for (int i = 0; i < 150; i++) x.type(59);
        refused(x, AS_BAD, BAD, "house: BAD ahead of FULL", () -> x.house(10, 1, 1));
        refused(x, AS_BAD, BAD, "one: BAD ahead of NO and FULL", () -> x.one(4, 4));
        refused(x, AS_BAD, BAD, "one: BAD ahead of FULL", () -> x.one(0, 5));
        refused(x, AS_NO, NO, "one: NO ahead of FULL", () -> x.one(0, 4));
        refused(x, AS_FULL, FULL, "one: FULL", () -> x.one(0, 3));
        refused(x, AS_BAD, BAD, "type: BAD ahead of FULL", () -> x.type(-1));
        refused(x, AS_BAD, -10, "move: BAD ahead of NO", () -> x.move(6, 4));
        refused(x, AS_BAD, -10, "doors: BAD ahead of NO", () -> x.doors(0, 1, 4, 2));
        refused(x, AS_BAD, -10, "doors: alike ahead of NO", () -> x.doors(4, 4, 1, 0));
        refused(x, AS_BAD, BAD, "adopts: alike ahead of NO", () -> x.adopts(4, 4));
        refused(x, AS_BAD, BAD, "wall: alike ahead of NO", () -> x.wall(2, 2, false));
        refused(x, AS_BAD, BAD, "feud: alike ahead of NO", () -> x.feud(2, 2, false));
    }

    private static void looks() {
        edge("of: BAD: -10");
        HouseHeirs x = houses(3);
        outside(x, 0, 7, -10, "what", n -> x.of(0, n));
        outside(x, 0, 2, -10, "house", n -> x.of(n, 5));

        edge("of: FROM (3; NONE)");
        due("none", x.of(0, 3), NONE);
        x.builtFrom(1, 0);
        due("0", x.of(1, 3), 0);

        edge("of: who lives there (6; bits)");
        due("nobody", x.of(2, 6), 0);
        for (int i = 0; i < 6; i++) x.one(0, 2);
        due("all", x.of(2, 6), 63);

        edge("who: where one lives (1; NONE)");
        x.move(5, NONE);
        due("out", x.who(5, 1), NONE);
        due("the last", x.who(4, 1), 2);

        edge("who: BAD: -10");
        HouseHeirs y = houses(1);
        come(y, 2, 0, NONE);
        outside(y, 0, 1, -10, "what", n -> y.who(0, n));
        outside(y, 0, 1, -10, "one", n -> y.who(n, 0));

        edge("count: 1 that STAND, 3 that SLEEP OUT");
        x.fall(2);
        due("two stand", x.count(1), 2);
        due("all out", x.count(3), 6);
        due("three houses", x.count(0), 3);
    }

    private static void street() {
        edge("street: how many HOUSES there were");
        for (int n = 0; n <= 5; n++) {
            HouseHeirs x = houses(n);
            if (n > 0) x.fall(0);
            due(n + " houses", x.street(), n);
            due("none any more", x.street(), 0);
        }

        edge("street: No HOUSES, nobody, no WALLS, FEUDS, YEAR 0");
        HouseHeirs x = imaged();
        x.street();
        for (int what = 0; what <= 7; what++) due("count(" + what + ")", x.count(what), 0);
        for (int i = 0; i < 3; i++) x.house(2, 50, 10);
        HouseHeirs fresh = houses(3);
        due("as new", x.digest(), fresh.digest());
        x.one(1, 0);
        x.one(2, 1);
        x.will(0, 3);
        x.builtFrom(1, 0);
        due("no feud left", x.rank(0, 1), 1);
        refused(x, AS_BAD, -10, "nobody left", () -> x.who(2, 0));
    }

    /** What is not refused changes what it says, and nothing else. */
    private static void changes() {
        edge("builtFrom, will, wall, feud, mark change just what they say");
        HouseHeirs x = imaged();
        x.builtFrom(1, 0);
        long before = x.digest();
        x.builtFrom(1, NONE);
        x.builtFrom(1, 0);
        x.will(0, 5);
        x.will(0, 0);
        x.wall(1, 2, true);
        x.wall(2, 1, false);
        x.feud(0, 3, true);
        x.feud(3, 0, false);
        x.mark(0, 255);
        x.mark(0, 0);
        due("and back", x.digest(), before);
    }

    private static long chain(long... values) {
        BigInteger h = BigInteger.valueOf(967);
        for (long v : values) h = h.multiply(BigInteger.valueOf(31)).add(BigInteger.valueOf(v));
        return h.longValue();
    }

    private static void digest() {
        edge("digest: h = 967; then h = 31 h + v for each v");
        due("a new object", new HouseHeirs().digest(), chain(0, 0, 0, 0, 0, 0, 0, 0, 0, 0, 0, 0, 0, 0, 0, 0, 1));
        HouseHeirs one = houses(1);
        due("one house: no walls to tell", one.digest(), chain(1, 1, 0, 0, 0, 0, 0, 0, 0, 2, 50, 10, -1, 0, 1, 0, 0, 0, 0, 0, 0, 0, 0, 1));

        edge("digest: WALLS of HOUSES a, b (a less than b, rising; 1, 0)");
        for (int w = 0; w < 10; w++) {
            HouseHeirs x = houses(5);
            long[] values = new long[9 + 35 + 10 + 6 + 2];
            values[0] = values[1] = 5;
            values[4] = 1;
            for (int h = 0; h < 5; h++) {
                long[] of = {2, 50, 10, -1, 0, 1, 0};
                System.arraycopy(of, 0, values, 9 + 7 * h, 7);
            }
            int at = 0;
            for (int a = 0; a < 5; a++) for (int b = a + 1; b < 5; b++) if (at++ == w) x.wall(b, a, true);
            values[44 + w] = 1;
            values[61] = 1;
            due("wall " + w, x.digest(), chain(values));
        }

        edge("digest: FEUDS of FAMILIES a, b likewise");
        for (int f = 0; f < 6; f++) {
            HouseHeirs x = new HouseHeirs();
            long[] values = new long[9 + 6 + 2];
            values[5] = 1;
            int at = 0;
            for (int a = 0; a < 4; a++) for (int b = a + 1; b < 4; b++) if (at++ == f) x.feud(b, a, true);
            values[9 + f] = 1;
            values[16] = 1;
            due("feud " + f, x.digest(), chain(values));
        }

        edge("digest: of PEOPLE the FAMILY, where (NONE: -1); THE FRACTION");
        HouseHeirs p = houses(2);
        p.builtFrom(1, 0);
        p.one(3, 1);
        p.one(2, NONE);
        p.share(0);
        due("all", p.digest(), chain(2, 2, 2, 1, 0, 0, 0, 0, 0, 2, 50, 10, -1, 0, 1, 0, 2, 50, 10, 0, 0, 1, 0, 0,
            3, 1, 2, -1, 0, 0, 0, 0, 0, 0, 50, 1));
    }

    private static void askingChangesNothing() {
        edge("What is below changes nothing");
        HouseHeirs x = imaged();
        x.image(0);
        long before = x.digest();
        x.lives(0, 60);
        x.stand(60);
        x.overfull(0);
        x.overfull(1);
        x.wills(0, 1);
        x.buildFor(0, 2);
        x.adopts(0, 2);
        x.adopts(0, 1);
        x.orders(7, 0, NONE, NONE);
        x.orders(7, 0, NONE, 0);
        x.safe(0);
        x.moves(NONE);
        x.moves(0);
        x.plaster(3, NONE);
        x.plaster(3, 1);
        x.gables(0);
        x.doors(0, 1, 2, 0);
        x.doors(0, 1, 2, 1);
        x.drawn(12, 5);
        x.degree(0, 2);
        x.rank(0, 2);
        x.heir(0);
        due("digest", x.digest(), before);
        due("undo still", x.undo(), 1);
        due("the year", x.count(6), 1);
        due("the image still", x.from(0), 1);
        due("digest", x.digest(), before);
    }
}
