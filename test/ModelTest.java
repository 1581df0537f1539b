import java.util.Random;

/** Random runs of at most 512 calls, each answer held against HouseHeirsModel. The seeds are fixed. */
public final class ModelTest {
    private static final int CALLS = 512;
    private static int wrong = 0;
    private static long checked = 0;

    private final Random random;
    private final HouseHeirs x = new HouseHeirs();
    private final HouseHeirsModel model = new HouseHeirsModel();
    private final StringBuilder trace = new StringBuilder();
    private final int run;
    private int calls = 0;
    private boolean failed = false;

    private ModelTest(int run) {
        this.run = run;
        this.random = new Random(7919L * run + 17);
    }

    public static void main(String[] args) {
        int runs = 1500;
        for (int run = 0; run < runs && wrong < 3; run++) {
            new ModelTest(run).go();
        }
        System.out.println("ModelTest: " + checked + " calls checked, " + wrong + " wrong runs");
        if (wrong != 0) System.exit(1);
    }

    private void go() {
        // An object is used for at most 512 calls: a typed text is some 160 of them, a built street some 50.
        while (calls < CALLS - 2 && !failed) {
            boolean few = model.w.houses.size() < 2;
            if (calls < CALLS - 160 && random.nextInt(60) == 0) typeStreet();
            else if (calls < CALLS - 50 && (few || random.nextInt(80) == 0)) buildStreet();
            else step(random.nextInt(100));
        }
    }

    private void due(String call, long got, long want) {
        checked++;
        calls++;
        trace.append(call).append(" = ").append(want).append('\n');
        if (got != want && !failed) {
            failed = true;
            wrong++;
            System.out.println("run " + run + ":\n" + trace + call + " answered " + got + ", due is " + want);
        }
    }

    private int number(int most) {
        int odd = random.nextInt(40);
        if (odd == 0) return -1;
        if (odd == 1) return most + 1;
        if (odd == 2) return new int[] {-2, 2147483647, -2147483648, 31, 32, 64, 1000}[random.nextInt(7)];
        return random.nextInt(most + 1);
    }

    private int h() { return number(Math.max(0, model.w.houses.size() - 1)); }
    private int hOrNone() { return random.nextInt(5) == 0 ? -1 : h(); }
    private int p() { return number(Math.max(0, model.w.people.size() - 1)); }
    private int otherThan(int house) { int o = h(); return o == house ? h() : o; }

    private void buildStreet() {
        if (random.nextInt(3) == 0) due("street()", x.street(), model.street());
        int houses = 2 + random.nextInt(5);
        for (int i = 0; i < houses; i++) house();
        for (int i = 1; i < houses; i++) if (random.nextInt(3) > 0) builtFrom(i, random.nextInt(i));
        for (int i = random.nextInt(4); i > 0; i--) wall(true);
        for (int i = random.nextInt(8); i > 0; i--) one();
        for (int i = random.nextInt(4); i > 0; i--) feud(true);
        for (int i = 0; i < houses; i++) if (random.nextInt(2) == 0) will(i, random.nextInt(6));
        if (random.nextInt(2) == 0) for (int i = 0; i < houses; i++) mark(i);
    }

    private void house() {
        int rooms = random.nextInt(3) == 0 ? 1 + random.nextInt(9) : 1 + random.nextInt(3);
        if (random.nextInt(20) == 0) rooms = number(10);
        int worth = number(99), beams = random.nextInt(3) == 0 ? number(99) : 85 + random.nextInt(15);
        due("house(" + rooms + ", " + worth + ", " + beams + ")", x.house(rooms, worth, beams), model.house(rooms, worth, beams));
    }

    private void builtFrom(int a, int b) {
        due("builtFrom(" + a + ", " + b + ")", x.builtFrom(a, b), model.builtFrom(a, b));
    }

    private void will(int a, int k) {
        due("will(" + a + ", " + k + ")", x.will(a, k), model.will(a, k));
    }

    private void wall(boolean is) {
        int a = h(), b = otherThan(a);
        due("wall(" + a + ", " + b + ", " + is + ")", x.wall(a, b, is), model.wall(a, b, is));
    }

    private void one() {
        int f = number(3), a = hOrNone();
        due("one(" + f + ", " + a + ")", x.one(f, a), model.one(f, a));
    }

    private void feud(boolean is) {
        int a = number(3), b = number(3);
        due("feud(" + a + ", " + b + ", " + is + ")", x.feud(a, b, is), model.feud(a, b, is));
    }

    private void mark(int a) {
        int m = random.nextInt(4) == 0 ? number(255) : 1 << random.nextInt(8) | 1 << random.nextInt(8);
        due("mark(" + a + ", " + m + ")", x.mark(a, m), model.mark(a, m));
    }

    private void typeStreet() {
        due("clear()", x.clear(), model.clear());
        String[] odd = {"street;", "houses 1 2 3;", "wall 0 100;", "one 1", "x", ";", "A", "  ", "feud 1;", "7", "house 0 1 2;", "one 0 4;", "wall 0 0;"};
        StringBuilder s = new StringBuilder("street;");
        int houses = 1 + random.nextInt(4);
        for (int i = 0; i < houses; i++) s.append("house ").append(1 + random.nextInt(9)).append(' ').append(random.nextInt(100)).append(' ').append(random.nextInt(100)).append(';');
        String[] items = {"from ", "will", "wall ", "one ", " feud "};
        for (int i = random.nextInt(9); i > 0; i--) {
            s.append(items[random.nextInt(5)]).append(random.nextInt(houses)).append(random.nextInt(3) == 0 ? "  " : " ").append(random.nextInt(houses)).append(random.nextInt(4) == 0 ? " ;" : ";");
        }
        if (random.nextInt(3) == 0) s.insert(random.nextInt(s.length()), odd[random.nextInt(odd.length)]);
        if (random.nextInt(6) == 0) s.setLength(random.nextInt(s.length()));
        if (random.nextInt(8) == 0) s.setCharAt(random.nextInt(Math.max(1, s.length())) % Math.max(1, s.length()), (char) random.nextInt(128));
        for (int i = 0; i < s.length() && calls < CALLS; i++) {
            int c = s.charAt(i);
            due("type(" + c + ")", x.type(c), model.type(c));
        }
        due("read()", x.read(), model.read());
        due("digest()", x.digest(), model.digest());
    }

    private void step(int what) {
        if (what < 22) tell(what);
        else if (what < 45) change(what - 22);
        else if (what < 78) ask(what - 45);
        else askMore(what - 78);
        if (random.nextInt(12) == 0) due("digest()", x.digest(), model.digest());
    }

    private void tell(int what) {
        switch (what) {
            case 0: house(); break;
            case 1: case 2: builtFrom(h(), hOrNone()); break;
            case 3: case 4: case 5: case 6: will(h(), number(5)); break;
            case 7: case 8: case 9: case 10: wall(random.nextInt(3) > 0); break;
            case 11: case 12: case 13: one(); break;
            case 14: case 15: feud(random.nextInt(3) > 0); break;
            case 16: case 17: mark(h()); break;
            case 18: { int c = number(127); due("type(" + c + ")", x.type(c), model.type(c)); break; }
            case 19: if (random.nextInt(5) == 0) due("clear()", x.clear(), model.clear()); break;
            case 20: due("read()", x.read(), model.read()); break;
            default: if (random.nextInt(8) == 0) due("street()", x.street(), model.street());
        }
    }

    private void change(int what) {
        if (what < 3) {
            int a = h();
            due("fall(" + a + ")", x.fall(a), model.fall(a));
        } else if (what < 6) {
            int n = random.nextInt(4) == 0 ? number(20) : 1 + random.nextInt(3);
            due("year(" + n + ")", x.year(n), model.year(n));
        } else if (what < 12) {
            int p = p(), a = hOrNone();
            due("move(" + p + ", " + a + ")", x.move(p, a), model.move(p, a));
        } else if (what < 19) {
            due("undo()", x.undo(), model.undo());
        } else if (what < 21) {
            int i = number(1);
            due("image(" + i + ")", x.image(i), model.image(i));
        } else {
            int i = number(1);
            due("from(" + i + ")", x.from(i), model.from(i));
        }
    }

    private void ask(int what) {
        int a = h(), b = otherThan(a);
        if (what < 3) {
            int w = number(7);
            due("of(" + a + ", " + w + ")", x.of(a, w), model.of(a, w));
        } else if (what < 5) {
            int p = p(), w = number(1);
            due("who(" + p + ", " + w + ")", x.who(p, w), model.who(p, w));
        } else if (what < 9) {
            due("degree(" + a + ", " + b + ")", x.degree(a, b), model.degree(a, b));
        } else if (what < 15) {
            due("rank(" + a + ", " + b + ")", x.rank(a, b), model.rank(a, b));
        } else if (what < 18) {
            due("heir(" + a + ")", x.heir(a), model.heir(a));
        } else if (what < 22) {
            due("wills(" + a + ", " + b + ")", x.wills(a, b), model.wills(a, b));
        } else if (what < 26) {
            due("buildFor(" + a + ", " + b + ")", x.buildFor(a, b), model.buildFor(a, b));
        } else if (what < 30) {
            due("adopts(" + a + ", " + b + ")", x.adopts(a, b), model.adopts(a, b));
        } else if (what < 32) {
            int p = p(), m = random.nextInt(2) == 0 ? number(60) : random.nextInt(12);
            due("lives(" + p + ", " + m + ")", x.lives(p, m), model.lives(p, m));
        } else {
            int m = random.nextInt(2) == 0 ? number(60) : random.nextInt(12);
            due("stand(" + m + ")", x.stand(m), model.stand(m));
        }
    }

    private void askMore(int what) {
        switch (what) {
            case 0: { int w = number(1); due("overfull(" + w + ")", x.overfull(w), model.overfull(w)); break; }
            case 1: case 2: case 3: case 4: orders(); break;
            case 5: case 6: { int p = p(); due("safe(" + p + ")", x.safe(p), model.safe(p)); break; }
            case 7: case 8: { int i = random.nextInt(2) == 0 ? -1 : number(6); due("moves(" + i + ")", x.moves(i), model.moves(i)); break; }
            case 9: case 10: { int a = h(); due("share(" + a + ")", x.share(a), model.share(a)); break; }
            case 11: case 12: { int d = number(8), a = hOrNone(); due("plaster(" + d + ", " + a + ")", x.plaster(d, a), model.plaster(d, a)); break; }
            case 13: { int d = number(8); due("gables(" + d + ")", x.gables(d), model.gables(d)); break; }
            case 14: case 15: case 16: doors(); break;
            case 17: { int s = number(999999), m = number(5); due("drawn(" + s + ", " + m + ")", x.drawn(s, m), model.drawn(s, m)); break; }
            case 18: { int w = number(1); due("part(" + w + ")", x.part(w), model.part(w)); break; }
            case 19: { int w = number(2); due("status(" + w + ")", x.status(w), model.status(w)); break; }
            default: { int w = number(8); due("count(" + w + ")", x.count(w), model.count(w)); }
        }
    }

    private void orders() {
        int bits = model.w.standingBits() & random.nextInt(32);
        if (random.nextInt(20) == 0) bits = number(31);
        int p = p(), a = hOrNone(), i = random.nextInt(2) == 0 ? -1 : number(5);
        due("orders(" + bits + ", " + p + ", " + a + ", " + i + ")", x.orders(bits, p, a, i), model.orders(bits, p, a, i));
    }

    private void doors() {
        int a = h(), b = otherThan(a), c = otherThan(a), w = number(1);
        due("doors(" + a + ", " + b + ", " + c + ", " + w + ")", x.doors(a, b, c, w), model.doors(a, b, c, w));
    }
}
