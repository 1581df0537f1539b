/** Each promise of the document, by hand: ordinary inputs, the edges that it names, wrong inputs. */
public final class PromiseTest {
    private static final int NONE = -1, BAD = -2, NO = -3, FULL = -4, BIG = 2147483647;
    private static int wrong = 0;
    private static int right = 0;

    private static void due(int promise, String what, long got, long want) {
        if (got == want) {
            right++;
            return;
        }
        wrong++;
        System.out.println("promise " + promise + ": " + what + ": answered " + got + ", due is " + want);
    }

    public static void main(String[] args) {
        newObject();
        street();
        house();
        builtFrom();
        will();
        wall();
        one();
        feud();
        mark();
        typeAndClear();
        readFaults();
        readRefused();
        readAnew();
        fall();
        year();
        yearOverfull();
        move();
        undo();
        whatLeavesNothingToUndo();
        of();
        who();
        degree();
        ranks();
        heir();
        wills();
        buildFor();
        adopts();
        lives();
        stand();
        overfull();
        orders();
        safe();
        moves();
        share();
        plaster();
        gables();
        doors();
        drawn();
        part();
        images();
        status();
        count();
        digest();
        full();
        System.out.println("PromiseTest: " + right + " answers as due, " + wrong + " not");
        if (wrong != 0) System.exit(1);
    }

    /** Houses of 2 rooms, worth 50, beams 10. */
    private static HouseHeirs houses(int n) {
        HouseHeirs x = new HouseHeirs();
        for (int i = 0; i < n; i++) x.house(2, 50, 10);
        return x;
    }

    /** Each house built from the one ahead of it. */
    private static HouseHeirs line(int n) {
        HouseHeirs x = houses(n);
        for (int i = 1; i < n; i++) x.builtFrom(i, i - 1);
        return x;
    }

    private static HouseHeirs typed(HouseHeirs x, String s) {
        x.clear();
        for (int i = 0; i < s.length(); i++) x.type(s.charAt(i));
        return x;
    }

    private static int reads(String s) {
        return typed(new HouseHeirs(), s).read();
    }

    private static void newObject() {
        HouseHeirs x = new HouseHeirs();
        for (int what = 0; what <= 8; what++) due(1, "count(" + what + ")", x.count(what), 0);
        due(1, "above", x.part(0), 0);
        due(1, "below", x.part(1), 1);
        for (int what = 0; what < 3; what++) due(1, "status(" + what + ")", x.status(what), 0);
        due(1, "no image", x.from(0), NO);
        due(1, "no image", x.from(1), NO);
        due(1, "no feud yet", x.feud(0, 1, false), NO);
        due(1, "NONE", HouseHeirs.NONE, -1);
        due(1, "BAD", HouseHeirs.BAD, -2);
        due(1, "NO", HouseHeirs.NO, -3);
        due(1, "FULL", HouseHeirs.FULL, -4);
    }

    private static void street() {
        HouseHeirs x = line(3);
        x.wall(0, 2, true);
        x.one(1, 0);
        x.feud(0, 1, true);
        x.year(2);
        x.type(65);
        x.share(0);
        x.image(0);
        due(2, "how many there were", x.street(), 3);
        for (int what = 0; what <= 7; what++) due(2, "count(" + what + ")", x.count(what), 0);
        due(2, "the text stays", x.count(8), 1);
        due(2, "the fraction stays", x.part(0), 25);
        due(2, "nothing to undo", x.undo(), NO);
        due(2, "anew", x.street(), 0);
        due(2, "the feud is gone", x.feud(0, 1, true), 1);
        x.house(1, 1, 1);
        x.house(1, 1, 1);
        x.house(1, 1, 1);
        due(2, "the wall is gone", x.wall(0, 2, true), 1);
        due(2, "from is gone", x.of(2, 3), NONE);
        due(2, "images stay", x.from(0), 1);
        due(2, "images stay", x.count(6), 2);
    }

    private static void house() {
        HouseHeirs x = new HouseHeirs();
        due(3, "first", x.house(1, 0, 0), 0);
        due(3, "second", x.house(9, 99, 99), 1);
        due(3, "rooms 0", x.house(0, 5, 5), BAD);
        due(3, "rooms 10", x.house(10, 5, 5), BAD);
        due(3, "worth -1", x.house(5, -1, 5), BAD);
        due(3, "worth 100", x.house(5, 100, 5), BAD);
        due(3, "beams -1", x.house(5, 5, -1), BAD);
        due(3, "beams 100", x.house(5, 5, 100), BAD);
        due(3, "by law", x.of(1, 4), 0);
        due(3, "from none", x.of(1, 3), NONE);
        due(3, "stands", x.of(1, 5), 1);
        due(3, "no marks", x.of(1, 7), 0);
        x.house(1, 1, 1);
        x.house(1, 1, 1);
        due(3, "fifth", x.house(1, 1, 1), 4);
        due(3, "sixth", x.house(1, 1, 1), FULL);
        due(3, "BAD ahead of FULL", x.house(0, 1, 1), BAD);
        due(3, "how many", x.count(0), 5);
        due(3, "STATUS", x.status(0), 7);
        due(3, "STATUS", x.status(2), 1);
    }

    private static void builtFrom() {
        HouseHeirs x = houses(3);
        due(4, "was none", x.builtFrom(2, 1), NONE);
        due(4, "was 1", x.builtFrom(2, 0), 1);
        due(4, "was 0", x.builtFrom(2, NONE), 0);
        due(4, "none", x.of(2, 3), NONE);
        due(4, "of itself", x.builtFrom(1, 1), -10);
        due(4, "of a greater one", x.builtFrom(0, 1), -10);
        due(4, "below none", x.builtFrom(1, -2), -10);
        due(4, "no such house", x.builtFrom(3, 0), -10);
        due(4, "no such house", x.builtFrom(-1, NONE), -10);
        due(4, "the first, from none", x.builtFrom(0, NONE), NONE);
        due(4, "STATUS", x.status(0), 5);
        x.fall(1);
        due(4, "fallen ones too", x.builtFrom(1, 0), NONE);
    }

    private static void will() {
        HouseHeirs x = houses(1);
        due(5, "was law", x.will(0, 5), 0);
        due(5, "was hoard", x.will(0, 1), 5);
        due(5, "kind 6", x.will(0, 6), BAD);
        due(5, "kind -1", x.will(0, -1), BAD);
        due(5, "no such house", x.will(1, 0), BAD);
        due(5, "no such house", x.will(-1, 0), BAD);
        due(5, "it stays", x.of(0, 4), 1);
    }

    private static void wall() {
        HouseHeirs x = houses(3);
        due(6, "a wall", x.wall(0, 2, true), 1);
        due(6, "it is so", x.wall(2, 0, true), NO);
        due(6, "one wall", x.count(4), 1);
        due(6, "none there", x.wall(0, 1, false), NO);
        due(6, "taken away", x.wall(2, 0, false), 1);
        due(6, "no wall", x.count(4), 0);
        due(6, "alike", x.wall(1, 1, true), BAD);
        due(6, "alike", x.wall(1, 1, false), BAD);
        due(6, "no such house", x.wall(0, 3, true), BAD);
        due(6, "no such house", x.wall(-1, 0, true), BAD);
        x.fall(0);
        due(6, "of fallen ones too", x.wall(0, 1, true), 1);
        due(6, "of fallen ones too", x.count(4), 1);
        due(6, "STATUS", x.status(1), 2);
    }

    private static void one() {
        HouseHeirs x = houses(2);
        x.fall(1);
        due(7, "in a house", x.one(3, 0), 0);
        due(7, "out", x.one(0, NONE), 1);
        due(7, "fallen", x.one(0, 1), NO);
        due(7, "family 4", x.one(4, 0), BAD);
        due(7, "family -1", x.one(-1, 0), BAD);
        due(7, "BAD ahead of NO", x.one(4, 1), BAD);
        due(7, "no such house", x.one(0, 2), BAD);
        due(7, "no such house", x.one(0, -2), BAD);
        for (int i = 2; i < 6; i++) due(7, "more", x.one(0, 0), i);
        due(7, "seventh", x.one(0, 0), FULL);
        due(7, "NO ahead of FULL", x.one(0, 1), NO);
        due(7, "how many", x.count(2), 6);
    }

    private static void feud() {
        HouseHeirs x = new HouseHeirs();
        due(8, "a feud", x.feud(3, 0, true), 1);
        due(8, "it is so", x.feud(0, 3, true), NO);
        due(8, "how many", x.count(5), 1);
        due(8, "none there", x.feud(1, 2, false), NO);
        due(8, "over", x.feud(0, 3, false), 1);
        due(8, "how many", x.count(5), 0);
        due(8, "alike", x.feud(2, 2, true), BAD);
        due(8, "family 4", x.feud(0, 4, true), BAD);
        due(8, "family -1", x.feud(-1, 0, true), BAD);
        due(8, "family 4", x.feud(4, 0, true), BAD);
        due(8, "family -1", x.feud(0, -1, true), BAD);
        due(8, "family -1", x.feud(0, -1, false), BAD);
        x.feud(1, 0, true);
        due(8, "either way round", x.feud(1, 0, true), NO);
        due(8, "either way round", x.feud(0, 1, true), NO);
    }

    private static void mark() {
        HouseHeirs x = houses(1);
        due(9, "were 0", x.mark(0, 255), 0);
        due(9, "were 255", x.mark(0, 7), 255);
        due(9, "256", x.mark(0, 256), BAD);
        due(9, "-1", x.mark(0, -1), BAD);
        due(9, "no such house", x.mark(1, 0), BAD);
        due(9, "they stay", x.of(0, 7), 7);
    }

    private static void typeAndClear() {
        HouseHeirs x = new HouseHeirs();
        due(10, "128", x.type(128), BAD);
        due(10, "-1", x.type(-1), BAD);
        for (int i = 1; i <= 150; i++) due(10, "byte " + i, x.type(i % 128), i);
        due(10, "151st", x.type(0), FULL);
        due(10, "BAD ahead of FULL", x.type(128), BAD);
        due(10, "how many", x.count(8), 150);
        due(11, "had", x.clear(), 150);
        due(11, "empty", x.clear(), 0);
        due(11, "empty", x.count(8), 0);
        due(11, "read as empty", x.read(), -10);
    }

    private static void readFaults() {
        due(12, "empty", reads(""), -10);
        due(12, "blanks alone", reads("   "), -13);
        due(12, "too early", reads("street"), -16);
        due(12, "too early, blanks", reads("street "), -17);
        due(12, "too early in an item", reads("street;house 1 2"), -26);
        due(12, "a word that is none", reads("stree;"), -10);
        due(12, "words that stand together", reads("streethouse;"), -10);
        due(12, "z is a letter", reads("streetz;"), -10);
        due(12, "ahead of street", reads("house 1 1 1;street;"), -10);
        due(12, "; ahead of street", reads(" ;street;"), -11);
        due(12, "street again", reads("street; street;"), -18);
        due(12, "two ;", reads("street;;"), -17);
        due(12, "three figures", reads("street;house 1 2 003;"), -27);
        due(12, "a number too many", reads("street;house 1 2 3 4;"), -29);
        due(12, "a number where a word is due", reads("street;1;"), -17);
        due(12, "a word where a number is due", reads("street;wall a 0;"), -22);
        due(12, "; where a number is due", reads("street;wall 0;"), -23);
        due(12, "a capital", reads("Street;"), -10);
        due(12, "a byte that begins none", reads("street;\t"), -17);
        due(12, "a byte behind a word", reads("street!;"), -16);
        due(12, "a minus", reads("street;one 0 -1;"), -23);
        due(12, "byte 0", reads("street;\0"), -17);
        due(12, "{ is no letter", reads("street;{"), -17);
        due(12, "` is no letter", reads("street;`"), -17);
        due(12, ": is no figure", reads("street;wall :"), -22);
        due(12, "/ is no figure", reads("street;wall /"), -22);
        due(12, "a fault ahead of a refused item", reads("street;house 0 1 1;x"), -29);
        HouseHeirs x = typed(houses(2), "x");
        due(12, "fault", x.read(), -10);
        due(12, "nothing changes", x.count(0), 2);
        due(12, "no status", x.status(0) + x.status(1) + x.status(2), 0);
    }

    private static void readRefused() {
        due(12, "rooms 0", reads("street;house 0 1 1;"), -1001);
        due(12, "worth 99, beams 99", reads("street;house 9 99 99;"), 2);
        due(12, "from a greater one", reads("street;house 1 1 1;house 1 1 1;from 0 1;"), -1003);
        due(12, "from no house", reads("street;from 0 0;"), -1001);
        due(12, "kind 6", reads("street;house 1 1 1;will 0 6;"), -1002);
        due(12, "wall again", reads("street;house1 1 1;house1 1 1;wall 0 1;wall 1 0;"), -1004);
        due(12, "one in no house", reads("street;one 0 0;"), -1001);
        due(12, "family 4", reads("street;house 1 1 1;one 4 0;"), -1002);
        due(12, "feud of one", reads("street;feud 1 1;"), -1001);
        due(12, "feud again", reads("street;feud 1 2;feud 2 1;"), -1002);
        due(12, "six houses", reads("street;house1 1 1;house1 1 1;house1 1 1;house1 1 1;house1 1 1;house1 1 1;"), -1006);
        due(12, "seven people", reads("street;house1 1 1;one0 0;one0 0;one0 0;one0 0;one0 0;one0 0;one0 0;"), -1008);
        HouseHeirs x = line(3);
        x.one(1, 2);
        x.year(1);
        long before = typed(x, "street;house 1 1 1;one 0 1;").digest();
        due(12, "refused", x.read(), -1002);
        due(12, "nothing changes", x.digest(), before);
        due(12, "what may be undone stays", x.undo(), 1);
        due(12, "items are no status", x.status(0) + x.status(1) + x.status(2), 0);
    }

    private static void readAnew() {
        HouseHeirs x = line(4);
        x.mark(0, 9);
        x.feud(0, 1, true);
        x.one(2, 3);
        x.share(0);
        x.image(0);
        x.year(3);
        typed(x, "  street ;house 3 20 07;house9 0 0;from1 0;will 1 5;wall 1 0;one 3 1;feud 2 3;  ");
        int bytes = x.count(8);
        due(12, "items", x.read(), 8);
        due(12, "houses", x.count(0), 2);
        due(12, "people", x.count(2), 1);
        due(12, "walls", x.count(4), 1);
        due(12, "feuds", x.count(5), 1);
        due(12, "the year", x.count(6), 0);
        due(12, "nothing to undo", x.count(7), 0);
        due(12, "the text stays", x.count(8), bytes);
        due(12, "rooms", x.of(0, 0), 3);
        due(12, "worth", x.of(0, 1), 20);
        due(12, "beams", x.of(0, 2), 7);
        due(12, "from", x.of(1, 3), 0);
        due(12, "will", x.of(1, 4), 5);
        due(12, "marks", x.of(0, 7), 0);
        due(12, "family", x.who(0, 0), 3);
        due(12, "house", x.who(0, 1), 1);
        due(12, "the feud", x.feud(2, 3, true), NO);
        due(12, "no feud of before", x.feud(0, 1, false), NO);
        due(12, "the fraction stays", x.part(0), 50);
        due(12, "the image stays", x.from(0), 1);
        due(12, "the image stays", x.count(0), 4);
        due(12, "street alone", reads("street;"), 1);
        due(12, "ten items of 7 bytes", reads("street;house1 1 1;one0 0;one0 0;one0 0;one0 0;one0 0;one0 0;feud0 1;feud0 2;feud0 3;feud1 2;feud1 3;feud2 3;will0 1;will0 2;will0 3;"), 17);
    }

    private static void fall() {
        HouseHeirs x = line(3);
        x.one(0, 1);
        x.one(1, 1);
        x.one(2, 0);
        due(13, "the heir", x.fall(1), 0);
        due(13, "all go there", x.who(0, 1), 0);
        due(13, "all go there", x.of(0, 6), 7);
        due(13, "it stands no more", x.of(1, 5), 0);
        due(13, "again", x.fall(1), -20);
        due(13, "over a fallen one", x.fall(0), 2);
        due(13, "no heir", x.fall(2), NONE);
        due(13, "they sleep out", x.who(2, 1), NONE);
        due(13, "no such house", x.fall(3), -10);
        due(13, "no such house", x.fall(-1), -10);
        due(13, "STATUS", x.status(0), 2);
        due(13, "STATUS", x.status(1), 1);
        due(13, "three to undo", x.count(7), 3);
    }

    private static void year() {
        HouseHeirs x = new HouseHeirs();
        due(14, "no houses", x.year(20), 0);
        due(14, "the year", x.count(6), 20);
        due(14, "0 years", x.year(0), BAD);
        due(14, "21 years", x.year(21), BAD);
        x.street();
        x.house(2, 50, 97);
        x.house(2, 50, 98);
        x.house(2, 50, 10);
        x.builtFrom(1, 0);
        x.builtFrom(2, 1);
        x.one(0, 0);
        x.one(0, 1);
        due(14, "all stand", x.year(1), 3);
        due(14, "a year older", x.of(0, 2), 98);
        due(14, "one falls", x.year(1), 2);
        due(14, "beams 100", x.of(1, 2), 100);
        due(14, "moved to the lesser", x.who(1, 1), 0);
        due(14, "the next falls", x.year(1), 1);
        due(14, "kin over a fallen one", x.of(2, 6), 3);
        due(14, "fallen ones age no more", x.of(1, 2), 100);
        due(14, "each year may be undone", x.count(7), 3);
        x.undo();
        due(14, "a year less", x.count(6), 2);
        due(14, "the house stands", x.of(0, 5), 1);
        HouseHeirs y = new HouseHeirs();
        y.house(1, 1, 99);
        y.house(1, 1, 99);
        y.house(9, 1, 1);
        y.builtFrom(1, 0);
        y.builtFrom(2, 1);
        y.one(0, 0);
        due(14, "both fall, one behind the other", y.year(1), 1);
        due(14, "by numbers, from 0 over 1 to 2", y.who(0, 1), 2);
    }

    private static void yearOverfull() {
        HouseHeirs x = new HouseHeirs();
        x.house(1, 1, 97);
        x.house(2, 1, 97);
        x.one(0, 0);
        x.one(0, 0);
        x.one(0, 1);
        x.one(0, 1);
        x.year(1);
        due(14, "two years older", x.of(0, 2), 99);
        due(14, "just full: one", x.of(1, 2), 98);
        x.year(1);
        due(14, "101", x.of(0, 2), 101);
        due(14, "fallen", x.of(0, 5), 0);
        due(14, "no kin: out", x.count(3), 2);
    }

    private static void move() {
        HouseHeirs x = houses(3);
        x.one(0, 0);
        x.one(1, NONE);
        x.fall(2);
        due(15, "was in 0", x.move(0, 1), 0);
        due(15, "lives there", x.move(0, 1), -20);
        due(15, "fallen", x.move(0, 2), -20);
        due(15, "was in 1", x.move(0, NONE), 1);
        due(15, "out already", x.move(0, NONE), -20);
        due(15, "was out", x.move(1, 0), NONE);
        due(15, "nobody", x.move(2, 0), -10);
        due(15, "nobody", x.move(-1, 0), -10);
        due(15, "no such house", x.move(0, 3), -10);
        due(15, "no such house", x.move(0, -2), -10);
        due(15, "STATUS", x.status(1), 3);
        due(15, "STATUS", x.status(0), 4);
        due(15, "to undo", x.count(7), 4);
    }

    private static void undo() {
        HouseHeirs x = line(3);
        x.one(0, 1);
        due(16, "none", x.undo(), NO);
        x.fall(1);
        x.year(1);
        x.move(0, 2);
        due(16, "the move", x.undo(), 1);
        due(16, "back", x.who(0, 1), 0);
        due(16, "the year", x.undo(), 1);
        due(16, "back", x.count(6), 0);
        due(16, "beams", x.of(0, 2), 10);
        due(16, "the fall", x.undo(), 1);
        due(16, "stands", x.of(1, 5), 1);
        due(16, "lives there", x.who(0, 1), 1);
        due(16, "none", x.undo(), NO);
        x.year(12);
        due(16, "8 at most", x.count(7), 8);
        for (int i = 0; i < 8; i++) due(16, "one of 8", x.undo(), 1);
        due(16, "no more", x.undo(), NO);
        due(16, "four years stay", x.count(6), 4);
        due(16, "beams of four years", x.of(0, 2), 14);
        x.share(0);
        x.year(1);
        x.share(2);
        x.type(1);
        x.undo();
        due(16, "the fraction stays", x.part(0), 50);
        due(16, "the text stays", x.count(8), 1);
        due(16, "status stays", x.status(1), 3);
    }

    private static void whatLeavesNothingToUndo() {
        for (int what = 0; what < 10; what++) {
            HouseHeirs x = typed(line(3), "street;");
            x.year(2);
            long before = x.count(7);
            switch (what) {
                case 0: x.house(1, 1, 1); break;
                case 1: x.builtFrom(2, 0); break;
                case 2: x.will(0, 0); break;
                case 3: x.wall(0, 2, true); break;
                case 4: x.one(0, NONE); break;
                case 5: x.feud(0, 1, true); break;
                case 6: x.mark(0, 0); break;
                case 7: x.street(); break;
                case 8: x.builtFrom(0, NONE); break;
                default: x.read();
            }
            due(16, "there was some", before, 2);
            due(16, "told " + what + " leaves none", x.count(7), 0);
        }
        HouseHeirs y = line(3);
        y.year(1);
        y.house(0, 0, 0);
        y.builtFrom(0, 0);
        y.will(0, 9);
        y.wall(0, 1, false);
        y.one(9, 0);
        y.feud(1, 1, true);
        y.mark(0, -1);
        y.read();
        y.type(9);
        y.clear();
        y.share(0);
        y.image(0);
        y.stand(60);
        y.orders(7, 0, 0, 0);
        due(16, "what is refused, asked or typed leaves it", y.count(7), 1);
    }

    private static void of() {
        HouseHeirs x = new HouseHeirs();
        x.house(3, 44, 55);
        x.house(4, 66, 77);
        x.builtFrom(1, 0);
        x.will(1, 3);
        x.mark(1, 129);
        x.one(0, 1);
        x.one(0, 0);
        x.one(0, 1);
        int[] dues = {4, 66, 77, 0, 3, 1, 5, 129};
        for (int what = 0; what < 8; what++) due(17, "of(1, " + what + ")", x.of(1, what), dues[what]);
        due(17, "from none", x.of(0, 3), NONE);
        x.fall(1);
        due(17, "fallen", x.of(1, 5), 0);
        due(17, "nobody", x.of(1, 6), 0);
        due(17, "all", x.of(0, 6), 7);
        due(17, "what 8", x.of(0, 8), -10);
        due(17, "what -1", x.of(0, -1), -10);
        due(17, "no such house", x.of(2, 0), -10);
        due(17, "no such house", x.of(-1, 0), -10);
        due(17, "STATUS", x.status(0), 4);
    }

    private static void who() {
        HouseHeirs x = houses(1);
        x.one(2, 0);
        x.one(3, NONE);
        due(18, "family", x.who(0, 0), 2);
        due(18, "house", x.who(0, 1), 0);
        due(18, "out", x.who(1, 1), NONE);
        due(18, "what 2", x.who(0, 2), -10);
        due(18, "what -1", x.who(0, -1), -10);
        due(18, "nobody", x.who(2, 0), -10);
        due(18, "nobody", x.who(-1, 0), -10);
    }

    private static void degree() {
        HouseHeirs x = line(4);
        x.house(1, 1, 1);
        due(19, "itself", x.degree(2, 2), 0);
        due(19, "one step", x.degree(0, 1), 1);
        due(19, "the other way round", x.degree(3, 0), 3);
        due(19, "none", x.degree(0, 4), NONE);
        x.wall(0, 3, true);
        due(19, "by a wall", x.degree(0, 3), 1);
        due(19, "by a wall and on", x.degree(0, 2), 2);
        x.fall(3);
        due(19, "no wall with a fallen one", x.degree(0, 3), 3);
        x.fall(1);
        due(19, "blood over a fallen one", x.degree(0, 2), 2);
        x.wall(3, 4, true);
        due(19, "no wall of a fallen one", x.degree(0, 4), NONE);
        due(19, "nor from it", x.degree(3, 4), NONE);
        x.fall(4);
        due(19, "fallen, without kin", x.degree(4, 0), NONE);
        due(19, "no such house", x.degree(0, 5), BAD);
        due(19, "no such house", x.degree(-1, 0), BAD);
        due(19, "no such house", x.degree(BIG, BIG), BAD);
    }

    private static void ranks() {
        HouseHeirs x = new HouseHeirs();
        x.house(5, 0, 1);
        x.house(2, 99, 1);
        x.house(2, 9, 1);
        x.house(1, 50, 1);
        x.builtFrom(1, 0);
        x.builtFrom(2, 1);
        x.one(0, 0);
        x.one(1, 1);
        x.one(2, 2);
        x.one(2, 2);
        due(20, "law", x.rank(0, 2), 2);
        due(20, "law, none", x.rank(0, 3), 1000);
        x.will(0, 1);
        due(20, "roomy, just enough", x.rank(0, 1), 1);
        due(20, "roomy, full", x.rank(0, 2), 1000);
        due(20, "roomy, none by law", x.rank(0, 3), 1000);
        x.will(2, 1);
        due(20, "roomy, two come, one free", x.rank(2, 1), 1000);
        due(20, "roomy, two come, four free", x.rank(2, 0), 2);
        x.will(0, 2);
        due(20, "dear, worth 99", x.rank(0, 1), 1);
        due(20, "dear, worth 9", x.rank(0, 2), 20);
        due(20, "dear, none by law", x.rank(0, 3), 1000);
        x.will(3, 2);
        x.wall(3, 1, true);
        due(20, "dear, degree 2, worth 9", x.rank(3, 2), 20);
        due(20, "dear, degree 2, worth 0", x.rank(3, 0), 20);
        due(20, "dear, degree 1, worth 99", x.rank(3, 1), 1);
        x.will(1, 2);
        due(20, "dear, degree 1, worth 50", x.rank(1, 3), 5);
        x.will(1, 0);
        x.wall(3, 1, false);
        x.will(0, 3);
        due(20, "quiet", x.rank(0, 1), 1);
        due(20, "quiet, full", x.rank(0, 2), 1000);
        x.feud(0, 1, true);
        due(20, "quiet, feud", x.rank(0, 1), 1000);
        x.feud(0, 1, false);
        x.feud(0, 2, true);
        due(20, "quiet, a feud with another", x.rank(0, 1), 1);
        x.will(0, 4);
        due(20, "open, as law", x.rank(0, 2), 2);
        due(20, "open, 9", x.rank(0, 3), 9);
        x.will(0, 5);
        due(20, "hoard", x.rank(0, 2), -2);
        due(20, "hoard", x.rank(0, 1), -1);
        due(20, "hoard, 9", x.rank(0, 3), 9);
        x.one(3, 3);
        due(20, "hoard, 9 less 2", x.rank(0, 3), 7);
        HouseHeirs y = houses(2);
        y.builtFrom(1, 0);
        y.will(0, 3);
        y.feud(0, 1, true);
        y.one(1, 0);
        due(20, "quiet, nobody there", y.rank(0, 1), 1);
        y.one(0, 1);
        due(20, "quiet, a feud", y.rank(0, 1), 1000);
        due(20, "alike", x.rank(0, 0), -1000);
        due(20, "no such house", x.rank(0, 4), -1000);
        due(20, "no such house", x.rank(-1, 0), -1000);
        due(20, "STATUS", x.status(0), 3);
        x.fall(3);
        due(20, "fallen other", x.rank(0, 3), 1000);
        due(20, "fallen one", x.rank(3, 0), 1000);
    }

    private static void heir() {
        HouseHeirs x = line(3);
        due(21, "the lesser of like ones", x.heir(1), 0);
        due(21, "the least", x.heir(2), 1);
        x.will(1, 2);
        due(21, "still the lesser", x.heir(1), 0);
        HouseHeirs y = houses(2);
        due(21, "none", y.heir(0), NONE);
        y.will(0, 4);
        due(21, "open", y.heir(0), 1);
        y.fall(1);
        due(21, "none left", y.heir(0), NONE);
        due(21, "fallen", y.heir(1), NONE);
        due(21, "no such house", y.heir(2), -10);
        due(21, "no such house", y.heir(-1), -10);
        HouseHeirs z = new HouseHeirs();
        z.house(1, 0, 0);
        z.house(1, 0, 0);
        z.house(1, 99, 0);
        z.builtFrom(1, 0);
        z.builtFrom(2, 0);
        z.will(0, 2);
        due(21, "dear", z.heir(0), 2);
    }

    private static void wills() {
        HouseHeirs x = new HouseHeirs();
        x.house(1, 0, 0);
        x.house(1, 0, 0);
        x.house(3, 99, 0);
        x.house(3, 0, 0);
        x.builtFrom(1, 0);
        x.builtFrom(2, 1);
        x.one(0, 0);
        x.one(1, 1);
        x.one(1, 3);
        x.feud(0, 1, true);
        due(22, "law, dear, open, hoard", x.wills(0, 1), 1 + 4 + 16 + 32);
        due(22, "roomy, quiet", x.wills(0, 2), 2 + 8);
        due(22, "never", x.wills(0, 3), 0);
        x.will(0, 3);
        due(22, "whatever is told", x.wills(0, 1), 53);
        due(22, "open, hoard", x.wills(3, 0), 16 + 32);
        due(22, "0 is the lesser", x.wills(3, 1), 0);
        x.one(0, 1);
        due(22, "hoard goes to the fuller", x.wills(3, 1), 32);
        due(22, "open alone", x.wills(3, 0), 16);
        due(22, "alike", x.wills(1, 1), BAD);
        due(22, "no such house", x.wills(0, 4), BAD);
        due(22, "no such house", x.wills(-1, 0), BAD);
        x.fall(2);
        due(22, "fallen other", x.wills(0, 2), 0);
        due(22, "fallen one", x.wills(2, 0), 0);
    }

    private static void buildFor() {
        HouseHeirs x = line(3);
        x.house(1, 1, 1);
        due(23, "it is", x.buildFor(0, 1), 99);
        due(23, "never, 1 stays ahead", x.buildFor(0, 3), NONE);
        due(23, "a wall of its own", x.buildFor(3, 0), 3);
        due(23, "1 and 3", x.buildFor(3, 1), 13);
        due(23, "2 by a wall, else none", x.buildFor(3, 2), 23);
        due(23, "0 2: 0 is of degree 1 and less", x.buildFor(2, 0), 2);
        due(23, "alike", x.buildFor(2, 2), BAD);
        due(23, "no such house", x.buildFor(2, 4), BAD);
        due(23, "no such house", x.buildFor(-1, 2), BAD);
        due(23, "nothing changes", x.count(4), 0);
        x.fall(1);
        due(23, "not with a fallen one", x.buildFor(3, 1), NONE);
        due(23, "none for a fallen one", x.buildFor(1, 0), NONE);
        x.wall(0, 3, true);
        due(23, "of like ones the lesser", x.buildFor(3, 2), NONE);
        HouseHeirs y = houses(4);
        y.builtFrom(3, 1);
        y.will(3, 5);
        y.one(0, 1);
        for (int i = 0; i < 4; i++) y.one(0, 0);
        due(23, "it is 1", y.buildFor(3, 1), 99);
        due(23, "a wall of others, and 0 is of degree 2", y.buildFor(3, 0), 1);
    }

    private static void adopts() {
        HouseHeirs x = houses(4);
        due(24, "both, from none", x.adopts(0, 1), 2);
        x.wall(0, 1, true);
        due(24, "there is one", x.adopts(1, 0), NO);
        due(24, "2 alone: 0's stays", x.adopts(0, 2), 1);
        x.builtFrom(3, 2);
        due(24, "3 alone: 1's stays", x.adopts(1, 3), 1);
        due(24, "either way round", x.adopts(3, 1), 1);
        x.builtFrom(2, 0);
        due(24, "none has another", x.adopts(1, 2), 0);
        x.builtFrom(2, NONE);
        due(24, "alike", x.adopts(1, 1), BAD);
        due(24, "no such house", x.adopts(1, 4), BAD);
        due(24, "no such house", x.adopts(-1, 1), BAD);
        x.fall(3);
        due(24, "fallen", x.adopts(1, 3), NO);
        due(24, "nothing changes", x.count(4), 1);
    }

    private static void lives() {
        HouseHeirs x = new HouseHeirs();
        x.house(1, 1, 97);
        x.house(1, 1, 40);
        x.builtFrom(1, 0);
        x.one(0, 0);
        x.one(0, NONE);
        due(25, "now", x.lives(0, 0), 0);
        due(25, "in two", x.lives(0, 2), 0);
        due(25, "in three", x.lives(0, 3), 1);
        due(25, "in 59", x.lives(0, 59), 1);
        due(25, "in 60", x.lives(0, 60), NONE);
        due(25, "out", x.lives(1, 5), NONE);
        due(25, "in 61", x.lives(0, 61), -10);
        due(25, "in -1", x.lives(0, -1), -10);
        due(25, "nobody", x.lives(2, 0), -10);
        due(25, "nobody", x.lives(-1, 0), -10);
        due(25, "nothing changes", x.count(6), 0);
        due(25, "nothing changes", x.of(0, 2), 97);
    }

    private static void stand() {
        HouseHeirs x = new HouseHeirs();
        x.house(1, 1, 97);
        x.house(1, 1, 40);
        x.house(1, 1, 41);
        due(26, "now", x.stand(0), 7);
        due(26, "in three", x.stand(3), 6);
        due(26, "in 59", x.stand(59), 2);
        due(26, "in 60", x.stand(60), 0);
        due(26, "61", x.stand(61), BAD);
        due(26, "-1", x.stand(-1), BAD);
        due(26, "nothing changes", x.count(1), 3);
    }

    private static void overfull() {
        HouseHeirs x = new HouseHeirs();
        x.house(9, 1, 1);
        x.house(1, 1, 39);
        x.house(1, 1, 40);
        x.builtFrom(2, 1);
        x.one(0, 1);
        x.one(0, 2);
        due(27, "in 60", x.overfull(0), 60);
        due(27, "house 1", x.overfull(1), 1);
        x.street();
        x.house(9, 1, 1);
        x.house(1, 1, 38);
        x.house(1, 1, 39);
        x.builtFrom(2, 1);
        x.one(0, 1);
        x.one(0, 2);
        due(27, "in 61 is too late", x.overfull(0), NONE);
        due(27, "no house", x.overfull(1), NONE);
        x.move(0, 2);
        due(27, "now", x.overfull(0), 0);
        due(27, "house 2", x.overfull(1), 2);
        due(27, "what 2", x.overfull(2), -10);
        due(27, "what -1", x.overfull(-1), -10);
        x.year(1);
        x.move(0, 1);
        due(27, "years from now, not THE YEAR", x.overfull(0), 59);
        HouseHeirs y = new HouseHeirs();
        y.house(1, 1, 1);
        y.house(1, 1, 1);
        for (int i = 0; i < 2; i++) y.one(0, 1);
        for (int i = 0; i < 2; i++) y.one(0, 0);
        due(27, "the lesser of two", y.overfull(1), 0);
    }

    private static void orders() {
        HouseHeirs x = line(3);
        x.one(0, 0);
        due(28, "0, 1: to 2", x.orders(3, 0, 2, -1), 2);
        due(28, "the first order's first", x.orders(3, 0, 2, 0), 0);
        due(28, "its second", x.orders(3, 0, 2, 1), 1);
        due(28, "not so many", x.orders(3, 0, 2, 2), -5);
        due(28, "0, 2: to 1", x.orders(5, 0, 1, -1), 2);
        due(28, "none", x.orders(5, 0, 0, -1), 0);
        due(28, "none, whatever i is", x.orders(5, 0, 0, 0), NONE);
        due(28, "none, whatever i is", x.orders(5, 0, 0, BIG), NONE);
        due(28, "out", x.orders(7, 0, NONE, -1), 6);
        due(28, "the first of six", x.orders(7, 0, NONE, 2), 2);
        due(28, "nothing falls", x.orders(0, 0, 0, -1), 1);
        due(28, "nothing falls", x.orders(0, 0, 0, 0), -5);
        due(28, "i -2", x.orders(3, 0, 2, -2), -10);
        due(28, "nobody", x.orders(3, 1, 2, 0), -10);
        due(28, "nobody", x.orders(3, -1, 2, 0), -10);
        due(28, "no such house", x.orders(3, 0, 3, 0), -10);
        due(28, "no such house", x.orders(3, 0, -2, 0), -10);
        due(28, "no such houses", x.orders(8, 0, 0, 0), -10);
        due(28, "no such houses", x.orders(-1, 0, 0, 0), -10);
        due(28, "nothing changes", x.count(1), 3);
        x.fall(2);
        due(28, "fallen houses", x.orders(4, 0, 0, 0), -10);
        due(28, "to a fallen one", x.orders(1, 0, 2, -1), 0);
        HouseHeirs y = line(5);
        y.one(0, 4);
        y.will(4, 4);
        y.builtFrom(4, NONE);
        due(28, "4 to the lesser that stands: 4 falls last of 0 and 1", y.orders(19, 0, 2, -1), 6);
        due(28, "4 falls behind 1 and 0", y.orders(3, 0, 4, -1), 2);
        y.builtFrom(3, NONE);
        due(28, "3 falls alone, 4 to it last", y.orders(15, 0, 4, -1), 24);
        due(28, "some orders only", y.orders(24, 0, 0, -1), 2);
        due(28, "4 first, then 0, 1, 2 to none", y.orders(23, 0, 3, -1), 6);
        due(28, "the first of them ends with 4", y.orders(23, 0, 3, 3), 4);
    }

    private static void safe() {
        HouseHeirs x = line(3);
        x.one(0, 1);
        x.one(1, NONE);
        due(29, "blood over all", x.safe(0), 1 + 2 + 4 + 8 + 16 + 32);
        due(29, "out already", x.safe(1), 0);
        x.builtFrom(2, NONE);
        due(29, "open and hoard", x.safe(0), 48);
        x.builtFrom(2, 1);
        x.one(2, 2);
        x.one(2, 2);
        x.one(2, 2);
        due(29, "not roomy", x.safe(0), 1 + 4 + 16 + 32);
        due(29, "nobody", x.safe(5), BAD);
        due(29, "nobody", x.safe(-1), BAD);
        due(29, "the wills stay", x.of(0, 4), 0);
        x.fall(0);
        x.fall(1);
        due(29, "one stands: nothing falls", x.safe(0), 63);
        due(29, "one stands: out", x.safe(1), 0);
        x.fall(2);
        due(29, "none stands", x.safe(1), 63);
        HouseHeirs z = line(5);
        z.one(0, 0);
        due(29, "five houses, all kin", z.safe(0), 63);
        z.builtFrom(4, NONE);
        due(29, "only when all four others fall", z.safe(0), 48);
        HouseHeirs y = houses(2);
        y.one(0, 0);
        y.one(1, 1);
        y.builtFrom(1, 0);
        y.feud(0, 1, true);
        due(29, "not quiet", y.safe(0), 63 - 8);
    }

    private static void moves() {
        HouseHeirs x = houses(3);
        due(30, "nobody", x.moves(-1), 0);
        due(30, "nobody", x.moves(0), -5);
        x.one(0, 1);
        x.one(1, 1);
        x.one(2, 1);
        due(30, "one too many", x.moves(-1), 1);
        due(30, "the first to the least", x.moves(0), 0);
        due(30, "the others stay", x.moves(1), 1);
        due(30, "the others stay", x.moves(2), 1);
        due(30, "not so many people", x.moves(3), -5);
        x.feud(1, 2, true);
        due(30, "one moves", x.moves(-1), 1);
        due(30, "0 stays", x.moves(0), 1);
        due(30, "1 moves", x.moves(1), 0);
        due(30, "2 stays", x.moves(2), 1);
        x.one(3, NONE);
        due(30, "who sleeps out moves", x.moves(-1), 2);
        due(30, "to the least", x.moves(3), 0);
        due(30, "i -2", x.moves(-2), -10);
        x.fall(0);
        due(30, "to those that stand", x.moves(3), 2);
        due(30, "1 stays", x.moves(1), 1);
        due(30, "2 moves", x.moves(2), 2);
        x.fall(2);
        due(30, "none", x.moves(-1), NONE);
        due(30, "none", x.moves(0), NONE);
        due(30, "nothing changes", x.who(0, 1), 1);
        HouseHeirs y = new HouseHeirs();
        y.house(1, 1, 1);
        y.one(0, 0);
        y.one(0, NONE);
        due(30, "no room", y.moves(-1), NONE);
        HouseHeirs z = new HouseHeirs();
        due(30, "no house", z.one(0, NONE), 0);
        due(30, "no house", z.moves(-1), NONE);
        HouseHeirs u = houses(1);
        u.one(1, 0);
        u.feud(0, 1, true);
        due(30, "no feud with nobody", u.moves(-1), 0);
        u.feud(0, 1, false);
        u.one(2, 0);
        u.feud(1, 2, true);
        due(30, "a feud, one house", u.moves(-1), NONE);
        HouseHeirs v = houses(2);
        v.one(0, 1);
        due(30, "fewest ahead of first", v.moves(0), 1);
    }

    private static void share() {
        HouseHeirs x = new HouseHeirs();
        x.house(1, 96, 1);
        x.house(1, 97, 1);
        x.house(1, 0, 1);
        x.house(1, 5, 1);
        x.house(1, 7, 1);
        x.builtFrom(1, 0);
        x.builtFrom(2, 0);
        x.builtFrom(3, 2);
        due(31, "two", x.share(0), 2);
        due(31, "48", x.part(0), 48);
        due(31, "by 1", x.part(1), 1);
        due(31, "of the least degree alone", x.share(1), 1);
        due(31, "97", x.part(0), 97);
        due(31, "no kin", x.share(4), 0);
        due(31, "0", x.part(0), 0);
        due(31, "by 1", x.part(1), 1);
        due(31, "worth 0", x.share(2), 2);
        due(31, "0", x.part(0), 0);
        due(31, "by 1", x.part(1), 1);
        x.fall(0);
        x.builtFrom(4, 0);
        due(31, "those over a fallen one", x.share(1), 2);
        due(31, "97", x.part(0), 97);
        due(31, "by 2", x.part(1), 2);
        due(31, "a fallen one's too", x.share(0), 3);
        due(31, "32", x.part(0), 32);
        due(31, "no such house", x.share(5), BAD);
        due(31, "no such house", x.share(-1), BAD);
        due(31, "it stays", x.part(0), 32);
        HouseHeirs y = new HouseHeirs();
        for (int i = 0; i < 5; i++) y.house(1, 90, 1);
        for (int i = 1; i < 5; i++) y.wall(0, i, true);
        due(31, "four", y.share(0), 4);
        due(31, "45", y.part(0), 45);
        due(31, "by 2", y.part(1), 2);
    }

    private static void plaster() {
        HouseHeirs x = new HouseHeirs();
        due(32, "no houses", x.plaster(0, NONE), 1);
        x.house(1, 1, 1);
        due(32, "one house", x.plaster(0, NONE), 1);
        due(32, "of none", x.plaster(8, 0), NONE);
        x.house(1, 1, 1);
        x.house(1, 1, 1);
        x.mark(0, 15);
        x.mark(1, 7);
        x.mark(2, 3);
        due(32, "d 0", x.plaster(0, NONE), 0);
        due(32, "d 1", x.plaster(1, NONE), 1);
        due(32, "d 2", x.plaster(2, NONE), 2);
        due(32, "sure of 2, d 1", x.plaster(1, 2), 1);
        due(32, "not sure of 2, d 2", x.plaster(2, 2), NONE);
        due(32, "none of 2, d 0", x.plaster(0, 2), NONE);
        due(32, "sure of 1", x.plaster(8, 1), 0);
        due(32, "d 9", x.plaster(9, 0), -10);
        due(32, "d -1", x.plaster(-1, 0), -10);
        due(32, "no such house", x.plaster(0, 3), -10);
        due(32, "no such house", x.plaster(0, -2), -10);
        x.house(1, 1, 1);
        x.house(1, 1, 1);
        due(32, "d 8: 1 2 3 4", x.plaster(8, NONE), 24);
        due(32, "4 by 3 alone, d 0", x.plaster(0, 4), 3);
        HouseHeirs y = houses(3);
        y.mark(0, 3);
        due(32, "1 by none, 2 by 1", y.plaster(1, NONE), 0);
    }

    private static void gables() {
        HouseHeirs x = new HouseHeirs();
        due(33, "no houses", x.gables(0), 0);
        x.house(1, 1, 1);
        due(33, "0 is none", x.gables(0), 0);
        x.house(1, 1, 1);
        x.house(1, 1, 1);
        x.mark(0, 255);
        x.mark(1, 0);
        x.mark(2, 1);
        due(33, "d 0", x.gables(0), 6);
        due(33, "d 1", x.gables(1), 2);
        due(33, "d 7", x.gables(7), 2);
        due(33, "d 8", x.gables(8), 0);
        due(33, "d 9", x.gables(9), BAD);
        due(33, "d -1", x.gables(-1), BAD);
    }

    private static void doors() {
        HouseHeirs x = houses(3);
        x.one(0, 0);
        due(34, "one who opens gets 2 less 1: 01 and 10", x.doors(1, 2, 0, 0), 1);
        due(34, "the first opens", x.doors(1, 2, 0, 1), 10);
        due(34, "the second is the lesser house", x.doors(2, 1, 0, 1), 1);
        x.one(0, 1);
        x.one(0, 1);
        due(34, "1 is full: 2 less 1 less 1", x.doors(1, 2, 0, 0), 2);
        due(34, "the first", x.doors(1, 2, 0, 1), 1);
        due(34, "alike", x.doors(1, 1, 0, 0), -10);
        due(34, "alike", x.doors(0, 1, 0, 0), -10);
        due(34, "alike", x.doors(1, 0, 0, 0), -10);
        due(34, "what 2", x.doors(1, 2, 0, 2), -10);
        due(34, "what -1", x.doors(1, 2, 0, -1), -10);
        due(34, "no such house", x.doors(1, 3, 0, 0), -10);
        due(34, "no such house", x.doors(-1, 2, 0, 0), -10);
        due(34, "no such house", x.doors(1, 2, 3, 0), -10);
        x.fall(2);
        due(34, "fallen", x.doors(1, 2, 0, 0), -20);
        due(34, "fallen", x.doors(2, 1, 0, 0), -20);
        due(34, "fallen", x.doors(0, 1, 2, 0), -20);
        due(34, "BAD ahead of NO", x.doors(1, 2, 0, 2), -10);
        due(34, "nothing changes", x.count(3), 0);
        HouseHeirs y = line(4);
        y.house(1, 1, 1);
        y.one(0, 0);
        due(34, "1 is heir as it is; 2 of degree 2 opens and is", y.doors(1, 2, 0, 0), 0);
        due(34, "none rests", y.doors(1, 2, 0, 1), NONE);
        due(34, "4, open, is 6, behind 1", y.doors(1, 4, 0, 0), 1);
        due(34, "4, open, is 6, behind 1", y.doors(1, 4, 0, 1), 0);
        HouseHeirs z = houses(3);
        z.one(0, 0);
        z.one(0, 1);
        z.one(0, 1);
        due(34, "the second, full, gets 0 by opening: it may or not", z.doors(2, 1, 0, 0), 2);
        due(34, "the first", z.doors(2, 1, 0, 1), 1);
        HouseHeirs v = line(5);
        v.one(0, 0);
        due(34, "degree 4 less 3 is as degree 1: the lesser", v.doors(1, 4, 0, 0), 1);
        due(34, "so nobody opens", v.doors(1, 4, 0, 1), 0);
        v.will(0, 2);
        due(34, "dear: 10 less 3 is not yet ahead of 5", v.doors(1, 2, 0, 0), 1);
    }

    private static void drawn() {
        HouseHeirs x = houses(2);
        x.one(0, 0);
        x.one(0, 1);
        x.one(0, NONE);
        due(35, "no falls", x.drawn(5, 0), 1);
        due(35, "seed 0: X is 12345, 0 falls", x.drawn(0, 1), 2);
        due(35, "both", x.drawn(0, 2), 3);
        due(35, "more than stand", x.drawn(999999, 5), 3);
        x.move(0, 1);
        due(35, "0, empty, falls", x.drawn(0, 1), 1);
        due(35, "seed 1: X / 65536 is 16838, 0 falls", x.drawn(1, 1), 1);
        due(35, "seed 2: X / 65536 is 908, 0 falls", x.drawn(2, 1), 1);
        due(35, "seed 3: X / 65536 is 17747, 1 falls", x.drawn(3, 1), 3);
        due(35, "seed -1", x.drawn(-1, 1), BAD);
        due(35, "seed 1000000", x.drawn(1000000, 1), BAD);
        due(35, "m 6", x.drawn(1, 6), BAD);
        due(35, "m -1", x.drawn(1, -1), BAD);
        due(35, "nothing changes", x.count(1), 2);
        x.fall(0);
        due(35, "1, first of those that stand, falls", x.drawn(1, 1), 3);
    }

    private static void part() {
        HouseHeirs x = line(2);
        due(36, "above", x.part(0), 0);
        due(36, "below", x.part(1), 1);
        x.share(0);
        due(36, "above", x.part(0), 50);
        due(36, "what 2", x.part(2), BAD);
        due(36, "what -1", x.part(-1), BAD);
        due(36, "STATUS", x.status(0), 2);
    }

    private static void images() {
        HouseHeirs x = line(3);
        x.mark(1, 5);
        x.feud(1, 2, true);
        x.one(3, 2);
        x.year(2);
        x.share(0);
        x.type(7);
        due(37, "kept", x.image(0), 1);
        due(37, "2", x.image(2), BAD);
        due(37, "-1", x.image(-1), BAD);
        long before = x.digest();
        due(38, "none kept", x.from(1), NO);
        due(38, "2", x.from(2), BAD);
        due(38, "-1", x.from(-1), BAD);
        x.fall(2);
        x.image(1);
        x.street();
        x.house(9, 9, 9);
        x.feud(0, 1, true);
        due(38, "goes on", x.from(0), 1);
        due(38, "as it was", x.digest(), before);
        due(38, "what may be undone too", x.count(7), 2);
        due(38, "undone", x.undo(), 1);
        due(38, "the year", x.count(6), 1);
        x.type(8);
        x.share(4);
        due(38, "again", x.from(0), 1);
        due(38, "two years to undo again", x.count(7), 2);
        due(38, "the text is not kept", x.count(8), 2);
        due(38, "status is not kept", x.status(0), 5);
        x.share(1);
        due(38, "the other", x.from(1), 1);
        due(38, "the fraction is not kept", x.part(0), 25);
        due(38, "fallen there", x.of(2, 5), 0);
        due(38, "three to undo", x.count(7), 3);
        imagePast();
        x.house(1, 1, 1);
        x.image(0);
        x.from(1);
        x.from(0);
        due(37, "kept anew", x.count(0), 4);
        due(37, "nothing to undo was kept", x.count(7), 0);
    }

    /** What may be undone in an image is that of its street, whatever came since. */
    private static void imagePast() {
        HouseHeirs x = line(2);
        x.one(0, 1);
        x.year(1);
        x.fall(1);
        x.image(0);
        x.year(20);
        x.street();
        x.house(1, 1, 1);
        x.year(5);
        x.fall(0);
        x.from(0);
        x.undo();
        due(38, "it stood", x.of(1, 5), 1);
        due(38, "one lived there", x.who(0, 1), 1);
        due(38, "the year", x.count(6), 1);
        due(38, "beams", x.of(1, 2), 11);
        x.undo();
        due(38, "the year ahead of it", x.count(6), 0);
        due(38, "beams", x.of(0, 2), 10);
        due(38, "no more", x.undo(), NO);
    }

    /** Every call that may be refused, refused once each: STATUS counts it as what it is. */
    private static void statusOfEach() {
        HouseHeirs x = houses(3);
        x.fall(2);
        x.one(0, 0);
        int[] bads = {
            x.house(0, 0, 0), x.builtFrom(9, 0), x.will(0, 9), x.wall(0, 0, true), x.one(9, 0), x.feud(0, 0, true),
            x.mark(0, 256), x.type(128), x.fall(9), x.year(0), x.move(9, 0), x.of(0, 9), x.who(0, 9), x.degree(0, 9),
            x.rank(0, 9), x.heir(9), x.wills(0, 9), x.buildFor(0, 9), x.adopts(0, 9), x.lives(0, 61), x.stand(61),
            x.overfull(9), x.orders(0, 9, 0, 0), x.safe(9), x.moves(-2), x.share(9), x.plaster(9, 0), x.gables(9),
            x.doors(0, 1, 9, 0), x.drawn(-1, 0), (int) x.part(9), x.image(9), x.from(9), x.status(9), x.count(9),
            x.of(9, 0)};
        due(39, "each BAD", x.status(0), bads.length);
        due(39, "none NO", x.status(1), 0);
        int[] nos = {
            x.wall(0, 1, false), x.one(0, 2), x.feud(0, 1, false), x.fall(2), x.move(0, 2), x.adopts(0, 2),
            x.doors(0, 1, 2, 0), x.from(0)};
        x.mark(0, 0);
        due(39, "each NO", x.status(1), nos.length);
        due(39, "undo", x.undo(), NO);
        due(39, "undo", x.status(1), nos.length + 1);
        due(39, "no more BAD", x.status(0), bads.length);
        x.house(1, 1, 1);
        x.house(1, 1, 1);
        for (int i = 1; i < 6; i++) x.one(0, 0);
        for (int i = 0; i < 150; i++) x.type(0);
        int[] fulls = {x.house(1, 1, 1), x.one(0, 0), x.type(0)};
        due(39, "each FULL", x.status(2), fulls.length);
    }

    private static void status() {
        statusOfEach();
        HouseHeirs x = houses(5);
        x.house(1, 1, 1);
        x.house(0, 1, 1);
        x.undo();
        x.fall(9);
        x.heir(9);
        x.rank(0, 0);
        x.fall(0);
        x.fall(0);
        x.undo();
        due(39, "BAD", x.status(0), 4);
        due(39, "NO", x.status(1), 2);
        due(39, "FULL", x.status(2), 1);
        due(39, "3", x.status(3), -1);
        due(39, "-1", x.status(-1), -1);
        due(39, "counts as BAD", x.status(0), 6);
        x.one(0, 0);
        x.moves(9);
        x.read();
        due(39, "what is not refused does not count", x.status(0) + x.status(1) + x.status(2), 9);
    }

    private static void count() {
        HouseHeirs x = line(4);
        x.wall(0, 2, true);
        x.wall(1, 3, true);
        x.feud(0, 1, true);
        x.one(0, 1);
        x.one(0, NONE);
        x.one(0, NONE);
        x.type(1);
        x.year(3);
        x.fall(3);
        int[] dues = {4, 3, 3, 2, 2, 1, 3, 4, 1};
        for (int what = 0; what < 9; what++) due(40, "count(" + what + ")", x.count(what), dues[what]);
        due(40, "9", x.count(9), BAD);
        due(40, "-1", x.count(-1), BAD);
    }

    private static void digest() {
        HouseHeirs x = new HouseHeirs();
        due(41, "a new one", x.digest(), chain(0, 0, 0, 0, 0, 0, 0, 0, 0, 0, 0, 0, 0, 0, 0, 0, 1));
        x.house(2, 3, 4);
        x.house(5, 6, 7);
        x.house(8, 9, 10);
        x.builtFrom(1, 0);
        x.will(2, 5);
        x.mark(0, 77);
        x.wall(0, 2, true);
        x.feud(1, 3, true);
        x.one(1, 2);
        x.one(2, NONE);
        x.type(65);
        x.fall(1);
        x.year(1);
        x.share(0);
        due(41, "all", x.digest(), chain(3, 2, 2, 1, 1, 1, 1, 2, 1,
            2, 3, 5, -1, 0, 1, 77, 5, 6, 7, 0, 0, 0, 0, 8, 9, 11, -1, 5, 1, 0,
            0, 1, 0, 1, 2, 2, -1, 0, 0, 0, 0, 1, 0, 3, 1));
    }

    /** A full street: five houses, six people. */
    private static void full() {
        HouseHeirs x = line(5);
        for (int i = 0; i < 6; i++) x.one(i % 4, i % 5);
        due(19, "degree", x.degree(0, 4), 4);
        due(21, "heir", x.heir(4), 3);
        due(22, "wills", x.wills(2, 1), 1 + 2 + 4 + 8 + 16);
        due(22, "0 is full: not roomy, not quiet", x.wills(1, 0), 1 + 4 + 16 + 32);
        due(23, "build", x.buildFor(4, 0), 4);
        due(23, "build", x.buildFor(4, 1), 14);
        due(23, "build never", x.buildFor(0, 4), NONE);
        due(24, "adopts", x.adopts(0, 4), 1);
        due(25, "lives", x.lives(5, 60), 0);
        due(26, "stand", x.stand(60), 31);
        due(27, "overfull", x.overfull(0), NONE);
        due(28, "orders", x.orders(30, 4, 0, -1), 24);
        due(29, "safe", x.safe(5), 1 + 4 + 16 + 32);
        due(30, "moves", x.moves(5), 0);
        due(31, "share", x.share(2), 2);
        due(32, "plaster", x.plaster(8, NONE), 24);
        due(33, "gables", x.gables(0), 0);
        due(34, "3 opens: two come, one too many", x.doors(3, 4, 0, 1), 10);
        due(35, "drawn", x.drawn(77, 5), 6);
        due(40, "walls", x.count(4), 0);
        due(13, "fall", x.fall(4), 3);
        due(14, "year", x.year(20), 4);
    }

    private static long chain(int... values) {
        long h = 967;
        for (int v : values) h = 31 * h + v;
        return h;
    }
}
