import java.lang.management.ManagementFactory;

/** All calls of a run live in one room: rows are made with the object, calls make next to nothing. */
public final class RoomTest {
    private static final int OBJECTS = 50;
    private static final long MOST_FOR_AN_OBJECT = 16000;
    private static final long MOST_FOR_CALLS = 4000;
    private static long sink = 0;

    public static void main(String[] args) {
        HouseHeirs warm = new HouseHeirs();
        allCalls(warm);
        long before = bytes();
        HouseHeirs[] made = new HouseHeirs[OBJECTS];
        for (int i = 0; i < OBJECTS; i++) made[i] = new HouseHeirs();
        long forObjects = (bytes() - before) / OBJECTS;
        before = bytes();
        allCalls(made[0]);
        long forCalls = bytes() - before;
        boolean fits = forObjects <= MOST_FOR_AN_OBJECT && forCalls <= MOST_FOR_CALLS;
        System.out.println("RoomTest: " + forObjects + " bytes an object, " + forCalls + " bytes for all calls " + (sink == 1 ? "." : ""));
        if (!fits) System.exit(1);
    }

    private static long bytes() {
        com.sun.management.ThreadMXBean bean = (com.sun.management.ThreadMXBean) ManagementFactory.getThreadMXBean();
        return bean.getThreadAllocatedBytes(Thread.currentThread().getId());
    }

    private static void allCalls(HouseHeirs x) {
        sink += x.street();
        for (int i = 0; i < 5; i++) sink += x.house(2, 20 * i, 90 + i) + x.builtFrom(i, i - 1) + x.will(i, i) + x.mark(i, i);
        sink += x.wall(0, 2, true);
        for (int i = 0; i < 6; i++) sink += x.one(i % 4, i % 5);
        sink += x.feud(0, 1, true) + x.clear();
        String street = "street;house 1 2 3;one 0 0;feud 0 1;";
        for (int i = 0; i < street.length(); i++) sink += x.type(street.charAt(i));
        sink += x.image(0) + x.read() + x.from(0);
        for (int i = 0; i < 20; i++) {
            sink += x.degree(0, 4) + x.rank(0, 4) + x.heir(0) + x.wills(0, 1) + x.buildFor(0, 3) + x.adopts(1, 3);
            sink += x.lives(0, 60) + x.stand(60) + x.overfull(0) + x.orders(31, 0, -1, 0) + x.safe(0) + x.moves(-1);
            sink += x.share(0) + x.plaster(8, -1) + x.gables(1) + x.doors(0, 1, 2, 1) + x.drawn(i, 5);
        }
        sink += x.fall(1) + x.year(3) + x.move(0, 4) + x.undo() + x.of(0, 6) + x.who(0, 1);
        sink += x.part(0) + x.status(0) + x.count(6) + x.digest() + x.image(1) + x.from(1);
    }
}
