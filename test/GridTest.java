import java.lang.reflect.Method;
import java.util.ArrayList;
import java.util.Arrays;
import java.util.List;

/**
 * Every call with every argument at and around its bounds, on streets that are new, full, fallen, old: the answer,
 * the digest and STATUS behind it are held against HouseHeirsModel.
 */
public final class GridTest {
    /** Each call with its arguments, a letter each: see values(..). */
    private static final String[] CALLS = {
        "street", "house R W A", "builtFrom H H", "will H K", "wall H H Z", "one F H", "feud F F Z", "mark H M", "type C",
        "clear", "read", "fall H", "year Y", "move P H", "undo", "of H O", "who P O", "degree H H", "rank H H", "heir H",
        "wills H H", "buildFor H H", "adopts H H", "lives P T", "stand T", "overfull O", "orders S P H I", "safe P",
        "moves I", "share H", "plaster D H", "gables D", "doors H H H J", "drawn E G", "part O", "image O", "from O",
        "status O", "count O", "digest"};

    /** Streets, each told by calls. */
    private static final String[] STREETS = {
        "",
        "house 1 0 99; house 9 99 0; one 0 0; one 3 -1",
        "house 2 10 98; house 1 99 97; house 3 9 40; builtFrom 1 0; builtFrom 2 0; will 0 1; will 1 2; will 2 3; "
            + "one 0 0; one 1 1; one 2 2; one 0 2; feud 0 1 1; wall 1 2 1; mark 0 3; mark 1 1; mark 2 255; share 0; image 1",
        "house 1 50 99; house 2 60 98; house 3 70 97; house 1 80 96; house 9 90 95; builtFrom 1 0; builtFrom 3 2; builtFrom 4 1; "
            + "will 0 5; will 1 4; will 2 3; will 3 2; will 4 1; wall 0 2 1; wall 3 4 1; one 0 0; one 1 1; one 2 2; one 3 3; "
            + "one 0 4; one 1 4; feud 0 1 1; feud 2 3 1; mark 0 1; mark 1 3; mark 2 7; mark 3 6; mark 4 12; share 1; year 2; undo",
        "house 5 11 10; house 5 22 20; house 5 33 30; house 5 44 40; house 5 55 50; builtFrom 1 0; builtFrom 2 1; builtFrom 3 2; "
            + "wall 0 4 1; wall 0 3 1; one 0 4; one 1 3; one 2 2; one 3 1; one 0 0; image 0; fall 3; fall 1; move 0 -1; year 3; share 4",
        "house 1 1 1; house 1 1 1; house 1 1 1; one 0 0; one 1 1; one 1 2; builtFrom 2 1; fall 0; fall 1; fall 2; image 0",
        "text street;house 1 2 3;house4 5 6;from 1 0;one 2 1;feud 1 2;wall 0 1;",
        "house 1 1 1; one 0 0; text street;house 1 2 3;one 0 1;; year 9",
        "house 9 9 9; text street house",
        "house 1 30 10; house 1 20 10; house 1 10 10; house 1 0 10; will 0 4; will 1 4; will 2 5; will 3 5; one 0 0; one 0 0; "
            + "one 1 1; one 2 2; one 3 3; one 3 3; feud 0 3 1; feud 1 2 1; year 20; image 0; move 0 3; image 1"};

    private static long checked = 0;
    private static int wrong = 0;

    private final Object x = new HouseHeirs();
    private final Object model = new HouseHeirsModel();
    private int calls = 0;
    private boolean changed = false;

    public static void main(String[] args) throws Exception {
        for (String street : STREETS) for (String call : CALLS) grid(street, call.split(" "));
        System.out.println("GridTest: " + checked + " calls checked, " + wrong + " wrong");
        if (wrong != 0) System.exit(1);
    }

    private static void grid(String street, String[] call) throws Exception {
        GridTest at = told(street);
        List<int[]> all = new ArrayList<>();
        product(call, 1, new int[call.length - 1], all);
        for (int[] arguments : all) {
            // An object is used for at most 512 calls; a check is five of them.
            if (at.changed || at.calls > 512 - 5) at = told(street);
            at.check(street, call[0], arguments);
        }
    }

    private static void product(String[] call, int place, int[] arguments, List<int[]> all) {
        if (place == call.length) {
            all.add(arguments.clone());
            return;
        }
        for (int value : values(call[place].charAt(0))) {
            arguments[place - 1] = value;
            product(call, place + 1, arguments, all);
        }
    }

    private static int[] values(char letter) {
        int least = Integer.MIN_VALUE;
        int most = Integer.MAX_VALUE;
        switch (letter) {
            case 'R': return new int[] {least, -1, 0, 1, 9, 10, most};
            case 'W': return new int[] {least, -1, 0, 99, 100, most};
            case 'A': return new int[] {least, -1, 0, 99, 100, most};
            case 'H': return new int[] {least, -2, -1, 0, 1, 2, 3, 4, 5, 32, most};
            case 'K': return new int[] {least, -1, 0, 1, 2, 3, 4, 5, 6, most};
            case 'F': return new int[] {least, -1, 0, 1, 2, 3, 4, 32, most};
            case 'Z': return new int[] {0, 1};
            case 'M': return new int[] {least, -1, 0, 1, 255, 256, most};
            case 'C': return new int[] {least, -1, 0, 32, 59, 127, 128, most};
            case 'Y': return new int[] {least, -1, 0, 1, 2, 8, 20, 21, most};
            case 'P': return new int[] {least, -1, 0, 1, 2, 3, 4, 5, 6, 32, most};
            case 'O': return new int[] {least, -2, -1, 0, 1, 2, 3, 4, 5, 6, 7, 8, 9, most};
            case 'T': return new int[] {least, -1, 0, 1, 2, 3, 4, 5, 10, 40, 59, 60, 61, most};
            case 'S': return bits();
            case 'I': return new int[] {least, -2, -1, 0, 1, 3, 4, 5, 6, most};
            case 'D': return new int[] {least, -1, 0, 1, 2, 3, 7, 8, 9, most};
            case 'J': return new int[] {-1, 0, 1, 2};
            case 'E': return new int[] {least, -1, 0, 1, 2, 3, 4711, 500000, 999999, 1000000, most};
            default: return new int[] {least, -1, 0, 1, 2, 3, 4, 5, 6, most};
        }
    }

    private static int[] bits() {
        int[] all = new int[37];
        for (int i = 0; i <= 33; i++) all[i] = i;
        all[34] = Integer.MIN_VALUE;
        all[35] = -1;
        all[36] = 1 << 30;
        return all;
    }

    private static GridTest told(String street) throws Exception {
        GridTest at = new GridTest();
        for (String call : street.split("; ")) {
            if (call.startsWith("text ")) {
                for (char c : call.substring(5).toCharArray()) at.tell("type", c);
            } else if (!call.isEmpty()) {
                String[] parts = call.split(" ");
                int[] arguments = new int[parts.length - 1];
                for (int i = 0; i < arguments.length; i++) arguments[i] = Integer.parseInt(parts[i + 1]);
                at.tell(parts[0], arguments);
            }
        }
        at.changed = false;
        return at;
    }

    private void tell(String name, int... arguments) throws Exception {
        call(x, name, arguments);
        call(model, name, arguments);
        calls++;
    }

    private void check(String street, String name, int... arguments) throws Exception {
        long before = call(model, "digest");
        long got = call(x, name, arguments);
        long want = call(model, name, arguments);
        long digest = call(model, "digest");
        boolean like = got == want && digest == call(x, "digest");
        changed = digest != before;
        calls += 5;
        for (int k = 0; k < 3; k++) like &= call(x, "status", k) == call(model, "status", k);
        checked++;
        if (!like && wrong++ < 10) {
            System.out.println(street + "\n" + name + Arrays.toString(arguments) + " answered " + got + ", due is " + want
                + (got == want ? ", but the digest or STATUS differs" : ""));
        }
    }

    private static long call(Object on, String name, int... arguments) throws Exception {
        for (Method m : on.getClass().getDeclaredMethods()) {
            if (m.getName().equals(name) && !java.lang.reflect.Modifier.isStatic(m.getModifiers())) {
                Object[] given = new Object[arguments.length];
                for (int i = 0; i < given.length; i++) {
                    given[i] = m.getParameterTypes()[i] == boolean.class ? (Object) (arguments[i] != 0) : (Object) arguments[i];
                }
                m.setAccessible(true);
                return ((Number) m.invoke(on, given)).longValue();
            }
        }
        throw new IllegalArgumentException(name);
    }
}
