import java.lang.reflect.Constructor;
import java.lang.reflect.Field;
import java.lang.reflect.Method;
import java.lang.reflect.Modifier;
import java.nio.charset.StandardCharsets;
import java.nio.file.Files;
import java.nio.file.Path;
import java.util.ArrayList;
import java.util.HashSet;
import java.util.List;
import java.util.Set;
import java.util.TreeSet;
import java.util.regex.Matcher;
import java.util.regex.Pattern;

/** What of LANGUAGE.md can be seen without reading: the face, forbidden words, sizes. args[0]: the source file. */
public final class LanguageTest {
    private static final String[] FACE = {
        "street()int", "house(int,int,int)int", "builtFrom(int,int)int", "will(int,int)int", "wall(int,int,boolean)int",
        "one(int,int)int", "feud(int,int,boolean)int", "mark(int,int)int", "type(int)int", "clear()int", "read()int",
        "fall(int)int", "year(int)int", "move(int,int)int", "undo()int", "of(int,int)int", "who(int,int)int",
        "degree(int,int)int", "rank(int,int)int", "heir(int)int", "wills(int,int)int", "buildFor(int,int)int",
        "adopts(int,int)int", "lives(int,int)int", "stand(int)int", "overfull(int)int", "orders(int,int,int,int)int",
        "safe(int)int", "moves(int)int", "share(int)int", "plaster(int,int)int", "gables(int)int",
        "doors(int,int,int,int)int", "drawn(int,int)int", "part(int)long", "image(int)int", "from(int)int",
        "status(int)int", "count(int)int", "digest()long"};
    private static final String[] FORBIDDEN = {
        "throw", "throws", "try", "catch", "finally", "synchronized", "assert", "import", "package", "protected",
        "volatile", "transient", "native", "strictfp", "System\\.out", "Thread", "Random", "Exact", "NaN", "equals",
        "hashCode", "toString"};
    private static final List<String> faults = new ArrayList<>();

    public static void main(String[] args) throws Exception {
        face();
        classes();
        source(Files.readString(Path.of(args[0]), StandardCharsets.ISO_8859_1));
        for (String fault : faults) System.out.println("LANGUAGE.md: " + fault);
        System.out.println("LanguageTest: " + faults.size() + " faults");
        if (!faults.isEmpty()) System.exit(1);
    }

    private static void face() {
        Set<String> want = new TreeSet<>(List.of(FACE));
        Set<String> got = new TreeSet<>();
        Class<?> c = HouseHeirs.class;
        if (c.getModifiers() != (Modifier.PUBLIC | Modifier.FINAL)) faults.add("rule 1: public final class");
        for (Method m : c.getDeclaredMethods()) {
            if (Modifier.isPublic(m.getModifiers())) got.add(signature(m));
            else if (!Modifier.isPrivate(m.getModifiers())) faults.add("rule 1: " + m);
        }
        if (!got.equals(want)) faults.add("rule 1: the face is " + got);
        for (Field f : c.getDeclaredFields()) {
            boolean constant = Set.of("NONE", "BAD", "NO", "FULL").contains(f.getName());
            if (Modifier.isPrivate(f.getModifiers()) == constant) faults.add("rule 1: " + f);
        }
        Constructor<?>[] made = c.getDeclaredConstructors();
        if (made.length != 1 || !Modifier.isPublic(made[0].getModifiers())) faults.add("rule 1: constructors");
    }

    private static String signature(Method m) {
        List<String> types = new ArrayList<>();
        for (Class<?> t : m.getParameterTypes()) types.add(t.getName());
        return m.getName() + "(" + String.join(",", types) + ")" + m.getReturnType().getName();
    }

    private static void classes() {
        List<Class<?>> all = new ArrayList<>(List.of(HouseHeirs.class.getDeclaredClasses()));
        if (all.size() + 1 > 12) faults.add("rule 11: " + all.size() + " classes inside");
        Set<String> names = new HashSet<>();
        for (String s : FACE) names.add(s.substring(0, s.indexOf('(')));
        for (Class<?> c : all) {
            if (!Modifier.isStatic(c.getModifiers()) || Modifier.isPublic(c.getModifiers())) faults.add("rule 1, 2: " + c);
            if (c.getDeclaredClasses().length > 0) faults.add("rule 2: classes inside " + c);
            for (Method m : c.getDeclaredMethods()) if (names.contains(m.getName())) faults.add("rule 1: " + m);
        }
        all.add(HouseHeirs.class);
        for (Class<?> c : all) {
            int fields = 0;
            for (Field f : c.getDeclaredFields()) {
                boolean isStatic = Modifier.isStatic(f.getModifiers());
                if (!isStatic) fields++;
                if (isStatic && !Modifier.isFinal(f.getModifiers())) faults.add("rule 5: " + f);
            }
            if (fields > 20) faults.add("rule 11: " + fields + " fields in " + c);
            for (Method m : c.getDeclaredMethods()) {
                if (m.getParameterCount() > 7) faults.add("rule 11: " + m);
                if (m.isSynthetic()) faults.add("rule 2: " + m);
            }
        }
    }

    private static void source(String text) {
        for (int i = 0; i < text.length(); i++) {
            if (text.charAt(i) > 126) faults.add("rule 4: a byte above 126 at " + i);
        }
        String code = text.replaceAll("(?s)/\\*.*?\\*/", "").replaceAll("//[^\n]*", "").replaceAll("\"[^\"\n]*\"", "\"\"");
        for (String word : FORBIDDEN) {
            if (Pattern.compile("\\b" + word + "\\b").matcher(code).find()) faults.add("rules 4, 6, 13: " + word);
        }
        if (code.contains("->") || code.contains("::")) faults.add("rule 2: a lambda or a method reference");
        if (Pattern.compile("static\\s*\\{").matcher(code).find()) faults.add("rule 5: a static block");
        Matcher library = Pattern.compile("\\b(Integer|Long|Math|System|Arrays|String|StringBuilder)\\.(\\w+)").matcher(code);
        Set<String> listed = Set.of("Integer.bitCount", "Math.max", "Math.min", "Math.floorMod", "System.arraycopy");
        while (library.find()) if (!listed.contains(library.group())) faults.add("rule 4: " + library.group());
        lengths(text);
    }

    private static void lengths(String text) {
        int start = 0;
        int line = 0;
        for (String s : text.split("\n")) {
            line++;
            if (s.matches("^ {4}(\\S.*)?[)] \\{$") || s.matches("^ {8}(private|public) .*[)] \\{$")) start = line;
            if (s.matches("^( {4}| {8})}$") && start > 0) {
                if (line - start > 60) faults.add("rule 11: a method of " + (line - start) + " lines at " + start);
                start = 0;
            }
        }
    }
}
