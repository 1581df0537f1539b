import java.lang.reflect.Method;
import java.lang.reflect.Modifier;
import java.net.URL;
import java.net.URLClassLoader;
import java.nio.file.Files;
import java.nio.file.Path;
import java.util.ArrayList;
import java.util.List;
import java.util.Map;
import java.util.TreeMap;
import java.util.regex.Matcher;
import java.util.regex.Pattern;
import javax.tools.JavaCompiler;
import javax.tools.ToolProvider;

/** README.md holds: its examples compile and answer what they say, its table names each call as it is. */
public final class ReadmeTest {
    private static final Path README = Path.of("README.md");
    private static final Pattern BLOCK = Pattern.compile("(?s)```java\n(.*?)```");
    private static final Pattern ASKED = Pattern.compile("(x\\..*);\\s*// (-?\\d+)(:.*)?");
    private static final Pattern ROW = Pattern.compile("\\| `(\\w+)\\((.*?)\\)` \\|.*\\| (.*?) ?\\|");
    private static final Pattern BAD = Pattern.compile("BAD( -\\d+)?.*");
    private static int right = 0;
    private static final List<String> faults = new ArrayList<>();

    public static void main(String[] args) throws Exception {
        String readme = Files.readString(README);
        examples(readme);
        table(readme);
        for (String fault : faults) System.out.println("README.md: " + fault);
        System.out.println("ReadmeTest: " + right + " answers as told, " + faults.size() + " not");
        if (!faults.isEmpty() || right == 0) System.exit(1);
    }

    /** The examples call it: what one line of them answers, and what README.md tells. */
    public static void due(String call, long got, long told) {
        if (got == told) right++;
        else faults.add(call + " answers " + got + ", told is " + told);
    }

    // ---- the examples

    private static void examples(String readme) throws Exception {
        StringBuilder source = new StringBuilder("public final class Examples {\n");
        Matcher block = BLOCK.matcher(readme);
        int blocks = 0;
        while (block.find()) source.append(method(blocks++, block.group(1)));
        Path out = Files.createTempDirectory("readme");
        try {
            run(out, source.append("}\n").toString(), blocks);
        } finally {
            for (String name : List.of("Examples.java", "Examples.class")) Files.deleteIfExists(out.resolve(name));
            Files.deleteIfExists(out);
        }
    }

    private static String method(int number, String block) {
        StringBuilder code = new StringBuilder("public static void run" + number + "() {\n");
        for (String line : block.split("\n")) {
            Matcher asked = ASKED.matcher(line.trim());
            if (asked.matches()) code.append("ReadmeTest.due(\"" + asked.group(1) + "\", " + asked.group(1) + ", " + asked.group(2) + ");\n");
            else if (line.contains("//")) faults.add("a line that tells no answer: " + line);
            else code.append(line).append('\n');
        }
        return code.append("}\n").toString();
    }

    private static void run(Path out, String source, int blocks) throws Exception {
        Path file = out.resolve("Examples.java");
        Files.writeString(file, source);
        JavaCompiler compiler = ToolProvider.getSystemJavaCompiler();
        String path = System.getProperty("java.class.path");
        if (compiler.run(null, null, null, "-cp", path, "-d", out.toString(), file.toString()) != 0) {
            faults.add("the examples do not compile");
            return;
        }
        try (URLClassLoader loader = new URLClassLoader(new URL[] {out.toUri().toURL()})) {
            Class<?> made = loader.loadClass("Examples");
            for (int i = 0; i < blocks; i++) made.getMethod("run" + i).invoke(null);
        }
    }

    // ---- the table of calls

    private static void table(String readme) throws Exception {
        Map<String, Method> calls = new TreeMap<>();
        for (Method m : HouseHeirs.class.getDeclaredMethods()) {
            if (Modifier.isPublic(m.getModifiers())) calls.put(m.getName(), m);
        }
        Matcher row = ROW.matcher(readme);
        while (row.find()) {
            Method call = calls.remove(row.group(1));
            if (call == null) faults.add("no call, or told twice: " + row.group(1));
            else rowHolds(call, row.group(2), row.group(3));
        }
        if (!calls.isEmpty()) faults.add("the table lacks " + calls.keySet());
    }

    private static void rowHolds(Method call, String arguments, String refused) throws Exception {
        int told = arguments.isEmpty() ? 0 : arguments.split(", ").length;
        due("how many arguments " + call.getName() + " has", call.getParameterCount(), told);
        Matcher bad = BAD.matcher(refused);
        if (told == 0 || !bad.matches()) {
            due(call.getName() + " may be BAD", told, 0);
            return;
        }
        HouseHeirs x = new HouseHeirs();
        long answer = ((Number) call.invoke(x, farOff(call))).longValue();
        due(call.getName() + " of BAD arguments", answer, bad.group(1) == null ? -2 : Long.parseLong(bad.group(1).trim()));
        due(call.getName() + " counts as BAD", x.status(0), 1);
    }

    private static Object[] farOff(Method call) {
        Object[] arguments = new Object[call.getParameterCount()];
        for (int i = 0; i < arguments.length; i++) {
            arguments[i] = call.getParameterTypes()[i] == boolean.class ? (Object) true : (Object) Integer.MIN_VALUE;
        }
        return arguments;
    }
}
