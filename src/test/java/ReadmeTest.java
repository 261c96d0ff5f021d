import java.lang.reflect.Array;
import java.lang.reflect.Field;
import java.lang.reflect.Modifier;
import java.net.URL;
import java.net.URLClassLoader;
import java.nio.charset.StandardCharsets;
import java.nio.file.Files;
import java.nio.file.Path;
import java.nio.file.Paths;
import java.util.Collections;
import java.util.IdentityHashMap;
import java.util.Set;
import java.util.TreeSet;
import java.util.regex.Matcher;
import java.util.regex.Pattern;

/** What README.md says: its program answers as it says, and names every call; the room of an object. */
public final class ReadmeTest extends Check {
    public static void main(String[] args) { run(ReadmeTest.class); }

    private static String readme() throws java.io.IOException {
        return new String(Files.readAllBytes(Paths.get("README.md")), StandardCharsets.UTF_8);
    }

    /** The blocks of README.md as one program; an answer that is told is asked. */
    private static String program() throws java.io.IOException {
        StringBuilder beside = new StringBuilder();
        StringBuilder inside = new StringBuilder();
        Matcher block = Pattern.compile("```java\n(.*?)```", Pattern.DOTALL).matcher(readme());
        Pattern told = Pattern.compile("(house\\.\\w+\\(.*\\)|tell\\(.*\\));\\s+// (-?\\d+|true|false)\\b.*");
        while (block.find()) {
            if (block.group(1).startsWith("static")) {
                beside.append(block.group(1));
                continue;
            }
            for (String line : block.group(1).split("\n")) {
                Matcher m = told.matcher(line);
                if (m.matches()) inside.append("ReadmeTest.answered(\"").append(m.group(1).replace("\"", "'")).append("\", ")
                        .append(m.group(1)).append(", ").append(m.group(2)).append(");\n");
                else inside.append(line).append('\n');
            }
        }
        return "public final class ReadmeRun {\n" + beside + "public static void main(String[] args) {\n" + inside + "}\n}\n";
    }

    /** Asked by the program, which can't see Check. */
    public static void answered(String call, long got, long want) { due(call, got, want); }

    public static void answered(String call, boolean got, boolean want) { due(call, got, want); }

    static void itsProgram() throws Exception {
        of("README.md: what a call answers stands behind it");
        String program = program();
        due("answers that are told", program.split("answered").length > 60, true);
        Set<String> missing = new TreeSet<>();
        for (java.lang.reflect.Method m : FigureTempers.class.getDeclaredMethods())
            if (Modifier.isPublic(m.getModifiers()) && !program.contains("house." + m.getName() + "(")) missing.add(m.getName());
        due("calls that README.md doesn't show " + missing, missing.size(), 0);
        Path folder = Files.createTempDirectory("readme");
        Path file = folder.resolve("ReadmeRun.java");
        Files.write(file, program.getBytes(StandardCharsets.UTF_8));
        int faults = new ProcessBuilder("javac", "-cp", System.getProperty("java.class.path"), "-d", folder.toString(), file.toString())
                .inheritIO().start().waitFor();
        due("faults of the program", faults, 0);
        if (faults == 0)
            try (URLClassLoader loader = new URLClassLoader(new URL[] {folder.toUri().toURL()}, ReadmeTest.class.getClassLoader())) {
                loader.loadClass("ReadmeRun").getMethod("main", String[].class).invoke(null, (Object) new String[0]);
            }
        for (String made : new String[] {"ReadmeRun.class", "ReadmeRun.java", ""}) Files.deleteIfExists(folder.resolve(made));
    }

    static void itsTests() throws Exception {
        of("README.md: it names every test");
        String readme = readme();
        try (java.util.stream.Stream<Path> files = Files.list(Paths.get("src/test/java"))) {
            for (Path file : (Iterable<Path>) files::iterator) {
                String name = file.getFileName().toString().replace(".java", "");
                if (name.endsWith("Test")) due("names " + name, readme.contains("`" + name + "`"), true);
            }
        }
    }

    static void itsRoom() throws Exception {
        of("README.md: some 20,000 fields and elements");
        Set<Object> met = Collections.newSetFromMap(new IdentityHashMap<>());
        long room = room(new FigureTempers(), met);
        due("fields and elements are some 20,000, not " + room, room > 18000 && room < 22000, true);
        due("objects and arrays are few, not " + met.size(), met.size() < 500, true);
    }

    private static long room(Object o, Set<Object> met) throws IllegalAccessException {
        if (o == null || !met.add(o)) return 0;
        long room = 0;
        if (o.getClass().isArray()) {
            room = Array.getLength(o);
            if (!o.getClass().getComponentType().isPrimitive())
                for (int i = 0; i < Array.getLength(o); i++) room += room(Array.get(o, i), met);
            return room;
        }
        for (Field f : o.getClass().getDeclaredFields()) {
            if (Modifier.isStatic(f.getModifiers())) continue;
            f.setAccessible(true);
            room += 1 + (f.getType().isPrimitive() ? 0 : room(f.get(o), met));
        }
        return room;
    }
}
