import java.lang.reflect.Constructor;
import java.lang.reflect.Field;
import java.lang.reflect.Method;
import java.lang.reflect.Modifier;
import java.nio.charset.StandardCharsets;
import java.nio.file.Files;
import java.nio.file.Paths;
import java.util.Arrays;
import java.util.HashSet;
import java.util.Set;
import java.util.TreeSet;
import java.util.regex.Matcher;
import java.util.regex.Pattern;

/** Those rules of LANGUAGE.md that can be seen from the file or the class alone. */
public final class LanguageTest {
    private static int wrong = 0;

    private static void refuse(boolean broken, String what) {
        if (broken) {
            wrong++;
            System.out.println(what);
        }
    }

    public static void main(String[] args) throws Exception {
        String file = new String(Files.readAllBytes(Paths.get("src/main/java/FigureTempers.java")), StandardCharsets.ISO_8859_1);
        words(plain(file));
        methods(plain(file));
        face();
        classes();
        System.out.println(wrong == 0 ? "within the language" : wrong + " faults of the language");
        if (wrong != 0) System.exit(1);
    }

    /** Without comments, texts and signs. */
    private static String plain(String file) {
        Matcher m = Pattern.compile("//[^\n]*|/\\*.*?\\*/|\"[^\"\n]*\"|'\\\\?.'", Pattern.DOTALL).matcher(file);
        StringBuffer b = new StringBuffer();
        while (m.find()) m.appendReplacement(b, m.group().startsWith("/") ? m.group().replaceAll("[^\n]", "") : "0");
        return m.appendTail(b).toString();
    }

    private static void words(String source) {
        String[] never = {"throw", "throws", "try", "catch", "finally", "synchronized", "assert", "hashCode", "toString", "native",
            "volatile", "transient", "Object", "Thread", "Random", "Scanner", "Exact", "package", "protected"};
        for (String word : never) refuse(Pattern.compile("\\b" + word + "\\b").matcher(source).find(), "the word " + word);
        refuse(source.contains("->"), "an arrow");
        refuse(source.contains("::"), "a reference to a method");
        Matcher library = Pattern.compile("\\b(System|Arrays|Math|Integer|Long)\\.(\\w+)").matcher(source);
        Set<String> known = new HashSet<>(Arrays.asList("System.arraycopy", "Arrays.fill", "Math.max", "Math.min", "Math.abs",
            "Math.floorMod", "Integer.bitCount"));
        while (library.find()) refuse(!known.contains(library.group()), "the library's " + library.group());
        Matcher imports = Pattern.compile("import [^;]*;").matcher(source);
        while (imports.find()) refuse(!imports.group().equals("import java.util.Arrays;"), imports.group());
        for (char c : source.toCharArray()) refuse(c > 126, "a sign beyond 126");
    }

    private static void methods(String source) {
        Matcher m = Pattern.compile("(?m)^( {4}| {8})((?:public |private |static |final )*)([\\w\\[\\]]+ )?(\\w+)\\(([^)]*)\\) \\{$").matcher(source);
        int count = 0;
        while (m.find()) {
            count++;
            int end = source.indexOf("\n" + m.group(1) + "}\n", m.end());
            String body = source.substring(m.end(), end);
            refuse(body.chars().filter(c -> c == '\n').count() > 60, "a long method: " + m.group(4));
            refuse(m.group(5).split(",").length > 7, "many parameters: " + m.group(4));
            // README.md: all room is taken when an object is made
            refuse(m.group(3) != null && Pattern.compile("\\bnew\\b").matcher(body).find(), "makes objects: " + m.group(4));
        }
        refuse(count < 100, "only " + count + " methods were looked at");
    }

    private static void face() {
        Set<String> open = new TreeSet<>();
        for (Method m : FigureTempers.class.getDeclaredMethods()) if (Modifier.isPublic(m.getModifiers())) open.add(m.getName());
        refuse(open.size() != 37, "public methods: " + open.size());
        for (Class<?> c : withInner())
            for (Method m : c.getDeclaredMethods()) {
                boolean hidden = c == FigureTempers.class ? Modifier.isPrivate(m.getModifiers()) || open.contains(m.getName()) : true;
                refuse(!hidden, "a visible method: " + m.getName());
                refuse(!Modifier.isPublic(m.getModifiers()) && open.contains(m.getName()), "bears a public name: " + m.getName());
            }
        for (Field f : FigureTempers.class.getDeclaredFields())
            refuse(!Modifier.isPrivate(f.getModifiers()) && !f.getName().equals("NONE"), "a visible field: " + f.getName());
        Constructor<?>[] made = FigureTempers.class.getDeclaredConstructors();
        refuse(made.length != 1 || made[0].getParameterCount() != 0, "constructors");
        refuse(!Modifier.isFinal(FigureTempers.class.getModifiers()), "the class is not final");
    }

    private static void classes() {
        refuse(withInner().length > 12, "classes: " + withInner().length);
        for (Class<?> c : withInner()) {
            int fields = 0;
            for (Field f : c.getDeclaredFields()) {
                boolean fixed = Modifier.isStatic(f.getModifiers());
                refuse(fixed && !Modifier.isFinal(f.getModifiers()), "static and not final: " + f.getName());
                fields += fixed ? 0 : 1;
            }
            refuse(fields > 20, "fields of " + c.getName() + ": " + fields);
            refuse(c != FigureTempers.class && !Modifier.isStatic(c.getModifiers()), "not static: " + c.getName());
        }
    }

    private static Class<?>[] withInner() {
        Class<?>[] inner = FigureTempers.class.getDeclaredClasses();
        Class<?>[] all = Arrays.copyOf(inner, inner.length + 1);
        all[inner.length] = FigureTempers.class;
        return all;
    }
}
