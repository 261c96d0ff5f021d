import java.lang.reflect.Method;
import java.util.ArrayList;
import java.util.List;
import java.util.Random;

/** Long runs of drawn calls, each answered by the class and by the model alike. */
public final class ModelTest {
    private static final Random RANDOM = new Random(20261118);
    private static final List<Method> CALLS = new ArrayList<>();
    private static int wrong = 0;

    private FigureTempers x = new FigureTempers();
    private Model model = new Model();
    private final List<String> told = new ArrayList<>();

    public static void main(String[] args) throws Exception {
        int runs = args.length > 0 ? Integer.parseInt(args[0]) : 400;
        if (args.length > 1) RANDOM.setSeed(Long.parseLong(args[1]));
        for (Method m : FigureTempers.class.getDeclaredMethods())
            if (java.lang.reflect.Modifier.isPublic(m.getModifiers())) CALLS.add(m);
        CALLS.sort((a, b) -> a.getName().compareTo(b.getName()));
        if (CALLS.size() != 37) { System.out.println("methods of the face: " + CALLS.size()); wrong++; }
        for (int i = 0; i < runs && wrong == 0; i++) new ModelTest().run(i);
        System.out.println(wrong == 0 ? "the model agrees" : "the model does not agree");
        if (wrong != 0) System.exit(1);
    }

    private static int in(int least, int most) { return least + RANDOM.nextInt(most - least + 1); }

    private static boolean once(int in) { return RANDOM.nextInt(in) == 0; }

    private void run(int number) throws Exception {
        List<Method> favourites = new ArrayList<>();
        for (int i = 0; i < 6; i++) favourites.add(CALLS.get(RANDOM.nextInt(CALLS.size())));
        boolean reading = once(8);
        int calls = 0;
        while (calls < 500 && wrong == 0) {
            if (once(reading ? 2 : 25)) { calls += tellText(Texts.draw(RANDOM)); continue; }
            if (reading && model.all.texts.size() == 4) both("back");
            Method m = once(2) ? CALLS.get(RANDOM.nextInt(CALLS.size())) : favourites.get(RANDOM.nextInt(6));
            if (m.getName().equals("feed") && !once(4)) continue;
            if (m.getName().equals("back") && !once(6)) continue;
            if (m.getName().equals("image") && !once(reading ? 30 : 3)) continue;
            if (m.getName().equals("undo") && !once(2)) continue;
            both(m, arguments(m));
            calls++;
        }
        if (wrong != 0) {
            System.out.println("in run " + number + ":");
            for (String s : told) System.out.println("  " + s);
        }
    }

    private int tellText(String text) throws Exception {
        int before = told.size();
        both("end", 0);
        byte[] b = text.getBytes("ISO-8859-1");
        for (int i = 0; i < b.length; i += 20) {
            int[] v = new int[5];
            for (int k = 0; k < 20; k++) v[k / 4] = v[k / 4] << 8 | (i + k < b.length ? b[i + k] & 255 : 32);
            both("feed", v[0], v[1], v[2], v[3], v[4]);
        }
        both("end", b.length);
        told.add("// " + text.replace('\n', '~'));
        both("text");
        both("fault", 0);
        both("fault", 1);
        if (!once(3)) both("by", in(0, 3));
        return told.size() - before;
    }

    private void both(String name, Object... args) throws Exception {
        for (Method m : CALLS) if (m.getName().equals(name)) both(m, args);
    }

    private void both(Method m, Object[] args) throws Exception {
        Method other = null;
        for (Method o : Model.class.getDeclaredMethods())
            if (o.getName().equals(m.getName()) && o.getParameterCount() == m.getParameterCount()) other = o;
        Object due = other.invoke(model, args);
        Object got;
        try {
            got = m.invoke(x, args);
        } catch (java.lang.reflect.InvocationTargetException e) {
            e.getCause().printStackTrace(System.out);
            got = "an exception";
        }
        told.add(m.getName() + java.util.Arrays.toString(args) + " -> " + got);
        if (!due.equals(got)) {
            wrong++;
            System.out.println(m.getName() + java.util.Arrays.toString(args) + " answered " + got + ", due is " + due);
        }
    }

    private static int wild() {
        int[] w = {-1, -2, -3, 12, 10, 100, 10000, 1024, Integer.MAX_VALUE, Integer.MIN_VALUE, 61, 31, 1000, -1000000};
        return w[RANDOM.nextInt(w.length)];
    }

    private static int set(int below, int most) {
        int s = 0;
        for (int i = in(1, most); i > 0; i--) s |= 1 << RANDOM.nextInt(below);
        return s;
    }

    private static int number() {
        switch (RANDOM.nextInt(5)) {
            case 0: return in(0, 9);
            case 1: return in(0, 99);
            case 2: return in(0, 999);
            case 3: return 11 * in(0, 909);
            default: return in(0, 9999);
        }
    }

    private Object[] arguments(Method m) {
        Object[] a = plain(m);
        if (once(12) && a.length > 0) {
            int i = RANDOM.nextInt(a.length);
            if (a[i] instanceof Integer) a[i] = wild();
        }
        return a;
    }

    private Object[] plain(Method m) {
        int rows = Math.max(1, model.all.rows.size());
        int row = RANDOM.nextInt(rows);
        switch (m.getName()) {
            case "row": {
                int n = in(1, 4);
                return new Object[] {number(), n > 1 ? number() : -1, n > 2 ? number() : -1, n > 3 ? number() : -1, RANDOM.nextInt(1 << n)};
            }
            case "reckon": return new Object[] {row};
            case "day": return new Object[] {once(4) ? in(1, 60) : in(1, 5)};
            case "turn": return new Object[] {in(0, 9), in(0, 9)};
            case "soothe": return new Object[] {in(0, 9), in(0, 9)};
            case "year": return new Object[] {in(0, 9999), in(1, 30)};
            case "feed": return new Object[] {RANDOM.nextInt(), RANDOM.nextInt(), in(0, 99), 0, -1};
            case "end": return new Object[] {in(0, 40)};
            case "fault": return new Object[] {in(-1, 2)};
            case "by": case "played": return new Object[] {in(-1, 3)};
            case "of": return new Object[] {in(0, 9), in(0, 3)};
            case "ofRow": return new Object[] {row, once(2) ? in(0, 5) : in(8, 26)};
            case "beside": return new Object[] {row, in(0, 8)};
            case "book": return new Object[] {in(-1, 40), in(0, 2)};
            case "foretold": return new Object[] {in(1, 30), in(-1, 9)};
            case "firstOff": return new Object[] {in(1, 30), row};
            case "ordered": return new Object[] {row, in(-1, 4)};
            case "split": return new Object[] {in(1, 99), in(-1, 3)};
            case "nearest": return new Object[] {number()};
            case "changed": return new Object[] {row, in(0, 1)};
            case "seen": {
                int out = model.has(row) ? model.ofRow(row, 2) : 0;
                return new Object[] {once(6) ? -1 : row, once(3) ? out + in(-3, 3) : out};
            }
            case "fits": return fits();
            case "tells": return new Object[] {set(10, 3)};
            case "ledger": return new Object[] {set(rows, 5), in(-1, 5)};
            case "order": return new Object[] {in(1, 100)};
            case "grouping": return new Object[] {in(1, 12)};
            case "carried": return new Object[] {number(), number(), RANDOM.nextBoolean()};
            case "game": return new Object[] {set(10, 6), RANDOM.nextBoolean()};
            case "debt": return new Object[] {in(0, 5), in(0, 5), number()};
            case "worth": return new Object[] {in(0, 5)};
            case "ring": return new Object[] {in(-2, 5)};
            case "about": return new Object[] {in(0, 8)};
            default: return new Object[0];
        }
    }

    private Object[] fits() {
        int figures = set(10, 3);
        List<Integer> m = Model.members(figures, 10);
        int figure = m.get(RANDOM.nextInt(m.size()));
        return new Object[] {figures, once(3) ? -1 : in(0, once(2) ? 10 : 1000), figure};
    }
}
