import java.lang.reflect.Method;
import java.util.ArrayList;
import java.util.Arrays;
import java.util.Comparator;
import java.util.HashMap;
import java.util.List;
import java.util.Map;

/** What the tests by hand share: what is due, how TEXTS are told, and all that can be seen of an object. */
class Check {
    /** One call; a boolean counts 1 or 0. */
    interface Call { long on(FigureTempers x); }

    /** A way to an object, the same one each time. */
    interface Make { FigureTempers made(); }

    /** Each side of an object is looked at on an object of its own, so that none comes near its 512th call. */
    private static final int SIDES = 8;

    private static int wrong = 0;
    private static int asked = 0;
    private static String sentence = "";
    /** How an object looks that was only made, for each way to one. */
    private static final Map<Make, List<Long>> LOOKS = new HashMap<>();

    /** Each method of a class of tests that takes nothing is a test; they come by name. */
    static void run(Class<?> tests) {
        Method[] methods = tests.getDeclaredMethods();
        Arrays.sort(methods, Comparator.comparing(Method::getName));
        int count = 0;
        for (Method m : methods) {
            if (m.getParameterCount() > 0 || m.getReturnType() != void.class || m.isSynthetic()) continue;
            count++;
            try {
                m.setAccessible(true);
                m.invoke(null);
            } catch (ReflectiveOperationException e) {
                wrong++;
                System.out.println(sentence + ": " + m.getName() + " was cut off");
                e.printStackTrace(System.out);
            }
        }
        System.out.println(count + " tests, " + asked + " answers asked, " + wrong + " not as due");
        if (wrong != 0 || count == 0) System.exit(1);
    }

    /** The promise or the term, and what it says, that is tested from here on. */
    static void of(String said) { sentence = said; }

    static void due(String call, long got, long want) {
        asked++;
        if (got != want) {
            wrong++;
            System.out.println(sentence + ": " + call + " answered " + got + ", due is " + want);
        }
    }

    static void due(String call, boolean got, boolean want) { due(call, bit(got), bit(want)); }

    static long bit(boolean b) { return b ? 1 : 0; }

    /** The tape has just these bytes then. */
    static void tape(FigureTempers x, String text) {
        x.end(0);
        for (int i = 0; i < text.length(); i += 20) {
            int[] v = new int[5];
            for (int k = 0; k < 20; k++) v[k / 4] = v[k / 4] << 8 | (i + k < text.length() ? text.charAt(i + k) : 32);
            x.feed(v[0], v[1], v[2], v[3], v[4]);
        }
        due("bytes of the tape", x.end(text.length()), text.length());
    }

    static int text(FigureTempers x, String text) {
        tape(x, text);
        return x.text();
    }

    /** This TEXT is told, and rules. */
    static void rule(FigureTempers x, String text) {
        int next = x.about(4);
        due("text of " + text, text(x, text), next);
        due("by of " + text, x.by(next), true);
    }

    /** A new object by this TEXT. */
    static FigureTempers by(String text) {
        FigureTempers x = new FigureTempers();
        rule(x, text);
        return x;
    }

    /** A ROW of one NUMBER with plus. */
    static int one(FigureTempers x, int number) { return x.row(number, -1, -1, -1, 0); }

    static void fault(String text, int what, int place) {
        FigureTempers x = new FigureTempers();
        due("text of " + text, text(x, text), what == 0 ? 0 : -1);
        due("fault(0) of " + text, x.fault(0), what);
        due("fault(1) of " + text, x.fault(1), place);
        due("tape behind " + text, x.about(8), 0);
        due("TEXTS behind " + text, x.about(4), what == 0 ? 1 : 0);
    }

    static String times(String s, int n) {
        StringBuilder b = new StringBuilder();
        for (int i = 0; i < n; i++) b.append(s);
        return b.toString();
    }

    /** DAY is so then, of one that is new or earlier; no more than 18 calls. */
    static void until(FigureTempers x, int day) {
        while (x.about(1) < day) x.day(Math.min(60, day - x.about(1)));
    }

    /** The call answers so, and afterwards all is as it was. */
    static void nothing(Make make, String call, Call asking, long want) {
        due(call, asking.on(make.made()), want);
        List<Long> before = LOOKS.computeIfAbsent(make, m -> look(m, null));
        due(call + " leaves all as it was:", look(make, asking).equals(before), true);
    }

    static List<Long> look(Make make, Call first) {
        List<Long> seen = new ArrayList<>();
        for (int side = 0; side < SIDES; side++) {
            FigureTempers x = make.made();
            if (first != null) first.on(x);
            look(x, side, seen);
        }
        return seen;
    }

    private static void look(FigureTempers x, int side, List<Long> seen) {
        switch (side) {
            case 0: figures(x, seen); break;
            case 1: rows(x, seen); break;
            case 2: book(x, seen); break;
            case 3: steps(x, seen, 31); break;
            case 4:
                seen.add((long) x.back());
                figures(x, seen);
                banks(x, seen);
                for (int row = 0; row < 12; row++) seen.add((long) x.ofRow(row, 2));
                steps(x, seen, 9);
                break;
            case 5: banks(x, seen); laws(x, seen); break;
            case 6:
                for (int i = 0; i < 2; i++) {
                    seen.add((long) x.fault(0));
                    seen.add((long) x.fault(1));
                    seen.add((long) x.text());
                    seen.add((long) x.about(8));
                }
                seen.add((long) x.played(x.about(4) - 1));
                figures(x, seen);
                break;
            default:
                for (int text = 0; text < 4; text++) seen.add((long) x.played(text));
                figures(x, seen);
                break;
        }
    }

    private static void figures(FigureTempers x, List<Long> seen) {
        for (int what = 0; what < 9; what++) seen.add((long) x.about(what));
        for (int figure = 0; figure < 10; figure++)
            for (int what = 0; what < 4; what++) seen.add((long) x.of(figure, what));
    }

    private static void rows(FigureTempers x, List<Long> seen) {
        for (int row = 0; row < 12; row++)
            for (int what = 0; what < 24; what++)
                if (what < 5 || what >= 10 && what < 14 || what >= 20) seen.add((long) x.ofRow(row, what));
    }

    private static void book(FigureTempers x, List<Long> seen) {
        for (int i = -1; i < 40; i++)
            for (int what = 0; what < 3; what++) seen.add((long) x.book(i, what));
    }

    private static void steps(FigureTempers x, List<Long> seen, int most) {
        for (int i = 0; i < most && (i == 0 || x.about(6) > 0); i++) {
            seen.add((long) x.undo());
            for (int what = 1; what < 4; what++) seen.add((long) x.about(what));
            for (int what = 0; what < 4; what++) seen.add((long) x.of(7, what));
            seen.add((long) x.book(-1, 0));
            seen.add((long) x.book(0, 2));
        }
    }

    private static void banks(FigureTempers x, List<Long> seen) {
        for (int bank = 0; bank < 6; bank++) seen.add((long) x.worth(bank));
        for (int i = -2; i < 6; i++) seen.add((long) x.ring(i));
    }

    private static void laws(FigureTempers x, List<Long> seen) {
        for (int figure = 0; figure < 10; figure++) seen.add((long) x.fits(1 << figure, -1, 0));
        seen.add((long) x.fits(6, -1, 0));
        seen.add((long) x.fits(6, 0, 1));
        seen.add((long) x.tells(128));
        for (int text = -1; text < 4; text++) {
            seen.add(bit(x.by(text)));
            for (int row = 0; row < 3; row++) seen.add((long) x.ofRow(row, 2));
            seen.add((long) x.foretold(2, 7));
            seen.add((long) x.foretold(2, -1));
        }
    }

    /** All at first. */
    static FigureTempers fresh() { return new FigureTempers(); }

    /** Something of everything, and an IMAGE that differs from it. */
    static FigureTempers busy() {
        FigureTempers x = new FigureTempers();
        text(x, "gets bad=0 or often>9;off warm-cool*2+1;mood temper+rows-used%2;");
        text(x, "row 5;off left;day 1;");
        x.row(12, 305, -1, -1, 2);
        x.row(77, 7, 1, 40, 9);
        x.row(0, -1, -1, -1, 1);
        x.by(0);
        x.turn(1, 2);
        x.turn(7, 7);
        x.debt(2, 5, 77);
        x.image();
        x.row(9999, 12, 7, -1, 4);
        x.soothe(7, 8);
        x.reckon(1);
        x.day(1);
        x.year(17, 4);
        x.turn(9, 9);
        x.seen(0, -290);
        x.seen(3, 10004);
        x.debt(0, 1, 12);
        x.debt(1, 5, 770);
        x.debt(5, 0, 3);
        text(x, "off  rows;");
        tape(x, "row 7;off 3;");
        return x;
    }

    /** Within a DAY: QUARRELS, moods that see them, and an X that no STEP knows of any more. */
    static FigureTempers today() {
        FigureTempers x = new FigureTempers();
        text(x, "gets bad=0;off left-warm;mood temper+rows-day;");
        x.by(0);
        x.turn(1, 2);
        x.turn(7, 7);
        x.row(12, 77, -1, -1, 2);
        x.row(7, 1, 2, -1, 0);
        x.row(777, -1, -1, -1, 1);
        x.row(5, -1, -1, -1, 0);
        x.year(2, 7);
        for (int i = 0; i < 29; i++) x.soothe(3, i % 2);
        x.seen(0, -60);
        x.debt(3, 4, 77);
        x.debt(4, 3, 12);
        x.image();
        x.reckon(0);
        x.reckon(2);
        return x;
    }

    /** All that there is room for. */
    static FigureTempers full() {
        FigureTempers x = new FigureTempers();
        text(x, "off left*right;mood (temper+day)%10;");
        text(x, "row 1;");
        text(x, "turn 7 with 7;");
        text(x, "soothe 7 to 3;day 2;");
        x.by(0);
        x.turn(7, 7);
        x.turn(0, 0);
        until(x, 960);
        for (int row = 0; row < 12; row++) x.row(77, row, 1000 * (row % 10), 9999, row);
        until(x, 999);
        x.soothe(7, 0);
        for (int i = 0; i < 6; i++) x.seen(i, 10000 * i);
        for (int bank = 0; bank < 6; bank++) x.debt(bank, (bank + 1) % 6, 9999 - bank);
        for (int i = 0; i < 15; i++) x.feed(0x20202020, 0x20202020, 0x64617920, 0x373b2020, 0x20202020);
        x.image();
        x.soothe(7, 9);
        return x;
    }
}
