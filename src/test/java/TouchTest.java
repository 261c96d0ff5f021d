import java.util.ArrayList;
import java.util.Arrays;
import java.util.LinkedHashMap;
import java.util.List;
import java.util.Map;
import java.util.TreeSet;

/** What each call changes, and that it changes nothing else: all that can be seen is named, and held against what is due. */
public final class TouchTest extends Check {
    public static void main(String[] args) { run(TouchTest.class); }

    /** Behind the IMAGE: two TEXTS, the latest FAULT 1 at 2, 15 bytes on the tape. */
    private static FigureTempers much() {
        FigureTempers x = today();
        text(x, "row 6;reckon 1;turn 4 with 5;soothe 4 to 1;");
        text(x, "  oops");
        tape(x, "off 1;row 1 + 2");
        return x;
    }

    /** The call changes just these. */
    private static void touches(String call, Call asking, String... due) {
        Map<String, List<Long>> before = seen(null);
        Map<String, List<Long>> after = seen(asking);
        TreeSet<String> changed = new TreeSet<>();
        for (String name : before.keySet()) if (!before.get(name).equals(after.get(name))) changed.add(name);
        TreeSet<String> wanted = new TreeSet<>(Arrays.asList(due));
        if (!changed.equals(wanted)) System.out.println(call + " changed " + changed + ", due is " + wanted);
        due(call + " changes just what is due:", changed.equals(wanted), true);
    }

    private static Map<String, List<Long>> seen(Call first) {
        Map<String, List<Long>> all = new LinkedHashMap<>();
        FigureTempers x = made(first);
        figures(x, "", all);
        put(all, "fault", x.fault(0));
        put(all, "place", x.fault(1));
        put(all, "tape", x.about(8));
        x = made(first);
        put(all, "what the tape says", x.text());
        put(all, "what the tape says", x.fault(0));
        put(all, "what the tape says", x.fault(1));
        x = made(first);
        for (int text = 0; text < 3; text++) put(all, "what is played", x.played(text));
        put(all, "what is played", x.about(0));
        x = made(first);
        x.back();
        figures(x, "image: ", all);
        x = made(first);
        for (int i = 0; i < 31; i++) put(all, "steps back", x.undo() * 0 + x.about(2));
        return all;
    }

    private static FigureTempers made(Call first) {
        FigureTempers x = much();
        if (first != null) first.on(x);
        return x;
    }

    private static void put(Map<String, List<Long>> all, String name, long value) {
        all.computeIfAbsent(name, n -> new ArrayList<>()).add(value);
    }

    private static void figures(FigureTempers x, String of, Map<String, List<Long>> all) {
        String[] what = {"temper ", "used ", "quarrels ", "bad "};
        for (int f = 0; f < 10; f++)
            for (int i = 0; i < 4; i++) put(all, of + what[i] + f, x.of(f, i));
        String[] about = {"rows", "day", "balance", "x", "texts", "the text", "steps", "seen"};
        for (int i = 0; i < about.length; i++) put(all, of + about[i], x.about(i));
        for (int row = 0; row < 6; row++) {
            for (int i : new int[] {0, 1, 4, 10, 11, 12, 13, 20, 21, 22, 23}) put(all, of + "row " + row, x.ofRow(row, i));
            put(all, of + "out " + row, x.ofRow(row, 2));
            put(all, of + "out " + row, x.ofRow(row, 3));
        }
        put(all, of + "book", x.book(-1, 0));
        for (int i = 0; i < 40; i++) put(all, of + "book", x.book(i, 0) + 100 * x.book(i, 1) + 100000L * x.book(i, 2));
        for (int f = 0; f < 10; f++) put(all, of + "fits", x.fits(1 << f, -1, 0));
        put(all, of + "fits", x.fits(1 << 1 | 1 << 7, -1, 0));
        for (int bank = 0; bank < 6; bank++) put(all, of + "worth " + bank, x.worth(bank));
        for (int i = -2; i < 2; i++) put(all, of + "ring", x.ring(i));
    }

    static void questions() {
        of("III. and what is asked: nothing");
        Call[] asked = {
            x -> x.of(7, 2), x -> x.ofRow(0, 2), x -> x.ofRow(1, 3), x -> x.beside(0, 1), x -> x.book(-1, 0), x -> x.book(0, 2),
            x -> x.foretold(30, 7), x -> x.foretold(3, -1), x -> x.firstOff(30, 1), x -> x.ordered(1, -1), x -> x.ordered(0, 0),
            x -> x.split(77, -1), x -> x.split(12, 0), x -> x.nearest(7777), x -> x.changed(0, 0), x -> x.changed(1, 1),
            x -> x.fits(134, -1, 0), x -> x.fits(1, 3, 0), x -> x.tells(134), x -> x.ledger(15, -1), x -> x.ledger(7, 1),
            x -> x.order(100), x -> x.grouping(12), x -> x.carried(777, 777, true), x -> x.carried(999, 1, false),
            x -> x.game(63, false), x -> x.game(134, true), x -> x.worth(3), x -> x.ring(-1), x -> x.ring(-2), x -> x.ring(1),
            x -> x.fault(0), x -> x.fault(1), x -> x.about(3)};
        for (int i = 0; i < asked.length; i++) touches("question " + i, asked[i]);
    }

    static void rows() {
        of("Promise 2: row: a ROW more");
        // what is played tells the same number of ROWS, one more
        touches("row(4, 5)", x -> x.row(4, 5, -1, -1, 1), "rows", "row 4", "out 4", "what is played");
    }

    static void reckoned() {
        of("Promise 3, RECKONED: BALANCE, what is written down, QUARRELS, USED; a STEP");
        // 7 1 2: 1 beside 2 QUARRELS
        touches("reckon(1)", x -> x.reckon(1), "balance", "book", "quarrels 1", "quarrels 2", "used 7", "used 1", "used 2", "steps back");
        touches("reckon(3)", x -> x.reckon(3), "balance", "book", "used 5", "steps back");
        touches("reckon(2), 777", x -> x.reckon(2), "balance", "book", "quarrels 7", "used 7", "steps back");
    }

    static void days() {
        of("Promise 4, A DAY: as all ROWS are RECKONED; TEMPERS, QUARRELS, DAY; a STEP");
        // 1 and 2: 5 and 3 QUARRELS less 5; 7 is 9 and stays so, others are 0 and do; 12 that is owed comes out otherwise by 1's TEMPER
        touches("day(1)", x -> x.day(1), "balance", "book", "used 1", "used 2", "used 7", "used 5", "quarrels 1", "quarrels 2", "quarrels 7",
                "temper 1", "temper 2", "day", "out 0", "out 1", "fits", "worth 3", "worth 4", "ring", "steps back");
    }

    static void turned() {
        of("Promise 5, TURNED: TERMS of two FIGURES; a STEP");
        touches("turn(4, 6)", x -> bit(x.turn(4, 6)), "bad 4", "bad 6", "steps back");
        touches("turn(8, 8)", x -> bit(x.turn(8, 8)), "bad 8", "steps back");
        // 12 is in two ROWS, what was SEEN is of one of them, and 12 is owed
        touches("turn(2, 1)", x -> bit(x.turn(2, 1)), "bad 1", "bad 2", "out 0", "out 1", "fits", "worth 3", "worth 4", "ring", "steps back");
    }

    static void soothed() {
        of("Promise 6, SOOTHED: the TEMPER of a FIGURE; a STEP");
        touches("soothe(4, 9)", x -> bit(x.soothe(4, 9)), "temper 4", "steps back");
        // 77 is in two ROWS, and is owed; the least around the RING is 12
        touches("soothe(7, 0)", x -> bit(x.soothe(7, 0)), "temper 7", "out 0", "out 2", "fits", "worth 3", "worth 4", "steps back");
    }

    static void years() {
        of("Promise 7, A YEAR: X, and what its draws do; a STEP");
        // 56 by 6 is 2, and 14543 by 4 is 3: the ROW of a 5
        touches("a ROW", x -> x.year(1, 1), "x", "balance", "book", "used 5", "steps back");
        // 75 * 3 + 53 and what comes behind it: 2 by 6, 3 by 4; 0 by 6, 6 and 4 by 10
        touches("a ROW, and TURNED", x -> x.year(75, 2), "x", "balance", "book", "used 5", "bad 6", "bad 4", "steps back");
        // 953 likewise; 1 by 6, 6 and 3 by 10; of 1105: 6 and 0
        touches("a ROW, and SOOTHED", x -> x.year(953, 2), "x", "balance", "book", "used 5", "temper 6", "steps back");
        touches("a ROW, and SOOTHED, so already", x -> x.year(1105, 2), "x", "balance", "book", "used 5", "steps back");
    }

    static void tapes() {
        of("Promises 8, 9: feed, end: the tape");
        touches("feed", x -> x.feed(0x3b202020, 0x20202020, 0x20202020, 0x20202020, 0x20202020), "tape", "what the tape says");
        touches("end(12)", x -> x.end(12), "tape", "what the tape says");
        touches("end(15)", x -> x.end(15));
    }

    static void texts() {
        of("Promises 10, 11: text: the tape, the latest FAULT, a TEXT more if it has none");
        touches("a FAULT", x -> x.text(), "tape", "place", "what the tape says");
        touches("without one", x -> x.end(6) * 0 + x.text(), "tape", "fault", "place", "texts", "what is played", "what the tape says");
    }

    static void byTexts() {
        of("Promise 12: by: THE TEXT");
        String[] laws = {"the text", "out 0", "out 1", "out 2", "fits", "worth 3", "worth 4", "ring"};
        touches("by(-1)", x -> bit(x.by(-1)), laws);
        touches("by(1), without laws", x -> bit(x.by(1)), laws);
        touches("by(0)", x -> bit(x.by(0)));
    }

    static void taken() {
        of("Promise 14: undo: the latest STEP alone");
        touches("undo: the ROW 777", x -> x.undo(), "balance", "book", "quarrels 7", "used 7", "steps", "steps back");
        touches("a STEP and undo: one that was ahead of thirty has gone", x -> bit(x.turn(3, 3)) + x.undo(), "steps");
    }

    static void told() {
        of("Promises 25, 33: seen: SEEN; debt: a DEBT");
        touches("seen(1, 5)", x -> x.seen(1, 5), "seen", "fits");
        touches("seen(-1)", x -> x.seen(-1, 0), "seen", "fits");
        touches("debt(0, 5, 40)", x -> bit(x.debt(0, 5, 40)), "worth 0", "worth 5");
        touches("debt(3, 4, 10)", x -> bit(x.debt(3, 4, 5)), "worth 3", "worth 4", "ring");
        touches("debt(3, 4, 77), as it was", x -> bit(x.debt(3, 4, 77)));
    }

    static void played() {
        of("Promise 13: played: what its CLAUSES do by hand");
        // row 6; 7 1 2 is RECKONED; 4 and 5 are TURNED; 4 is SOOTHED to 1: three STEPS, and SOOTHED again can't be
        touches("played(1)", x -> x.played(1), "rows", "row 4", "out 4", "balance", "book", "quarrels 1", "quarrels 2", "used 7", "used 1", "used 2",
                "bad 4", "bad 5", "temper 4", "steps back", "what is played");
        touches("played(0): laws alone", x -> x.played(0));
    }

    static void images() {
        of("Promises 36, 37: image: THE IMAGE; back: all but the tape and the latest FAULT");
        String[] since = {"balance", "book", "quarrels 1", "quarrels 2", "quarrels 7", "used 1", "used 2", "used 7"};
        List<String> imaged = new ArrayList<>();
        for (String name : since) imaged.add("image: " + name);
        imaged.add("image: texts");
        touches("image", x -> x.image(), imaged.toArray(new String[0]));
        List<String> back = new ArrayList<>(Arrays.asList(since));
        back.addAll(Arrays.asList("texts", "what is played", "steps back"));
        touches("back", x -> x.back(), back.toArray(new String[0]));
        touches("image and back", x -> x.image() + x.back(), imaged.toArray(new String[0]));
    }
}
