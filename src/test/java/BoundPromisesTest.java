/** The boundary cases of promises 1 to 38: the least and the greatest that is allowed, and that others change nothing. */
public final class BoundPromisesTest extends Check {
    public static void main(String[] args) { run(BoundPromisesTest.class); }

    private static final int MIN = Integer.MIN_VALUE;
    private static final int MAX = Integer.MAX_VALUE;
    /** What is no FIGURE, TEMPER. */
    private static final int[] NO_FIGURE = {-1, -2, 10, 11, 42, MIN, MAX};
    private static final int[] NO_BANK = {-1, 6, 7, MIN, MAX};
    private static final int[] NO_NUMBER = {-1, 10000, 10001, MIN, MAX};
    /** 12 of busy are none that there are (there are 4). */
    private static final int[] NO_ROW = {-1, -2, 12, 13, MIN, MAX};
    /** Sets of no FIGURES, of more than most, of some that aren't. */
    private static final int[] NO_SET = {0, -1, 1024, 1025, 1 << 30, MIN, MAX};

    private static final Make[] STANDS = {Check::fresh, Check::busy, Check::full, Check::today};
    private static final int[] ROWS = {0, 4, 12};
    private static final int[] TEXTS = {0, 2, 4};

    /** However all stands, the call answers so and changes nothing. */
    private static void refused(String call, Call asking, long want) {
        for (Make make : STANDS) nothing(make, call, asking, want);
    }

    private static void refused(int stand, String call, Call asking, long want) {
        nothing(STANDS[stand], call, asking, want);
    }

    private static void due(int stand, String call, Call asking, long want) {
        due(call + " at stand " + stand, asking.on(STANDS[stand].made()), want);
    }

    static void theConstant() {
        of("The constants: NONE = -1");
        due("NONE", FigureTempers.NONE, -1);
    }

    static void the512thCall() {
        of("An object is used for at most 512 calls: the 512th is answered as the first");
        FigureTempers x = fresh();
        one(x, 12);
        for (int call = 1; call < 511; call++) x.reckon(0);
        due("510 times 12", x.about(2), 6120);
        Make later = () -> {
            FigureTempers y = fresh();
            for (int call = 0; call < 300; call++) y.nearest(9999 - call);
            return y;
        };
        due("a new one behind 300 calls is as new", look(later, null).equals(look(Check::fresh, null)), true);
    }

    static void aNewObject() {
        of("Promise 1: no ROWS; THE IMAGE is this");
        int[] due = {0, 0, 0, 53, 0, -1, 0, 0, 0};
        FigureTempers x = fresh();
        for (int i = 0; i < due.length; i++) due("about(" + i + ")", x.about(i), due[i]);
        due("no row 0", x.ofRow(0, 0), -1000000);
        due("no step", x.undo(), -1);
        due("no fault", x.fault(0), -1);
        due("nothing written", x.book(-1, 0), 0);
        refused(0, "back", y -> y.back(), 0);
        refused(0, "image", y -> y.image(), 0);
        refused(0, "undo", y -> y.undo(), -1);
    }

    static void row() {
        of("Promise 2: NONE for others, or if there are 12");
        for (int n : NO_NUMBER) {
            refused("row(" + n + ")", x -> x.row(n, -1, -1, -1, 0), -1);
            if (n == -1) continue;
            refused("row(1, " + n + ")", x -> x.row(1, n, -1, -1, 0), -1);
            refused("row(1, 2, " + n + ")", x -> x.row(1, 2, n, -1, 0), -1);
            refused("row(1, 2, 3, " + n + ")", x -> x.row(1, 2, 3, n, 0), -1);
        }
        refused("row(-1, 1)", x -> x.row(-1, 1, -1, -1, 0), -1);
        refused("row(1, -1, 2)", x -> x.row(1, -1, 2, -1, 0), -1);
        refused("row(1, -1, -1, 2)", x -> x.row(1, -1, -1, 2, 0), -1);
        refused("row(1, 2, -1, 3)", x -> x.row(1, 2, -1, 3, 0), -1);
        refused("row(-1, 1, 2, 3)", x -> x.row(-1, 1, 2, 3, 0), -1);
        due(0, "row(0)", x -> x.row(0, -1, -1, -1, 0), 0);
        due(1, "row(9999, 9999, 9999, 9999)", x -> x.row(9999, 9999, 9999, 9999, 15), 4);
        refused(2, "the 13th", x -> x.row(1, -1, -1, -1, 0), -1);
        refused(2, "the 13th", x -> x.row(1, 2, 3, 4, 15), -1);
    }

    static void rowMinus() {
        of("Promise 2: minus: bits of NUMBERS that are there alone");
        for (int n = 1; n <= 4; n++) {
            int b = n > 1 ? 2 : -1;
            int c = n > 2 ? 3 : -1;
            int d = n > 3 ? 4 : -1;
            int most = (1 << n) - 1;
            due(0, "minus 0 of " + n, x -> x.row(1, b, c, d, 0), 0);
            due(0, "minus " + most + " of " + n, x -> x.row(1, b, c, d, most), 0);
            for (int minus : new int[] {most + 1, most + 2, 16, 1 << n + 4, -1, MIN, MAX})
                refused("minus " + minus + " of " + n, x -> x.row(1, b, c, d, minus), -1);
        }
        refused("minus 2 of 1", x -> x.row(1, -1, -1, -1, 2), -1);
        refused("minus 8 of 1", x -> x.row(1, -1, -1, -1, 8), -1);
    }

    static void reckon() {
        of("Promise 3: -1000000 for others");
        for (int row : NO_ROW) refused("reckon(" + row + ")", x -> x.reckon(row), -1000000);
        refused(0, "reckon(0) of none", x -> x.reckon(0), -1000000);
        refused(1, "reckon(4) of 4", x -> x.reckon(4), -1000000);
        due(1, "reckon(3)", x -> x.reckon(3) > -1000000 ? 1 : 0, 1);
        due(2, "reckon(11)", x -> x.reckon(11) > -1000000 ? 1 : 0, 1);
    }

    static void day() {
        of("Promise 4: -10000000 for others, or beyond 999");
        for (int n : new int[] {0, -1, 61, 62, 1000, MIN, MAX}) refused("day(" + n + ")", x -> x.day(n), -10000000);
        for (int n : new int[] {1, 2, 60}) refused(2, "day(" + n + ") of 999", x -> x.day(n), -10000000);
        due(0, "day(1)", x -> x.day(1), 0);
        due(0, "day(60)", x -> x.day(60), 0);
        Make day939 = () -> {
            FigureTempers x = fresh();
            one(x, 5);
            until(x, 939);
            return x;
        };
        due("60 to 999", day939.made().day(60), 4995);
        Make day940 = () -> {
            FigureTempers x = day939.made();
            x.day(1);
            return x;
        };
        nothing(day940, "60 beyond 999", x -> x.day(60), -10000000);
        due("59 to 999", day940.made().day(59), 4995);
    }

    static void turn() {
        of("Promise 5: false for others (nothing is done then)");
        for (int n : NO_FIGURE) {
            refused("turn(" + n + ", 0)", x -> bit(x.turn(n, 0)), 0);
            refused("turn(0, " + n + ")", x -> bit(x.turn(0, n)), 0);
            refused("turn(" + n + ", " + n + ")", x -> bit(x.turn(n, n)), 0);
        }
        due(0, "turn(0, 9)", x -> bit(x.turn(0, 9)), 1);
        due(0, "turn(9, 0)", x -> bit(x.turn(9, 0)), 1);
        due(2, "turn(7, 7)", x -> bit(x.turn(7, 7)), 0);
    }

    static void soothe() {
        of("Promise 6: false for others, and if it is so already");
        for (int n : NO_FIGURE) {
            refused("soothe(" + n + ", 1)", x -> bit(x.soothe(n, 1)), 0);
            refused("soothe(1, " + n + ")", x -> bit(x.soothe(1, n)), 0);
        }
        for (int f = 0; f < 10; f++) {
            int figure = f;
            refused("soothe " + f + " to what it is", x -> bit(x.soothe(figure, x.of(figure, 0))), 0);
        }
        due(0, "soothe(0, 0)", x -> bit(x.soothe(0, 0)), 1);
        due(0, "soothe(9, 9)", x -> bit(x.soothe(9, 9)), 1);
        due(0, "soothe(0, 4)", x -> bit(x.soothe(0, 4)), 1);
        due(0, "soothe(0, 6)", x -> bit(x.soothe(0, 6)), 1);
    }

    static void year() {
        of("Promise 7: NONE for others");
        for (int seed : NO_NUMBER) refused("year(" + seed + ", 1)", x -> x.year(seed, 1), -1);
        for (int n : new int[] {0, -1, 31, 32, MIN, MAX}) refused("year(5, " + n + ")", x -> x.year(5, n), -1);
        due(0, "year(0, 1)", x -> x.year(0, 1), 0);
        due(0, "year(9999, 30)", x -> x.year(9999, 30), 0);
    }

    static void feed() {
        of("Promise 8: NONE, and none come, if there would be more than 300");
        FigureTempers x = fresh();
        for (int i = 1; i <= 15; i++) due("feed", x.feed(i, 0, 0, 0, 0), 20 * i);
        due("to 320", x.feed(0, 0, 0, 0, 0), -1);
        due("300 still", x.about(8), 300);
        refused(2, "feed beyond 300", y -> y.feed(0x64617920, 1, 2, 3, 4), -1);
        for (int left : new int[] {0, 1, 279, 280}) {
            FigureTempers y = full();
            y.end(left);
            due("feed behind " + left, y.feed(0, 0, 0, 0, 0), left + 20);
        }
        for (int left : new int[] {281, 299, 300})
            nothing(() -> {
                FigureTempers y = full();
                y.end(left);
                return y;
            }, "feed behind " + left, y -> y.feed(0x64617920, 1, 2, 3, 4), -1);
        nothing(() -> {
            FigureTempers y = today();
            for (int i = 0; i < 15; i++) y.feed(0x64617920, 0x393b2020, 0x20202020, 0x20202020, 0x20202020);
            return y;
        }, "feed behind 300, within a DAY", y -> y.feed(0x64617920, 1, 2, 3, 4), -1);
    }

    static void feedsBytes() {
        of("Promise 8: twenty bytes come behind the tape, the highest of a first, bytes 0 to 255");
        FigureTempers x = fresh();
        x.feed(0x726f7720, 0x31323334, 0x3b726f77, 0x20353637, 0x383b2020);
        due("rows of it", x.text(), 0);
        due("played", x.played(0), -1);
        due("the first", x.ofRow(0, 10), 1234);
        due("the second", x.ofRow(1, 10), 5678);
        for (int sign : new int[] {0, 1, 127, 128, 254, 255}) {
            for (int place = 0; place < 20; place++) {
                int[] v = {0x20202020, 0x20202020, 0x20202020, 0x20202020, 0x20202020};
                int shift = 24 - place % 4 * 8;
                v[place / 4] = v[place / 4] & ~(255 << shift) | sign << shift;
                x.feed(v[0], v[1], v[2], v[3], v[4]);
                due("a byte " + sign, x.text(), -1);
                due("its place", x.fault(1), place);
            }
        }
    }

    static void end() {
        of("Promise 9: NONE, and nothing is done, if it has not so many, or n is below 0");
        int[] bytes = {0, 12, 300};
        for (int stand = 0; stand < 3; stand++) {
            int all = bytes[stand];
            for (int n : new int[] {-1, all + 1, all + 20, 301, MIN, MAX}) refused(stand, "end(" + n + ") of " + all, x -> x.end(n), -1);
            refused(stand, "end(" + all + ") of as many", x -> x.end(all), all);
            due(stand, "end(0)", x -> x.end(0), 0);
            due(stand, "bytes behind end(0)", x -> x.end(0) + x.about(8), 0);
        }
        for (int n : new int[] {-1, 1, 20}) refused(3, "end(" + n + ") of none", x -> x.end(n), -1);
        due(2, "end(299)", x -> x.end(299), 299);
        due(2, "bytes behind it", x -> x.end(299) - x.about(8), 0);
        due(1, "its first n bytes alone", x -> x.end(6) * 10 + x.text(), 62);
    }

    /** A tape cut short, behind which other bytes had been. */
    private static void cut(String whole, int n, int what, int place) {
        FigureTempers x = fresh();
        tape(x, whole);
        due("end of " + whole, x.end(n), n);
        due("text of " + whole, x.text(), what == 0 ? 0 : -1);
        due("fault of " + whole, x.fault(0), what);
        due("place of " + whole, x.fault(1), place);
    }

    static void endCutsAway() {
        of("Promise 9: the tape has its first n bytes alone");
        cut("off 1;oops", 6, 0, -1);
        cut("day 12;", 5, 1, 5);
        cut("day 1;", 5, 1, 5);
        cut("gets 1<=2;", 7, 1, 7);
        cut("gets 1>=2;", 7, 1, 7);
        cut("gets 1<1;", 8, 1, 8);
        cut("off left;", 7, 1, 4);
        cut("row   ", 4, 1, 4);
        cut("off 1;left", 0, 0, -1);
        FigureTempers x = fresh();
        tape(x, "row 123456789;");
        x.end(6);
        x.feed(0x3b202020, 0x20202020, 0x20202020, 0x20202020, 0x20202020);
        due("fed behind what is left", x.about(8), 26);
        due("text", x.text(), 0);
        x.played(0);
        due("12", x.ofRow(0, 10), 12);
    }

    static void textTakesTheTape() {
        of("Promise 10: the tape (empty then) is a TEXT, also one with a FAULT");
        FigureTempers x = fresh();
        due("text", text(x, "row 1;"), 0);
        due("empty", x.about(8), 0);
        due("a FAULT", text(x, "row 1"), -1);
        due("empty", x.about(8), 0);
        due("TEXTS", x.about(4), 1);
        due("of the empty tape", x.text(), 1);
    }

    static void textOfFour() {
        of("Promise 10: NONE: (the tape stays) there are 4");
        refused(2, "the fifth", x -> x.text(), -1);
        FigureTempers x = fresh();
        for (int i = 0; i < 4; i++) due("text", x.text(), i);
        due("the fifth of nothing", x.text(), -1);
        tape(x, "oops");
        due("the fifth", x.text(), -1);
        due("tape", x.about(8), 4);
        due("the FAULT of the one read last", x.fault(0), 0);
    }

    static void faultAheadOfAny() {
        of("Promise 11: NONE for others, and ahead of any");
        for (int what = -1; what <= 2; what++) {
            int asked = what;
            refused(0, "fault(" + what + ")", x -> x.fault(asked), -1);
        }
        for (int what : new int[] {-1, 2, 3, MIN, MAX}) refused("fault(" + what + ")", x -> x.fault(what), -1);
        FigureTempers x = full();
        FigureTempers y = fresh();
        tape(y, "off 1");
        due("a tape that isn't read", y.fault(0), -1);
        due("no FAULT", x.fault(0), 0);
        due("no place", x.fault(1), -1);
        due(1, "a FAULT", z -> z.fault(0), 5);
        due(1, "its place", z -> z.fault(1), 5);
        due(1, "the latest alone", z -> z.text() + z.fault(0), 2);
        due(1, "the latest alone", z -> z.text() + z.fault(1), 1);
    }

    static void by() {
        of("Promise 12: THE TEXT (NONE: none): true; false for others");
        for (int text : new int[] {-2, 4, 5, MIN, MAX}) refused("by(" + text + ")", x -> bit(x.by(text)), 0);
        for (int stand = 0; stand < 3; stand++) {
            int all = TEXTS[stand];
            refused(stand, "by(" + all + ")", x -> bit(x.by(all)), 0);
            due(stand, "by(NONE)", x -> bit(x.by(-1)), 1);
            due(stand, "by(NONE) then", x -> bit(x.by(-1)) + x.about(5), 0);
            if (all == 0) continue;
            due(stand, "by the last", x -> bit(x.by(all - 1)) + x.about(5), all);
            due(stand, "by the first", x -> bit(x.by(0)) + x.about(5), 1);
            refused(stand, "by the one that rules", x -> bit(x.by(0)), 1);
        }
    }

    static void played() {
        of("Promise 13: -2 for others");
        for (int text : new int[] {-1, -2, 4, 5, MIN, MAX}) refused("played(" + text + ")", x -> x.played(text), -2);
        for (int stand = 0; stand < 3; stand++) {
            int all = TEXTS[stand];
            refused(stand, "played(" + all + ")", x -> x.played(all), -2);
        }
        due(1, "played(1)", x -> x.played(1), -1);
        due(2, "played(0): laws alone", x -> x.played(0), -1);
        due(2, "played(3)", x -> x.played(3), 1);
    }

    static void undo() {
        of("Promise 14: how many can be yet. NONE: there is none");
        refused(0, "undo", x -> x.undo(), -1);
        Make bare = () -> {
            FigureTempers x = full();
            for (int i = 0; i < 30; i++) x.undo();
            return x;
        };
        nothing(bare, "undo behind all", x -> x.undo(), -1);
        nothing(() -> {
            FigureTempers x = today();
            for (int i = 0; i < 30; i++) x.undo();
            return x;
        }, "undo behind all, with an X of A YEAR that is no STEP any more", x -> x.undo(), -1);
        nothing(() -> {
            FigureTempers x = today();
            for (int i = 0; i < 30; i++) x.soothe(3, 1 + i % 2);
            for (int i = 0; i < 30; i++) x.undo();
            return x;
        }, "undo behind all, with QUARRELS of what is no STEP any more", x -> x.undo(), -1);
        due(2, "undo of 30", x -> x.undo(), 29);
        due("steps", full().about(6), 30);
        FigureTempers x = bare.made();
        x.turn(1, 1);
        due("undo of 1", x.undo(), 0);
    }

    static void ofFigure() {
        of("Promise 15: NONE for others");
        for (int n : NO_FIGURE)
            for (int what = 0; what < 4; what++) {
                int asked = what;
                refused("of(" + n + ", " + what + ")", x -> x.of(n, asked), -1);
            }
        for (int what : new int[] {-1, 4, 5, MIN, MAX}) {
            refused("of(0, " + what + ")", x -> x.of(0, what), -1);
            refused("of(9, " + what + ")", x -> x.of(9, what), -1);
        }
        due(2, "used of 9", x -> x.of(9, 1), 999);
        due(2, "bad of 0", x -> x.of(0, 3), 1);
        due(2, "bad of 7", x -> x.of(7, 3), 128);
        due(2, "quarrels of 7", x -> x.of(7, 2), 0);
        due(2, "temper of 7", x -> x.of(7, 0), 9);
    }

    static void ofRow() {
        of("Promise 16: -1000000 for others");
        for (int row : NO_ROW)
            for (int what : new int[] {0, 1, 2, 3, 4, 10, 20}) refused("ofRow(" + row + ", " + what + ")", x -> x.ofRow(row, what), -1000000);
        refused(1, "ofRow(4, 0) of 4", x -> x.ofRow(4, 0), -1000000);
        for (int what : new int[] {-1, 5, 6, 9, 14, 15, 19, 24, 25, MIN, MAX}) {
            refused("ofRow(0, " + what + ")", x -> x.ofRow(0, what), -1000000);
            refused("ofRow(3, " + what + ")", x -> x.ofRow(3, what), -1000000);
        }
        FigureTempers x = fresh();
        for (int n = 1; n <= 4; n++) x.row(5, n > 1 ? 6 : -1, n > 2 ? 7 : -1, n > 3 ? 8 : -1, (1 << n) - 1);
        for (int n = 1; n <= 4; n++) {
            due("the last NUMBER", x.ofRow(n - 1, 9 + n), 4 + n);
            due("one behind", x.ofRow(n - 1, 10 + n), -1000000);
            due("the last sign", x.ofRow(n - 1, 19 + n), 1);
            due("one behind", x.ofRow(n - 1, 20 + n), -1000000);
            due("how many", x.ofRow(n - 1, 0), n);
            due("digits", x.ofRow(n - 1, 4), n);
            due("quarrels", x.ofRow(n - 1, 3), 0);
        }
    }

    static void beside() {
        of("Promise 17: NONE if there is none such, and for others");
        for (int row : NO_ROW) refused("beside(" + row + ", 0)", x -> x.beside(row, 0), -1);
        refused(1, "beside(4, 0) of 4", x -> x.beside(4, 0), -1);
        for (int i : new int[] {-1, 15, 16, MIN, MAX}) {
            refused("beside(0, " + i + ")", x -> x.beside(0, i), -1);
            refused("beside(3, " + i + ")", x -> x.beside(3, i), -1);
        }
        refused(1, "beside(2, 0) of one digit", x -> x.beside(2, 0), -1);
        due(1, "beside(0, 0)", x -> x.beside(0, 0) % 100, 12);
        due(1, "beside(0, 3)", x -> x.beside(0, 3) % 100, 5);
        refused(1, "beside(0, 4) of five digits", x -> x.beside(0, 4), -1);
        FigureTempers x = fresh();
        one(x, 9999);
        x.row(0, 0, -1, -1, 0);
        due("greatest that gets on", x.beside(0, 2), 99);
        due("least", x.beside(1, 0), 0);
        x.turn(9, 9);
        x.turn(0, 0);
        due("greatest", x.beside(0, 2), 199);
        due("of noughts that quarrel", x.beside(1, 0), 100);
    }

    static void book() {
        of("Promise 18: -1000000 if there is none such, and for others");
        for (int i : new int[] {-2, 40, 41, MIN, MAX}) refused("book(" + i + ", 0)", x -> x.book(i, 0), -1000000);
        for (int what : new int[] {-1, 3, MIN, MAX}) {
            refused("book(0, " + what + ")", x -> x.book(0, what), -1000000);
            refused("book(39, " + what + ")", x -> x.book(39, what), -1000000);
        }
        refused(0, "book(0, 0) of none", x -> x.book(0, 0), -1000000);
        refused(0, "how many of none", x -> x.book(-1, 0), 0);
        due(2, "how many", x -> x.book(-1, 0), 40);
        due(2, "the latest", x -> x.book(39, 0), 11);
        due(2, "its day", x -> x.book(39, 1), 998);
        due(2, "the eldest", x -> x.book(0, 0), 8);
        due(2, "its day", x -> x.book(0, 1), 995);
    }

    static void foretold() {
        of("Promise 19: -10000000 for others");
        for (int n : new int[] {0, -1, 31, 32, MIN, MAX}) {
            refused("foretold(" + n + ", 0)", x -> x.foretold(n, 0), -10000000);
            refused("foretold(" + n + ", -1)", x -> x.foretold(n, -1), -10000000);
        }
        for (int f : new int[] {-2, 10, 11, MIN, MAX}) refused("foretold(1, " + f + ")", x -> x.foretold(1, f), -10000000);
        due(0, "foretold(1, 0)", x -> x.foretold(1, 0), 5);
        due(0, "foretold(30, 9)", x -> x.foretold(30, 9), 5);
        due(0, "foretold(30, -1)", x -> x.foretold(30, -1), 0);
        due(2, "foretold(1, 7)", x -> x.foretold(1, 7), (9 + 999) % 10);
    }

    static void firstOff() {
        of("Promise 20: NONE: none, and for others");
        for (int n : new int[] {0, -1, 31, 32, MIN, MAX}) refused("firstOff(" + n + ", 0)", x -> x.firstOff(n, 0), -1);
        for (int row : NO_ROW) refused("firstOff(30, " + row + ")", x -> x.firstOff(30, row), -1);
        refused(0, "firstOff(30, 0) of none", x -> x.firstOff(30, 0), -1);
        refused(1, "firstOff(30, 4) of 4", x -> x.firstOff(30, 4), -1);
        refused(1, "firstOff(30, 2) of one digit", x -> x.firstOff(30, 2), -1);
        refused(2, "firstOff(1, 11)", x -> x.firstOff(1, 11), 1);
        refused(2, "firstOff(30, 11)", x -> x.firstOff(30, 11), 1);
    }

    static void ordered() {
        of("Promise 21: NONE: none, there is none such, and for others");
        for (int row : NO_ROW) refused("ordered(" + row + ", -1)", x -> x.ordered(row, -1), -1);
        refused(1, "ordered(4, -1) of 4", x -> x.ordered(4, -1), -1);
        for (int i : new int[] {-2, 4, 5, MIN, MAX}) {
            refused("ordered(0, " + i + ")", x -> x.ordered(0, i), -1);
            refused("ordered(2, " + i + ")", x -> x.ordered(2, i), -1);
        }
        refused(1, "of one NUMBER", x -> x.ordered(2, -1), 0);
        refused(1, "of one NUMBER", x -> x.ordered(2, 0), 0);
        refused(1, "behind one NUMBER", x -> x.ordered(2, 1), -1);
    }

    static void split() {
        of("Promise 22: NONE: none, there is none such, and for others");
        for (int number : new int[] {0, -1, 100, 101, MIN, MAX})
            for (int i = -1; i < 1; i++) {
                int asked = i;
                refused("split(" + number + ", " + i + ")", x -> x.split(number, asked), -1);
            }
        for (int i : new int[] {-2, 3, 4, MIN, MAX}) refused("split(12, " + i + ")", x -> x.split(12, i), -1);
        due(0, "split(1, 0)", x -> x.split(1, 0), 1);
        due(0, "split(99, 0)", x -> x.split(99, 0), 99);
        due(0, "split(99, -1)", x -> x.split(99, -1), 1);
        due(0, "split(99, 1)", x -> x.split(99, 1), -1);
        due(0, "split(99, 2)", x -> x.split(99, 2), -1);
    }

    static void nearest() {
        of("Promise 23: NONE: none, and for others");
        for (int n : NO_NUMBER) refused("nearest(" + n + ")", x -> x.nearest(n), -1);
        due(0, "nearest(0)", x -> x.nearest(0), 0);
        due(0, "nearest(9999)", x -> x.nearest(9999), 9999);
    }

    static void changed() {
        of("Promise 24: NONE: none, and for others");
        for (int row : NO_ROW) refused("changed(" + row + ", 0)", x -> x.changed(row, 0), -1);
        refused(1, "changed(4, 0) of 4", x -> x.changed(4, 0), -1);
        for (int what : new int[] {-1, 2, 3, MIN, MAX}) {
            refused("changed(0, " + what + ")", x -> x.changed(0, what), -1);
            refused("changed(3, " + what + ")", x -> x.changed(3, what), -1);
        }
        refused(1, "changed(2, 0): TRUE already", x -> x.changed(2, 0), -1);
        refused(1, "changed(2, 1): TRUE already", x -> x.changed(2, 1), -1);
    }

    static void seen() {
        of("Promise 25: -2 for others, or if there are 6");
        for (int row : NO_ROW) if (row != -1) refused("seen(" + row + ", 0)", x -> x.seen(row, 0), -2);
        refused(0, "seen(0, 0) of none", x -> x.seen(0, 0), -2);
        refused(1, "seen(4, 0) of 4", x -> x.seen(4, 0), -2);
        for (int out : new int[] {100000, -100000, 100001, MIN, MAX}) refused("seen(0, " + out + ")", x -> x.seen(0, out), -2);
        for (int out : new int[] {0, 99999, -99999}) {
            due(1, "seen(3, " + out + ")", x -> x.seen(3, out), 3);
            refused(2, "the seventh of " + out, x -> x.seen(11, out), -2);
        }
        due(2, "none any more", x -> x.seen(-1, 0), 0);
        refused(0, "none any more of none", x -> x.seen(-1, 0), 0);
        due(2, "then one more", x -> x.seen(-1, 0) + x.seen(11, 5), 1);
    }

    static void fits() {
        of("Promise 26: NONE if there is none such, and for others");
        for (int set : NO_SET) {
            refused("fits(" + set + ", -1, 0)", x -> x.fits(set, -1, 0), -1);
            refused("fits(" + set + ", 0, 0)", x -> x.fits(set, 0, 0), -1);
        }
        for (int set : new int[] {15, 960, 1023, 513 + 6}) refused("fits(" + set + ", -1, 0) of four and more", x -> x.fits(set, -1, 0), -1);
        for (int i : new int[] {-2, 1000, 1001, MIN, MAX}) refused("fits(7, " + i + ", 0)", x -> x.fits(7, i, 0), -1);
        for (int f : NO_FIGURE) refused("fits(7, 0, " + f + ")", x -> x.fits(7, 0, f), -1);
        refused("fits(7, 0, 3): not of the set", x -> x.fits(7, 0, 3), -1);
        refused("fits(896, 0, 6): not of the set", x -> x.fits(896, 0, 6), -1);
        for (int f : new int[] {-1, 3, 10, MIN, MAX}) refused(0, "figure isn't asked: " + f, x -> x.fits(7, -1, f), 1000);
        refused(2, "none", x -> x.fits(896, -1, 7), 0);
        refused(2, "the first of none", x -> x.fits(896, 0, 7), -1);
        due(0, "the last", x -> x.fits(896, 999, 9), 9);
    }

    static void tells() {
        of("Promise 27: NONE: none, and for others");
        for (int set : NO_SET) refused("tells(" + set + ")", x -> x.tells(set), -1);
        for (int set : new int[] {15, 960, 1023}) refused("tells(" + set + ") of four and more", x -> x.tells(set), -1);
        refused(0, "no ROWS", x -> x.tells(1), -1);
        refused(2, "no FITS", x -> x.tells(896), -1);
        due(1, "without what was SEEN", x -> x.seen(-1, 0) + x.tells(8), 0);
        due(2, "without what was SEEN", x -> x.seen(-1, 0) + x.tells(896) >= 0 ? 1 : 0, 1);
    }

    static void ledger() {
        of("Promise 28: NONE if there is none such, and for others");
        for (int set : new int[] {0, -1, 4096, 4097, 1 << 30, MIN, MAX}) {
            refused("ledger(" + set + ", -1)", x -> x.ledger(set, -1), -1);
            refused("ledger(" + set + ", 0)", x -> x.ledger(set, 0), -1);
        }
        refused(0, "of none", x -> x.ledger(1, -1), -1);
        refused(1, "the 5th of 4", x -> x.ledger(16, -1), -1);
        refused(1, "the 5th of 4 too", x -> x.ledger(17, 0), -1);
        for (int set : new int[] {63, 4032, 4095}) refused(2, "of six and more: " + set, x -> x.ledger(set, -1), -1);
        for (int i : new int[] {-2, 5, 6, MIN, MAX}) refused("ledger(1, " + i + ")", x -> x.ledger(1, i), -1);
        refused(1, "the 2nd of 1", x -> x.ledger(4, 1), -1);
        refused(1, "the only one", x -> x.ledger(4, 0), 2);
        refused(1, "nothing off", x -> x.ledger(4, -1), 0);
        refused(2, "the 6th of 5", x -> x.ledger(31, 5), -1);
        due(2, "the last one", x -> x.ledger(2048, 0), 11);
        due(2, "five", x -> x.ledger(31 << 7, 4) >= 7 ? 1 : 0, 1);
    }

    static void order() {
        of("Promise 29: NONE: none, and for others");
        for (int m : new int[] {0, -1, 101, 102, MIN, MAX}) refused("order(" + m + ")", x -> x.order(m), -1);
        refused("order(1): 0 alone", x -> x.order(1), -1);
        refused(0, "order(100)", x -> x.order(100), -1);
    }

    static void grouping() {
        of("Promise 30: NONE: none, and for others");
        for (int m : new int[] {0, -1, 13, 14, MIN, MAX}) refused("grouping(" + m + ")", x -> x.grouping(m), -1);
        refused(0, "grouping(12)", x -> x.grouping(12), -1);
        // 0 0 10: 0 10 is 11; 0 and 11 is 13
        due("the last NUMBER that is below 12", by("gets not right=1;").grouping(11), 10);
        // 0 1 1: 2 1 is 4; 0 3 is 3
        due("below 2", by("gets not right=1;").grouping(2), 101);
    }

    static void carried() {
        of("Promise 31: NONE for others");
        for (int n : NO_NUMBER)
            for (int k = 0; k < 2; k++) {
                boolean gossip = k == 1;
                refused("carried(" + n + ", 0)", x -> x.carried(n, 0, gossip), -1);
                refused("carried(0, " + n + ")", x -> x.carried(0, n, gossip), -1);
            }
        refused("carried(0, 0)", x -> x.carried(0, 0, false), 0);
        refused("gossip of 0 and 0", x -> x.carried(0, 0, true), 0);
        refused("carried(9999, 9999)", x -> x.carried(9999, 9999, false), 4);
        refused(0, "gossip without bad TERMS", x -> x.carried(9999, 9999, true), 0);
    }

    static void game() {
        of("Promise 32: -2 for others");
        for (int set : NO_SET) {
            refused("game(" + set + ", false)", x -> x.game(set, false), -2);
            refused("game(" + set + ", true)", x -> x.game(set, true), -2);
        }
        for (int set : new int[] {127, 1016, 1023}) refused("game(" + set + ") of seven and more", x -> x.game(set, false), -2);
        refused("of one: 0", x -> x.game(512, false), 0);
        refused("of one: none", x -> x.game(512, true), -1);
        refused(0, "of six", x -> x.game(1008, true), 4);
        refused(0, "of six", x -> x.game(1008, false), 1);
    }

    static void debt() {
        of("Promise 33: false for others (of one BANK to itself)");
        for (int bank : NO_BANK) {
            refused("debt(" + bank + ", 0)", x -> bit(x.debt(bank, 0, 1)), 0);
            refused("debt(0, " + bank + ")", x -> bit(x.debt(0, bank, 1)), 0);
        }
        for (int bank = 0; bank < 6; bank++) {
            int self = bank;
            refused("debt to itself " + bank, x -> bit(x.debt(self, self, 1)), 0);
        }
        for (int n : NO_NUMBER) refused("debt of " + n, x -> bit(x.debt(0, 1, n)), 0);
        due(0, "debt(0, 5, 9999)", x -> bit(x.debt(0, 5, 9999)), 1);
        due(0, "debt(5, 0, 0)", x -> bit(x.debt(5, 0, 0)), 1);
    }

    static void worth() {
        of("Promise 34: -1000000 for others");
        for (int bank : NO_BANK) refused("worth(" + bank + ")", x -> x.worth(bank), -1000000);
        refused(0, "worth(0)", x -> x.worth(0), 0);
        refused(0, "worth(5)", x -> x.worth(5), 0);
    }

    static void ring() {
        of("Promise 35: NONE: none, there is none such, and for others");
        for (int i : new int[] {-3, 6, 7, MIN, MAX}) refused("ring(" + i + ")", x -> x.ring(i), -1);
        for (int i = -2; i < 6; i++) {
            int asked = i;
            refused(0, "ring(" + i + ") of none", x -> x.ring(asked), -1);
        }
        due(1, "three", x -> x.ring(-1), 3);
        refused(1, "ring(3) of three", x -> x.ring(3), -1);
        due(2, "six", x -> x.ring(-1), 6);
        due(2, "ring(5) of six", x -> x.ring(5), 5);
        refused(2, "ring(6) of six", x -> x.ring(6), -1);
    }

    static void image() {
        of("Promise 36: THE IMAGE is as all is now: DAY");
        due(0, "image", x -> x.image(), 0);
        due(1, "image", x -> x.image() - x.about(1), 0);
        due(2, "image", x -> x.image(), 999);
        due(2, "a later one is instead of it", x -> {
            for (int i = 0; i < 3; i++) x.undo();
            x.image();
            x.soothe(7, 3);
            return x.back();
        }, 998);
    }

    static void back() {
        of("Promise 37: all is as at THE IMAGE again (it stays): DAY");
        due(1, "back", x -> x.back(), 0);
        due(1, "back twice", x -> x.back() + x.back(), 0);
        Make backed = () -> {
            FigureTempers x = busy();
            x.back();
            return x;
        };
        nothing(backed, "back again", x -> x.back(), 0);
        nothing(backed, "back behind a year", x -> x.year(5, 30) * 0 + x.back(), 0);
    }

    static void whatIsToldTouchesNothingElse() {
        of("Promises 8, 9, 12, 25, 33, 37: what is told, and then told as it was, leaves all else as it was");
        nothing(Check::busy, "feed, end", x -> x.feed(1, 2, 3, 4, 5) * 0 + x.end(12), 12);
        nothing(Check::busy, "by 1, by none, by 0", x -> bit(x.by(1)) + bit(x.by(-1)) + bit(x.by(0)), 3);
        nothing(Check::busy, "debt 99, debt 12", x -> bit(x.debt(0, 1, 99)) + bit(x.debt(0, 1, 12)), 2);
        nothing(Check::today, "debt 5, debt 0", x -> bit(x.debt(0, 5, 5)) + bit(x.debt(0, 5, 0)), 2);
        Make unseen = () -> {
            FigureTempers x = today();
            x.seen(-1, 0);
            return x;
        };
        nothing(unseen, "seen, none any more", x -> x.seen(0, 0) + x.seen(3, 5) + x.seen(-1, 0), 1 + 2);
        Make imaged = () -> {
            FigureTempers x = today();
            x.image();
            return x;
        };
        nothing(imaged, "a row, back", x -> x.row(1, 2, 3, 4, 5) + x.back(), 4 + 5);
        nothing(imaged, "image again", x -> x.image(), 5);
    }

    static void about() {
        of("Promise 38: -2 for others");
        for (int what : new int[] {-1, -2, 9, 10, MIN, MAX}) refused("about(" + what + ")", x -> x.about(what), -2);
        int[][] due = {{0, 0, 0, 53, 0, -1, 0, 0, 0}, {4, -1, -1, -1, 2, 0, 7, 2, 12}, {12, 999, -1, 53, 4, 0, 30, 6, 300}};
        for (int stand = 0; stand < 3; stand++)
            for (int what = 0; what < 9; what++) {
                int asked = what;
                if (due[stand][what] != -1 || what == 5) due(stand, "about(" + what + ")", x -> x.about(asked), due[stand][what]);
            }
    }
}
