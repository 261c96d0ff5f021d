/** The boundary cases of I. Terms: each test is a sentence of the document. */
public final class BoundTermsTest extends Check {
    public static void main(String[] args) { run(BoundTermsTest.class); }

    private static FigureTempers with(int... numbers) {
        FigureTempers x = new FigureTempers();
        for (int number : numbers) one(x, number);
        return x;
    }

    private static FigureTempers byWith(String text, int... numbers) {
        FigureTempers x = by(text);
        for (int number : numbers) one(x, number);
        return x;
    }

    // FIGURES

    static void figuresAreNoughtToNine() {
        of("FIGURES: 0 .. 9");
        FigureTempers x = fresh();
        for (int f = 0; f <= 9; f++) due("temper of " + f, x.of(f, 0), 5);
        due("figure -1", x.of(-1, 0), -1);
        due("figure 10", x.of(10, 0), -1);
    }

    static void temperAtFirst() {
        of("FIGURES: TEMPER at first 5");
        FigureTempers x = byWith("gets 1=2;off warm*10-cool;", 90);
        for (int f = 0; f <= 9; f++) due("temper of " + f, x.of(f, 0), 5);
        due("in a law", x.ofRow(0, 2), 90 + 45);
    }

    static void temperLeastAndGreatest() {
        of("FIGURES: a TEMPER 0 .. 9");
        FigureTempers x = byWith("gets 1=2;off warm*10-cool;", 90, 89);
        due("9 to 0", x.soothe(9, 0), true);
        due("0 to 9", x.soothe(0, 9), true);
        due("8 to 9", x.soothe(8, 9), true);
        due("temper", x.of(9, 0), 0);
        due("temper", x.of(0, 0), 9);
        due("least and greatest", x.ofRow(0, 2), 90 - 9);
        due("greatest and least", x.ofRow(1, 2), 89 + 90);
        due("9 to -1", x.soothe(9, -1), false);
        due("0 to 10", x.soothe(0, 10), false);
        due("temper", x.of(9, 0), 0);
        due("temper", x.of(0, 0), 9);
    }

    static void usedAtFirst() {
        of("FIGURES: USED at first 0");
        FigureTempers x = byWith("gets often#0;", 12);
        for (int f = 0; f <= 9; f++) due("used of " + f, x.of(f, 1), 0);
        due("in a law", x.ofRow(0, 3), 1);
    }

    /** The FIGURE 9 is USED 992 times; one way behind it for each count. */
    private static FigureTempers used992() {
        FigureTempers x = by("gets 1=2;off often-1950;");
        x.row(9999, 9999, 9999, 9999, 0);
        one(x, 9);
        one(x, 99);
        one(x, 999);
        for (int i = 0; i < 62; i++) x.reckon(0);
        due("62 times 16", x.of(9, 1), 992);
        return x;
    }

    static void usedAtMost999() {
        of("FIGURES: USED 0 .. 999");
        FigureTempers x = used992();
        for (int i = 993; i <= 999; i++) {
            x.reckon(1);
            due("used", x.of(9, 1), i);
        }
        x.reckon(1);
        due("used once more", x.of(9, 1), 999);
        x.reckon(0);
        due("used sixteen times more", x.of(9, 1), 999);
        due("others", x.of(8, 1), 0);
        due("of both together it may be more", x.ofRow(2, 2), 99 + 48);
    }

    static void usedBeyond999InOneRow() {
        of("FIGURES: USED 999 at most, if one ROW has more digits than are left");
        FigureTempers x = used992();
        x.reckon(0);
        due("992 and 16", x.of(9, 1), 999);
        x.undo();
        for (int i = 0; i < 5; i++) x.reckon(1);
        x.reckon(3);
        due("997 and 3", x.of(9, 1), 999);
        x.undo();
        x.reckon(2);
        due("997 and 2", x.of(9, 1), 999);
    }

    static void quarrelsAtFirst() {
        of("FIGURES: QUARRELS of this DAY, at first 0");
        FigureTempers x = byWith("mood rows+3;", 11);
        for (int f = 0; f <= 9; f++) due("quarrels of " + f, x.of(f, 2), 0);
        due("in a law", x.foretold(1, 1), 3);
    }

    static void termsAtFirst() {
        of("TERMS: at first none is bad");
        FigureTempers x = byWith("gets bad=1;", 11, 12);
        for (int f = 0; f <= 9; f++) due("bad of " + f, x.of(f, 3), 0);
        due("1 with itself", x.ofRow(0, 3), 1);
        due("1 with 2", x.ofRow(1, 3), 1);
    }

    static void termsOfAllWithAll() {
        of("TERMS: of two FIGURES, also one with itself, from none to all");
        FigureTempers x = fresh();
        for (int a = 0; a <= 9; a++)
            for (int b = a; b <= 9; b++) due("turn " + a + " with " + b, x.turn(a, b), true);
        for (int f = 0; f <= 9; f++) due("all of " + f, x.of(f, 3), 1023);
        for (int a = 0; a <= 9; a++)
            for (int b = a; b <= 9; b++) due("turn " + b + " with " + a, x.turn(b, a), false);
        for (int f = 0; f <= 9; f++) due("none of " + f, x.of(f, 3), 0);
    }

    // ROWS

    static void rowsAreNoughtToEleven() {
        of("ROWS: 0 .. 11");
        FigureTempers x = fresh();
        due("none", x.about(0), 0);
        due("row 0 of none", x.ofRow(0, 0), -1000000);
        for (int i = 0; i <= 11; i++) due("a row", one(x, i), i);
        due("the 13th", one(x, 12), -1);
        due("all", x.about(0), 12);
        due("the last one", x.ofRow(11, 10), 11);
        due("it can be reckoned", x.reckon(11), 11);
        due("beyond", x.ofRow(12, 0), -1000000);
        due("a day of all", x.day(1), 11 + 66);
    }

    static void numbersOneToFour() {
        of("ROWS: 1 to 4 NUMBERS");
        FigureTempers x = fresh();
        due("none", x.row(-1, -1, -1, -1, 0), -1);
        due("one", x.row(7, -1, -1, -1, 0), 0);
        due("two", x.row(7, 7, -1, -1, 0), 1);
        due("three", x.row(7, 7, 7, -1, 0), 2);
        due("four", x.row(7, 7, 7, 7, 0), 3);
        for (int i = 0; i < 4; i++) {
            due("how many", x.ofRow(i, 0), i + 1);
            due("true", x.ofRow(i, 1), 7 * (i + 1));
            due("the last one", x.ofRow(i, 10 + i), 7);
            due("one behind it", x.ofRow(i, 11 + i), -1000000);
        }
    }

    static void numbersLeastAndGreatest() {
        of("ROWS: NUMBERS 0 .. 9999");
        FigureTempers x = fresh();
        due("0", x.row(0, 0, 0, 0, 15), 0);
        due("9999", x.row(9999, 9999, 9999, 9999, 15), 1);
        due("least", x.ofRow(0, 1), 0);
        due("greatest, minus", x.ofRow(1, 1), -39996);
        for (int place = 0; place < 4; place++) {
            due("0 at a place", x.ofRow(0, 10 + place), 0);
            due("9999 at a place", x.ofRow(1, 10 + place), 9999);
            int[] n = {1, 2, 3, 4};
            n[place] = 10000;
            due("10000 at place " + place, x.row(n[0], n[1], n[2], n[3], 0), -1);
            n[place] = -2;
            due("-2 at place " + place, x.row(n[0], n[1], n[2], n[3], 0), -1);
        }
        due("rows", x.about(0), 2);
    }

    static void eachWithPlusOrMinus() {
        of("ROWS: NUMBERS, each with plus or minus");
        for (int minus = 0; minus <= 15; minus++) {
            FigureTempers x = fresh();
            due("minus " + minus, x.row(1, 10, 100, 1000, minus), 0);
            int sum = 0;
            for (int i = 0, n = 1; i < 4; i++, n *= 10) {
                sum += (minus >> i & 1) == 1 ? -n : n;
                due("sign of " + n, x.ofRow(0, 20 + i), minus >> i & 1);
            }
            due("TRUE", x.ofRow(0, 1), sum);
            due("OUT", x.ofRow(0, 2), sum);
        }
    }

    // DAY, BALANCE, X

    static void dayAtMost999() {
        of("DAY: 0 .. 999");
        FigureTempers x = with(1);
        due("at first", x.about(1), 0);
        until(x, 998);
        due("the day ahead of the last", x.about(1), 998);
        due("two more", x.day(2), -10000000);
        due("still", x.about(1), 998);
        due("one more", x.day(1), 999);
        due("the last", x.about(1), 999);
        due("one more", x.day(1), -10000000);
        due("still", x.about(1), 999);
        due("a year's day", x.year(0, 1), 0);
        due("still", x.about(1), 999);
    }

    static void balanceAtFirst() {
        of("BALANCE: at first 0");
        due("of none", fresh().about(2), 0);
        due("a day without ROWS", fresh().day(60), 0);
    }

    /** BALANCE is 9999000 with a sign. */
    private static FigureTempers rich(int sign) {
        FigureTempers x = fresh();
        x.row(9999, 9999, 9999, 9999, sign < 0 ? 15 : 0);
        x.row(999, -1, -1, -1, sign < 0 ? 1 : 0);
        x.row(1, -1, -1, -1, sign < 0 ? 1 : 0);
        x.row(1, -1, -1, -1, sign < 0 ? 0 : 1);
        x.row(998, -1, -1, -1, sign < 0 ? 1 : 0);
        for (int i = 0; i < 250; i++) x.reckon(0);
        due("balance", x.about(2), sign * 9999000);
        return x;
    }

    static void balanceGreatest() {
        of("BALANCE: to 9999999: what is beyond is that");
        FigureTempers x = rich(1);
        x.reckon(4);
        due("one below", x.about(2), 9999998);
        x.reckon(2);
        due("the greatest", x.about(2), 9999999);
        due("out", x.reckon(2), 1);
        due("one beyond", x.about(2), 9999999);
        due("out", x.reckon(0), 39996);
        due("far beyond", x.about(2), 9999999);
        x.reckon(3);
        due("down again", x.about(2), 9999998);
    }

    static void balanceLeast() {
        of("BALANCE: from -9999999: what is beyond is that");
        FigureTempers x = rich(-1);
        x.reckon(4);
        due("one above", x.about(2), -9999998);
        x.reckon(2);
        due("the least", x.about(2), -9999999);
        due("out", x.reckon(2), -1);
        due("one beyond", x.about(2), -9999999);
        due("out", x.reckon(0), -39996);
        due("far beyond", x.about(2), -9999999);
        x.reckon(3);
        due("up again", x.about(2), -9999998);
    }

    static void balanceIsBoundedByEachRow() {
        of("BALANCE: what is beyond is that, at each ROW that is RECKONED in a DAY");
        FigureTempers x = rich(1);
        x.row(9999, 9999, 9999, 9999, 15);
        due("a day: 39996 + 999 + 1 - 1 + 998 - 39996", x.day(1), 9999999 - 39996);
        x = rich(-1);
        x.row(9999, 9999, 9999, 9999, 0);
        due("the same with other signs", x.day(1), -9999999 + 39996);
    }

    static void xAtFirst() {
        of("X: at first 53, and changed by A YEAR alone");
        FigureTempers x = with(12);
        due("at first", x.about(3), 53);
        x.reckon(0);
        x.day(3);
        x.turn(1, 2);
        x.soothe(1, 2);
        due("still", x.about(3), 53);
        x.year(0, 1);
        due("behind a year", x.about(3), 13772);
    }

    // WRITTEN, BESIDE, QUARREL, TRUE, OUT

    static void writtenWithoutLeadingNoughts() {
        of("WRITTEN: each by its digits without leading noughts");
        int[] number = {1, 9, 10, 99, 100, 999, 1000, 9999};
        int[] digits = {1, 1, 2, 2, 3, 3, 4, 4};
        for (int i = 0; i < number.length; i++)
            due("digits of " + number[i], with(number[i]).ofRow(0, 4), digits[i]);
        FigureTempers x = with(1000);
        due("noughts behind", x.beside(0, 0), 10);
        due("noughts behind", x.beside(0, 1), 0);
        due("noughts behind", x.beside(0, 2), 0);
    }

    static void noughtIsWritten() {
        of("WRITTEN: 0: one nought");
        FigureTempers x = with(0);
        due("digits", x.ofRow(0, 4), 1);
        x.row(0, 0, 0, 0, 0);
        due("digits of four", x.ofRow(1, 4), 4);
        x.turn(0, 0);
        due("they are BESIDE one another", x.ofRow(1, 3), 3);
        x.reckon(1);
        due("each is USED", x.of(0, 1), 4);
    }

    static void digitsFromOneToSixteen() {
        of("WRITTEN: from one digit to sixteen");
        FigureTempers x = fresh();
        one(x, 5);
        x.row(1234, 5678, 9012, 3456, 0);
        due("fewest", x.ofRow(0, 4), 1);
        due("no TWO", x.beside(0, 0), -1);
        due("most", x.ofRow(1, 4), 16);
        int[] twos = {12, 23, 34, 45, 56, 67, 78, 89, 90, 1, 12, 23, 34, 45, 56};
        for (int i = 0; i < 15; i++) due("two " + i, x.beside(1, i), twos[i]);
        due("two 15", x.beside(1, 15), -1);
        rule(x, "gets 1=2;");
        due("all QUARREL", x.ofRow(1, 3), 15);
        due("out of 15", x.ofRow(1, 2), x.ofRow(1, 1) + 15);
        due("none to QUARREL", x.ofRow(0, 3), 0);
        due("out of none", x.ofRow(0, 2), 5);
    }

    static void apart() {
        of("BESIDE: the last one of a NUMBER and the first one of the next (APART then)");
        FigureTempers x = by("gets apart=0;");
        x.row(12, 34, -1, -1, 0);
        x.row(5, 6, -1, -1, 2);
        x.row(56, -1, -1, -1, 0);
        due("two digits each", x.ofRow(0, 3), 1);
        due("the one", x.beside(0, 1), 123);
        due("within", x.beside(0, 0), 12);
        due("within", x.beside(0, 2), 34);
        due("one digit each", x.beside(1, 0), 156);
        due("one NUMBER", x.ofRow(2, 3), 0);
    }

    static void ofOneFigureWithItself() {
        of("QUARREL: two of one FIGURE, if it is on bad TERMS with itself");
        FigureTempers x = with(1111, 1);
        x.turn(1, 1);
        due("three TWO", x.ofRow(0, 3), 3);
        due("out", x.ofRow(0, 2), 1114);
        due("alone", x.ofRow(1, 3), 0);
    }

    static void outWithoutQuarrels() {
        of("OUT: TRUE, where none QUARREL, also below 0");
        FigureTempers x = fresh();
        x.row(12, 12, -1, -1, 2);
        x.row(0, 9999, -1, -1, 2);
        due("0", x.reckon(0), 0);
        due("below 0", x.reckon(1), -9999);
    }

    static void offIsAddedToMinus() {
        of("OUT: off is added as it is, also to a NUMBER with minus");
        FigureTempers x = fresh();
        x.row(12, -1, -1, -1, 1);
        x.turn(1, 2);
        due("out", x.reckon(0), -11);
        rule(x, "off -20;");
        due("out", x.reckon(0), -32);
    }

    // RECKONED

    static void reckonedAsAllIsAhead() {
        of("RECKONED: its OUT (as all is ahead of it)");
        FigureTempers x = byWith("gets often=0;off often;", 1111);
        due("its own digits don't count yet", x.reckon(0), 1111);
        due("they do by the next time", x.reckon(0), 1111 + 3 * 8);
    }

    static void outComesAheadOfBounds() {
        of("RECKONED: OUT is what is written down, not what BALANCE could take");
        FigureTempers x = rich(1);
        due("out", x.reckon(0), 39996);
        due("balance", x.about(2), 9999999);
        due("written", x.book(39, 2), 39996);
    }

    static void nothingWrittenAtFirst() {
        of("RECKONED: written down: nothing at first");
        FigureTempers x = fresh();
        due("how many", x.book(-1, 0), 0);
        due("the first", x.book(0, 0), -1000000);
    }

    static void fortyAreWritten() {
        of("RECKONED: it is written down (the latest 40): ROW, DAY, OUT");
        FigureTempers x = with(0, 1);
        x.reckon(1);
        for (int i = 1; i < 39; i++) x.reckon(0);
        due("39", x.book(-1, 0), 39);
        due("the 40th is none yet", x.book(39, 0), -1000000);
        x.reckon(1);
        due("40", x.book(-1, 0), 40);
        due("the eldest is there", x.book(0, 0), 1);
        due("the latest", x.book(39, 0), 1);
        x.reckon(0);
        due("40 still", x.book(-1, 0), 40);
        due("the eldest has gone", x.book(0, 2), 0);
        due("the one ahead of the latest", x.book(38, 2), 1);
        due("the latest", x.book(39, 2), 0);
        due("no 41st", x.book(40, 0), -1000000);
        x.undo();
        due("taken back", x.book(-1, 0), 40);
        due("the eldest is back", x.book(0, 0), 1);
        x.undo();
        due("taken back", x.book(-1, 0), 39);
    }

    static void fortyOfDays() {
        of("RECKONED: the latest 40 of more that one DAY, one A YEAR have");
        FigureTempers x = fresh();
        for (int i = 0; i < 12; i++) one(x, i);
        x.day(3);
        due("36", x.book(-1, 0), 36);
        x.day(1);
        due("40 of 48", x.book(-1, 0), 40);
        due("eldest row", x.book(0, 0), 8);
        due("eldest day", x.book(0, 1), 0);
        due("latest row", x.book(39, 0), 11);
        due("latest day", x.book(39, 1), 3);
        due("a year of 30 draws", x.year(0, 30), 0);
        due("40 of many", x.book(-1, 0), 40);
        x.undo();
        due("all forty are back", x.book(0, 0), 8);
        due("all forty are back", x.book(39, 1), 3);
    }

    static void bothHaveOneQuarrelMore() {
        of("RECKONED: one QUARREL more (both, if it is one FIGURE: two)");
        FigureTempers x = with(12, 1111);
        x.turn(1, 2);
        x.turn(1, 1);
        x.reckon(0);
        due("one", x.of(1, 2), 1);
        due("the other", x.of(2, 2), 1);
        x.reckon(1);
        due("three times two", x.of(1, 2), 7);
        due("others", x.of(2, 2), 1);
        due("others", x.of(0, 2), 0);
        for (int i = 0; i < 200; i++) x.reckon(1);
        due("nothing bounds them", x.of(1, 2), 7 + 1200);
    }

    static void quarrelsOfOffNought() {
        of("RECKONED: TWO that QUARREL have one QUARREL more, if off is 0 too");
        FigureTempers x = byWith("gets 1=2;off 0;", 12);
        due("out", x.reckon(0), 12);
        due("quarrels", x.of(1, 2), 1);
        due("how many", x.ofRow(0, 3), 1);
        due("beside", x.beside(0, 0), 112);
    }

    // A DAY

    static void dayWithoutRows() {
        of("A DAY: without ROWS TEMPERS turn and DAY is one more");
        FigureTempers x = by("mood figure;");
        due("balance", x.day(1), 0);
        for (int f = 0; f <= 9; f++) due("temper", x.of(f, 0), f);
        due("day", x.about(1), 1);
        due("written", x.book(-1, 0), 0);
        due("steps", x.about(6), 1);
    }

    static void dayByNumber() {
        of("A DAY: all ROWS are RECKONED by number, each as all is ahead of it");
        FigureTempers x = byWith("gets often=0;off often;", 12, 21, 12);
        due("0 and 2 and 4", x.day(1), 45 + 6);
        for (int i = 0; i < 3; i++) {
            due("row", x.book(i, 0), i);
            due("day", x.book(i, 1), 0);
        }
        due("first", x.book(0, 2), 12);
        due("last", x.book(2, 2), 16);
    }

    static void moodComesBehindAllRows() {
        of("A DAY: then, all at once, the TEMPER is mood; QUARRELS are 0; DAY is one more");
        FigureTempers x = byWith("gets 1=2;off warm;mood rows*2+day;", 12, 12);
        due("by the TEMPERS ahead", x.day(1), 24 + 10);
        due("by all QUARRELS of the DAY, and the DAY that ends", x.of(1, 0), 4);
        due("of others", x.of(0, 0), 0);
        due("quarrels", x.of(1, 2), 0);
        x.reckon(0);
        due("reckoned by hand", x.of(1, 2), 1);
        x.day(1);
        due("by hand's too", x.of(2, 0), 7);
        due("of others", x.of(0, 0), 1);
        due("quarrels", x.of(2, 2), 0);
    }

    // TURNED, SOOTHED

    static void theOtherWayRound() {
        of("TURNED: TERMS are bad, that weren't, or the other way round");
        FigureTempers x = with(90, 99, 9);
        due("9 with 0", x.turn(9, 0), true);
        due("quarrel", x.ofRow(0, 3), 1);
        due("9 with 9", x.turn(9, 9), true);
        due("quarrel", x.ofRow(1, 3), 1);
        due("0 with 9", x.turn(0, 9), false);
        due("no quarrel", x.ofRow(0, 3), 0);
        due("9 with 9", x.turn(9, 9), false);
        due("no quarrel", x.ofRow(1, 3), 0);
        due("each is a STEP", x.about(6), 4);
    }

    static void anotherTemper() {
        of("SOOTHED: a FIGURE's TEMPER is another one");
        FigureTempers x = fresh();
        for (int t = 0; t <= 9; t++) {
            due("0 to " + t, x.soothe(0, t), true);
            due("temper", x.of(0, 0), t);
        }
        due("9 again", x.soothe(0, 9), false);
        due("steps", x.about(6), 10);
        due("another figure", x.of(1, 0), 5);
        due("5 of 5", x.soothe(9, 5), false);
        due("steps", x.about(6), 10);
    }

    // STEPS

    static void noStepsAtFirst() {
        of("STEPS: none at first");
        FigureTempers x = fresh();
        due("steps", x.about(6), 0);
        due("undo", x.undo(), -1);
        due("steps", x.about(6), 0);
    }

    static void thirtySteps() {
        of("STEPS: the latest 30 can be taken back, the latest first");
        FigureTempers x = fresh();
        x.soothe(9, 9);
        for (int i = 1; i < 29; i++) x.soothe(0, i % 2);
        due("29", x.about(6), 29);
        x.soothe(8, 8);
        due("30", x.about(6), 30);
        for (int i = 29; i >= 0; i--) due("undo", x.undo(), i);
        due("the eldest is taken back too", x.of(9, 0), 5);
        due("none left", x.undo(), -1);
        x.soothe(9, 9);
        for (int i = 1; i < 31; i++) x.soothe(0, i % 2);
        due("30 of 31", x.about(6), 30);
        for (int i = 29; i >= 0; i--) due("undo", x.undo(), i);
        due("the eldest of 31 stays", x.of(9, 0), 9);
        due("the next to it is taken back", x.of(0, 0), 5);
        due("none left", x.undo(), -1);
        due("the eldest of 31 stays", x.of(9, 0), 9);
    }

    static void thirtyStepsOfSixtyDays() {
        of("STEPS: a DAY (each): of 60 the latest 30");
        FigureTempers x = with(1);
        x.day(60);
        due("steps", x.about(6), 30);
        for (int i = 29; i >= 0; i--) due("undo", x.undo(), i);
        due("day", x.about(1), 30);
        due("balance", x.about(2), 30);
        due("none left", x.undo(), -1);
        due("day", x.about(1), 30);
    }

    static void whatIsAStep() {
        of("STEPS: RECKONED, a DAY (each), TURNED, SOOTHED, A YEAR");
        FigureTempers x = with(1);
        x.reckon(0);
        due("reckoned", x.about(6), 1);
        x.day(2);
        due("two days", x.about(6), 3);
        x.turn(0, 0);
        due("turned", x.about(6), 4);
        x.turn(0, 0);
        due("turned", x.about(6), 5);
        x.soothe(0, 0);
        due("soothed", x.about(6), 6);
        x.year(0, 30);
        due("a year", x.about(6), 7);
        x.undo();
        due("taken back", x.about(6), 6);
    }

    static void whatIsNoStep() {
        of("STEPS: nothing else is one: ROWS, TEXTS, THE TEXT, SEEN, DEBTS, THE IMAGE stay");
        FigureTempers x = fresh();
        x.turn(3, 3);
        one(x, 12);
        text(x, "gets 1=2;");
        x.by(0);
        x.seen(0, 1);
        x.debt(0, 1, 5);
        x.feed(0, 0, 0, 0, 0);
        x.image();
        due("steps", x.about(6), 1);
        due("undo", x.undo(), 0);
        int[] due = {1, 0, 0, 53, 1, 0, 0, 1, 20};
        for (int i = 0; i < due.length; i++) due("about(" + i + ")", x.about(i), due[i]);
        due("debt", x.worth(1), 5);
        due("image", x.back(), 0);
        due("steps of the image", x.about(6), 1);
    }

    static void takenBackWhole() {
        of("STEPS: TEMPERS, USED, QUARRELS, TERMS, DAY, BALANCE, X, what is written down are as ahead of it");
        Make five = () -> {
            FigureTempers x = byWith("gets left<right;mood rows+used;", 21, 43);
            x.turn(1, 2);
            x.soothe(3, 9);
            x.reckon(0);
            x.day(1);
            x.year(7, 12);
            x.reckon(1);
            return x;
        };
        String[] name = {"reckon", "day", "turn", "soothe", "year"};
        Call[] step = {x -> x.reckon(0), x -> x.day(1), x -> bit(x.turn(2, 2)), x -> bit(x.soothe(9, 8)), x -> x.year(9, 30)};
        for (int i = 0; i < step.length; i++) {
            Call asking = step[i];
            due(name[i] + " changes something", look(five, null).equals(look(five, asking)), false);
            due(name[i] + " taken back changes nothing",
                    look(five, null).equals(look(five, x -> asking.on(x) + x.undo())), true);
        }
    }

    static void stepsTakenBackAndGoneOn() {
        of("STEPS: 30 can be taken back again behind some that were");
        FigureTempers x = with(1);
        for (int i = 0; i < 30; i++) x.reckon(0);
        for (int i = 0; i < 10; i++) x.undo();
        due("20 left", x.about(6), 20);
        for (int i = 0; i < 10; i++) x.reckon(0);
        due("30 again", x.about(6), 30);
        for (int i = 0; i < 30; i++) x.undo();
        due("all", x.about(2), 0);
        due("all", x.undo(), -1);
    }

    // A YEAR

    static void yearSeeds() {
        of("A YEAR: SEED 0 .. 9999: X is SEED * 3 + 53");
        FigureTempers x = fresh();
        due("-1", x.year(-1, 1), -1);
        due("10000", x.year(10000, 1), -1);
        due("X", x.about(3), 53);
        due("0", x.year(0, 1), 0);
        due("X of 53", x.about(3), (53 * 257 + 151) % 30241);
        due("9999", x.year(9999, 1), 0);
        due("X of 30050", x.about(3), (30050 * 257 + 151) % 30241);
    }

    static void yearDraws() {
        of("A YEAR: n times (1 .. 30)");
        FigureTempers x = fresh();
        due("0", x.year(0, 0), -1);
        due("31", x.year(0, 31), -1);
        due("X", x.about(3), 53);
        due("1", x.year(9999, 1), 0);
        due("one draw alone", x.about(3), 11546);
        // by 6: 53 is 5, a DAY; 13772 and 1358 are 2, without ROWS; 16506 is 0, and by 10 8453 is 3, 25461 is 1
        due("four", x.year(0, 4), 0);
        due("a day", x.about(1), 1);
        due("3 with 1", x.of(3, 3), 2);
        due("1 with 3", x.of(1, 3), 8);
        due("X", x.about(3), 11572);
        due("30", x.year(0, 30), 0);
        int c = 53;
        int day = 1;
        for (int i = 0; i < 30; i++) {
            int w = c % 6;
            int drawn = w < 2 ? 3 : 1;
            for (int k = 0; k < drawn; k++) c = (c * 257 + 151) % 30241;
            day += w > 2 ? 1 : 0;
        }
        due("X behind 30", x.about(3), c);
        due("DAY behind 30", x.about(1), day);
    }

    static void yearTurns() {
        of("A YEAR: 0: TERMS of a FIGURE drawn by 10 and another draw by 10 are TURNED");
        FigureTempers x = fresh();
        due("9 with 0", x.year(425, 2), 0);
        due("bad", x.of(9, 3), 1);
        due("bad", x.of(0, 3), 512);
        due("X", x.about(3), 26447);
        due("0 with 9", x.year(1143, 2), 0);
        due("not any more", x.of(9, 3), 0);
        due("not any more", x.of(0, 3), 0);
        due("0 with itself", x.year(427, 2), 0);
        due("bad", x.of(0, 3), 1);
        due("9 with itself", x.year(1141, 2), 0);
        due("bad", x.of(9, 3), 512);
        due("9 with itself", x.year(3485, 2), 0);
        due("not any more", x.of(9, 3), 0);
        due("four STEPS and one", x.about(6), 5);
    }

    static void yearSoothes() {
        of("A YEAR: 1: a FIGURE drawn by 10 is SOOTHED to a draw by 10 (also if it is so)");
        FigureTempers x = fresh();
        x.year(405, 2);
        due("0 to 9", x.of(0, 0), 9);
        due("X", x.about(3), 25956);
        x.year(2035, 2);
        due("0 to 0", x.of(0, 0), 0);
        x.year(2037, 2);
        due("so already", x.of(0, 0), 0);
        due("X goes on as ever", x.about(3), 17636);
        x.year(639, 2);
        due("5 to 5, so already", x.of(5, 0), 5);
        due("X goes on as ever", x.about(3), 10532);
        x.year(849, 2);
        due("9 to 9", x.of(9, 0), 9);
        due("each year is a STEP, also one that changes X alone", x.about(6), 5);
    }

    static void yearWithoutRows() {
        of("A YEAR: 2: a ROW (if there is one): without, nothing more is drawn");
        FigureTempers x = fresh();
        due("year", x.year(1, 1), 0);
        due("X", x.about(3), (56 * 257 + 151) % 30241);
        due("written", x.book(-1, 0), 0);
        due("day", x.about(1), 0);
        x = with(7);
        due("of one ROW one is drawn", x.year(1, 1), 0);
        due("X", x.about(3), (14543 * 257 + 151) % 30241);
        due("written", x.book(-1, 0), 1);
        due("balance", x.about(2), 7);
    }

    static void yearOfTwelveRows() {
        of("A YEAR: 2: a ROW drawn by how many there are is RECKONED");
        int[] seeds = {179, 143, 103, 63, 23, 3, 181, 141, 101, 61, 25, 1};
        FigureTempers x = fresh();
        for (int i = 0; i < 12; i++) one(x, i);
        for (int row = 0; row < 12; row++) {
            due("year", x.year(seeds[row], 1), 0);
            due("row", x.book(row, 0), row);
        }
        due("rows alone", x.about(1), 0);
        due("balance", x.about(2), 66);
    }

    static void yearOfAnyRows() {
        of("A YEAR: 2: a ROW drawn by how many there are: X mod so many");
        for (int count = 1; count <= 12; count++) {
            FigureTempers x = fresh();
            for (int i = 0; i < count; i++) one(x, i);
            // SEEDS that are 1 by 2 make X 2 by 6
            for (int seed = 1; seed < 40; seed += 2) {
                int first = seed * 3 + 53;
                due("by 6", first % 6, 2);
                int then = (first * 257 + 151) % 30241;
                due("year of " + seed, x.year(seed, 1), 0);
                due("row of " + count, x.book(x.book(-1, 0) - 1, 0), then % count);
                due("X", x.about(3), (then * 257 + 151) % 30241);
            }
        }
    }

    static void yearReckons() {
        of("A YEAR: a ROW is RECKONED, a DAY passes, as by hand: USED, QUARRELS, BALANCE, what is written down, moods");
        FigureTempers x = byWith("gets 1=2;off 3;mood rows+2;", 12);
        // 56 by 6 is 2, 53 is 5
        due("a ROW", x.year(1, 1), 1);
        for (int f = 1; f <= 2; f++) {
            due("used", x.of(f, 1), 1);
            due("quarrels", x.of(f, 2), 1);
            due("temper", x.of(f, 0), 5);
        }
        due("balance", x.about(2), 15);
        due("written", x.book(0, 2), 15);
        due("day", x.about(1), 0);
        due("a DAY", x.year(0, 1), 1);
        due("used", x.of(1, 1), 2);
        due("quarrels", x.of(1, 2), 0);
        due("mood of the DAY's QUARRELS, the drawn ROW's too", x.of(1, 0), 4);
        due("mood of others", x.of(0, 0), 2);
        due("balance", x.about(2), 30);
        due("written", x.book(-1, 0), 2);
        due("its DAY", x.book(1, 1), 0);
        due("day", x.about(1), 1);
    }

    static void yearOfDays() {
        of("A YEAR: else a DAY: 3, 4, 5");
        int[] seeds = {61, 23, 1};
        for (int seed : seeds) {
            FigureTempers x = fresh();
            due("year", x.year(seed, 2), 0);
            due("day", x.about(1), 1);
        }
    }

    static void yearAt999() {
        of("A YEAR: else a DAY (999 stays: then none)");
        FigureTempers x = byWith("gets 1=2;mood 9-temper;", 12);
        until(x, 998);
        // by 6: 53 is 5, a DAY; 13772 is 2, a ROW, drawn from 1358; 16506 is next
        due("998: the DAY passes, and a ROW", x.year(0, 2), 2);
        due("day", x.about(1), 999);
        int balance = x.about(2);
        int temper = x.of(1, 0);
        due("999: none passes, and a ROW", x.year(0, 2), 1);
        due("day", x.about(1), 999);
        due("the drawn ROW alone", x.about(2), balance + 13);
        due("tempers don't turn", x.of(1, 0), temper);
        due("X goes on as ever", x.about(3), 16506);
        due("a STEP", x.undo(), 29);
        due("balance", x.about(2), balance);
    }

    static void yearIsOneStep() {
        of("A YEAR: it is one STEP");
        FigureTempers x = with(12, 21);
        x.year(2, 30);
        due("steps", x.about(6), 1);
        due("undo", x.undo(), 0);
        due("X", x.about(3), 53);
        due("day", x.about(1), 0);
        due("written", x.book(-1, 0), 0);
        due("undo", x.undo(), -1);
    }

    static void yearCounts() {
        of("A YEAR: how many ROWS came out other than TRUE in it");
        FigureTempers x = with(12, 34, 7);
        due("none", x.year(0, 30), 0);
        x = byWith("gets 1=2;off left-1;", 12, 34, 7);
        // 53 by 6 is 5: a DAY; the first ROW is TRUE, as off is 0
        due("one of three", x.year(0, 1), 1);
        // 56 by 6 is 2, and 14543 by 3 is 2: the ROW of one digit; 59 by 6 is 5
        due("a ROW that is TRUE", x.year(1, 1), 0);
        due("a DAY", x.year(2, 1), 1);
    }

    static void yearCountsAllOfADay() {
        of("A YEAR: how many ROWS came out other than TRUE in it: of a DAY each of them, by OUT, not by QUARRELS");
        FigureTempers x = byWith("gets 1=2;off left-1;", 23, 34, 17, 7, 45);
        due("three of five in a DAY", x.year(0, 1), 3);
        // 56 by 6 is 2, and 14543 by 5 is 3; 65 by 6 is 5; 62 by 6 is 2, and 16085 by 5 is 0
        due("the ROW of one digit", x.year(1, 1), 0);
        due("row", x.book(x.book(-1, 0) - 1, 0), 3);
        due("23", x.year(3, 1), 1);
        due("row", x.book(x.book(-1, 0) - 1, 0), 0);
        x = byWith("gets 1=2;off left-1;", 17);
        due("a ROW that QUARRELS and is TRUE", x.year(1, 1), 0);
        due("it QUARRELS", x.of(7, 2), 1);
        due("and in a DAY", x.year(0, 1), 0);
    }

    static void yearCountsEachTime() {
        of("A YEAR: how many ROWS came out other than TRUE in it: each time that one did");
        FigureTempers x = byWith("gets 1=2;", 12);
        for (int seed : new int[] {0, 7, 5000, 9999}) {
            int draws = seed * 3 + 53;
            int often = 0;
            for (int i = 0; i < 20; i++) {
                int w = draws % 6;
                for (int k = 0; k < (w < 2 ? 3 : w == 2 ? 2 : 1); k++) draws = (draws * 257 + 151) % 30241;
                often += w >= 2 ? 1 : 0;
            }
            due("year of " + seed, x.year(seed, 20), often);
        }
    }
}
