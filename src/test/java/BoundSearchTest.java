/** The boundary cases of III. and IV., FORETOLD to AN IMAGE: each test is a sentence of the document. */
public final class BoundSearchTest extends Check {
    public static void main(String[] args) { run(BoundSearchTest.class); }

    /** ordered, split, ..: how many, and then each. */
    private static void each(String name, Call howMany, java.util.function.IntFunction<Call> which, FigureTempers x, int... want) {
        due(name + ": how many", howMany.on(x), want[0]);
        for (int i = 1; i < want.length; i++) due(name + ": " + (i - 1), which.apply(i - 1).on(x), want[i]);
        due(name + ": one behind the last", which.apply(want.length - 1).on(x), -1);
    }

    private static void ordered(FigureTempers x, int row, int... want) {
        each("ordered", h -> h.ordered(row, -1), i -> h -> h.ordered(row, i), x, want);
    }

    private static void notOrdered(FigureTempers x, int row) {
        for (int i = -1; i < 4; i++) due("ordered " + i, x.ordered(row, i), -1);
    }

    private static void split(FigureTempers x, int number, int... want) {
        int[] all = new int[want.length + 1];
        all[0] = want.length;
        System.arraycopy(want, 0, all, 1, want.length);
        each("split", h -> h.split(number, -1), i -> h -> h.split(number, i), x, all);
    }

    private static void notSplit(FigureTempers x, int number) {
        for (int i = -1; i < 3; i++) due("split " + i, x.split(number, i), -1);
    }

    private static void changed(FigureTempers x, int row, int which, int then) {
        due("changed: which", x.changed(row, 0), which);
        due("changed: what it is then", x.changed(row, 1), then);
    }

    private static void ledger(FigureTempers x, int rows, int... want) {
        each("ledger", h -> h.ledger(rows, -1), i -> h -> h.ledger(rows, i), x, want);
    }

    private static void ring(FigureTempers x, int least, int... want) {
        int[] all = new int[want.length + 1];
        all[0] = want.length;
        System.arraycopy(want, 0, all, 1, want.length);
        each("ring", h -> h.ring(-1), i -> h -> h.ring(i), x, all);
        due("ring: the least", x.ring(-2), least);
    }

    private static void noRing(FigureTempers x) {
        for (int i = -2; i < 6; i++) due("ring " + i, x.ring(i), -1);
    }

    // FORETOLD

    static void searchesChangeNothing() {
        of("III.: all that follows changes nothing");
        Call[] search = {
            x -> x.foretold(30, -1), x -> x.foretold(30, 7), x -> x.firstOff(30, 2), x -> x.firstOff(30, 0),
            x -> x.ordered(0, -1), x -> x.ordered(1, 0), x -> x.split(99, -1), x -> x.split(12, 0), x -> x.nearest(9999), x -> x.nearest(12),
            x -> x.changed(0, 0), x -> x.changed(1, 1), x -> x.fits(7, -1, 0), x -> x.fits(896, 0, 7), x -> x.tells(134),
            x -> x.ledger(7, -1), x -> x.ledger(7, 2), x -> x.order(100), x -> x.grouping(12), x -> x.carried(777, 777, false),
            x -> x.carried(777, 777, true), x -> x.game(63, false), x -> x.game(63, true), x -> x.worth(1), x -> x.ring(-1),
            x -> x.of(7, 1), x -> x.ofRow(1, 2), x -> x.beside(1, 1), x -> x.book(0, 2), x -> x.fault(0), x -> x.about(2)};
        Make[] makes = {Check::busy, Check::full, Check::today};
        for (int f : new int[] {1, 2, 7}) due("QUARRELS of today", today().of(f, 2) > 0, true);
        for (Make make : makes)
            for (int i = 0; i < search.length; i++)
                nothing(make, "search " + i, search[i], search[i].on(make.made()));
    }

    static void foretoldOneToThirty() {
        of("FORETOLD: for n DAYS (1 .. 30)");
        FigureTempers x = by("mood day;");
        one(x, 100);
        for (int n = 1; n <= 30; n++) {
            due("balance", x.foretold(n, -1), 100 * n);
            due("temper", x.foretold(n, 0), Math.min(9, n - 1));
        }
        due("0", x.foretold(0, -1), -10000000);
        due("31", x.foretold(31, -1), -10000000);
    }

    static void foretoldBeyond999() {
        of("FORETOLD: 999 doesn't bound it");
        FigureTempers x = by("gets day<1020;off day-1000;mood day-998;");
        one(x, 12);
        until(x, 999);
        due("balance", x.about(2), 999 * 12);
        due("one more", x.foretold(1, -1), 999 * 12 + 12);
        due("temper of 999", x.foretold(1, 9), 1);
        due("temper of 1001", x.foretold(3, 0), 3);
        due("thirty more, with off 20 to 28", x.foretold(30, -1), 999 * 12 + 360 + 24 * 9);
        due("first off on the DAY 1020", x.firstOff(30, 0), 22);
        due("too few", x.firstOff(21, 0), -1);
        due("day", x.about(1), 999);
    }

    static void foretoldKeepsBounds() {
        of("FORETOLD: BALANCE and USED keep their bounds");
        FigureTempers x = by("gets often<1998;");
        for (int i = 0; i < 12; i++) x.row(9999, 9999, 9999, 9999, 0);
        x.day(20);
        due("balance", x.about(2), 9599040 + 15 * (20 * 12 - 62 - 1));
        due("beyond", x.foretold(1, -1), 9999999);
        due("far beyond", x.foretold(30, -1), 9999999);
        due("used", x.of(9, 1), 999);
        x = by("mood used-990;");
        one(x, 999);
        until(x, 330);
        due("used", x.of(9, 1), 990);
        due("used 993", x.foretold(1, 9), 3);
        due("used 999", x.foretold(3, 9), 9);
        rule(x, "mood used-993;");
        due("used 999, and no more", x.foretold(30, 9), 6);
    }

    static void foretoldFromToday() {
        of("FORETOLD: from what is now: QUARRELS of this DAY, THE TEXT, no ROWS");
        FigureTempers x = by("mood rows+1;");
        due("no ROWS", x.foretold(30, -1), 0);
        due("no ROWS", x.foretold(30, 0), 1);
        one(x, 11);
        x.turn(1, 1);
        x.reckon(0);
        due("today's and tomorrow's", x.foretold(1, 1), 5);
        due("tomorrow's alone", x.foretold(2, 1), 3);
        x.by(-1);
        due("no TEXT", x.foretold(30, 1), 5);
        due("balance", x.foretold(1, -1), 24);
    }

    static void firstOffOneToThirty() {
        of("FORETOLD: in how many DAYS a ROW first comes out other than TRUE (1: in the next one; none)");
        FigureTempers x = by("gets day<29;");
        one(x, 12);
        due("30", x.firstOff(30, 0), 30);
        due("not within 29", x.firstOff(29, 0), -1);
        due("0", x.firstOff(0, 0), -1);
        due("31", x.firstOff(31, 0), -1);
        x.day(29);
        due("the next one", x.firstOff(1, 0), 1);
        x.undo();
        due("the one behind the next", x.firstOff(30, 0), 2);
        due("not in the next one", x.firstOff(1, 0), -1);
    }

    static void firstOffOfQuarrelsWithoutOff() {
        of("FORETOLD: other than TRUE: not where off is 0, or comes to 0 together");
        FigureTempers x = by("gets 1=2;off left-2;");
        one(x, 27);
        one(x, 131);
        one(x, 7);
        one(x, 37);
        due("off 0", x.firstOff(30, 0), -1);
        due("off -1 and 1", x.firstOff(30, 1), -1);
        due("alone", x.firstOff(30, 2), -1);
        due("off 1", x.firstOff(30, 3), 1);
    }

    static void firstOffByMoods() {
        of("FORETOLD: in how many DAYS a ROW first comes out other than TRUE: TEMPERS, USED, DAY as they are by then");
        FigureTempers x = by("gets warm<7;mood temper+1;");
        one(x, 12);
        due("TEMPER 7 on the third DAY", x.firstOff(30, 0), 3);
        due("not within two", x.firstOff(2, 0), -1);
        due("TEMPER stays", x.of(1, 0), 5);
        x = by("gets bad=0 and warm<9;mood temper+rows;");
        one(x, 33);
        one(x, 31);
        x.turn(3, 3);
        due("TEMPER 9 behind two DAYS of two QUARRELS each", x.firstOff(30, 1), 3);
        x.reckon(0);
        due("today's two and tomorrow's", x.firstOff(30, 1), 2);
        due("the other one, today", x.firstOff(30, 0), 1);
        x = by("gets day<3 or left#1;");
        one(x, 21);
        one(x, 12);
        due("DAY 3 is the fourth", x.firstOff(30, 1), 4);
        due("another ROW", x.firstOff(30, 0), -1);
    }

    // ORDERED

    static void orderedAsItIs() {
        of("ORDERED: in another order (or this one): no twos have changed sides");
        FigureTempers x = fresh();
        x.row(4, 3, 2, 1, 0);
        x.row(7, 7, 7, -1, 7);
        one(x, 9999);
        ordered(x, 0, 0, 0, 1, 2, 3);
        ordered(x, 1, 0, 0, 1, 2);
        ordered(x, 2, 0, 0);
    }

    static void orderedOfOne() {
        of("ORDERED: of one NUMBER: this order or none");
        FigureTempers x = fresh();
        one(x, 12);
        ordered(x, 0, 0, 0);
        x.turn(1, 2);
        notOrdered(x, 0);
    }

    static void orderedTheOtherWayRound() {
        of("ORDERED: all six twos have changed sides at most");
        FigureTempers x = by("gets left>right;");
        x.row(1, 2, 3, 4, 0);
        x.row(1, 2, 3, -1, 5);
        x.row(1, 2, -1, -1, 1);
        ordered(x, 0, 6, 3, 2, 1, 0);
        ordered(x, 1, 3, 2, 1, 0);
        ordered(x, 2, 1, 1, 0);
        x.row(2, 2, -1, -1, 0);
        notOrdered(x, 3);
    }

    static void orderedFewest() {
        of("ORDERED: the fewest twos that have changed sides, ahead of the lowest first");
        FigureTempers x = by("gets not apart=1 or left=3 or right=3;");
        x.row(1, 2, 3, -1, 0);
        // 1 3 2 (one) has the lowest first as well
        ordered(x, 0, 1, 0, 2, 1);
        rule(x, "gets left=2 or left=1 and right=3;");
        // 2 1 3: one; 1 3 2: 3 beside 2 quarrels
        ordered(x, 0, 1, 1, 0, 2);
        rule(x, "gets left=3 and right=1 or left=1 and right=2 or left=2 and right=1;");
        // 3 1 2 and 3 2 1: 3 beside 2 quarrels; 2 3 1: 2 beside 3 does; 1 2 3: does
        ordered(x, 0, 2, 2, 0, 1);
    }

    static void orderedFewestOfFour() {
        of("ORDERED: the fewest twos that have changed sides, also if one with more has a lower first one");
        FigureTempers x = by("gets left*10+right=14 or left*10+right=43 or left*10+right=32 or left*10+right=21"
                + " or left*10+right=13 or left*10+right=34;");
        x.row(1, 2, 3, 4, 0);
        // 1 4 3 2: three; 2 1 3 4: one
        ordered(x, 0, 1, 1, 0, 2, 3);
        x.row(4, 3, 2, 1, 5);
        ordered(x, 1, 0, 0, 1, 2, 3);
    }

    static void orderedOfLikeOnes() {
        of("ORDERED: of like ones the lowest that is first, then second, ..");
        FigureTempers x = fresh();
        x.row(5, 5, 5, 5, 0);
        x.turn(5, 5);
        notOrdered(x, 0);
        x.row(1, 2, 3, 4, 0);
        x.turn(2, 3);
        // one two: 2 1 3 4, 1 3 2 4 (quarrels), 1 2 4 3
        ordered(x, 1, 1, 0, 1, 3, 2);
        x.turn(1, 2);
        // one: 2134 quarrels, 1324 quarrels, 1243 quarrels; two: 1342 alone, of 2314, 3124, 1423, 2143
        ordered(x, 1, 2, 0, 2, 3, 1);
    }

    static void orderedByOff() {
        of("ORDERED: such that OUT is TRUE: QUARRELS of off 0 or of off that comes to 0 are none");
        FigureTempers x = by("gets 1=2;off left-2;");
        x.row(3, 2, 1, -1, 0);
        // 1 and 0 between them: 3 2 1 is off 1; 3 1 2: 1 - 1
        ordered(x, 0, 1, 0, 2, 1);
        rule(x, "gets 1=2;off 0;");
        ordered(x, 0, 0, 0, 1, 2);
        rule(x, "gets 1=2;");
        notOrdered(x, 0);
    }

    static void orderedLastOnes() {
        of("ORDERED: last, APART: as the NUMBERS are WRITTEN in that order");
        FigureTempers x = by("gets not apart=1 or last=0;");
        x.row(10, 5, -1, -1, 0);
        x.row(10, 9, -1, -1, 0);
        x.row(10, 0, -1, -1, 0);
        // 10 behind another one isn't beside it by its last digit
        for (int row = 0; row < 3; row++) ordered(x, row, 1, 1, 0);
        x = by("gets last=0;");
        x.row(1, 123, -1, -1, 0);
        notOrdered(x, 0);
        x = by("gets last=1 or apart=1;");
        x.row(12, 34, -1, -1, 0);
        x.row(123, 4, -1, -1, 0);
        ordered(x, 0, 0, 0, 1);
        notOrdered(x, 1);
    }

    // SPLIT

    static void splitLeastAndGreatest() {
        of("SPLIT: 1 .. 99");
        FigureTempers x = fresh();
        split(x, 1, 1);
        split(x, 99, 99);
        notSplit(x, 0);
        notSplit(x, 100);
        x.turn(9, 9);
        split(x, 99, 1, 98);
        x.turn(1, 9);
        x.turn(0, 9);
        split(x, 99, 2, 97);
    }

    static void splitOneToThree() {
        of("SPLIT: as 1 to 3 NUMBERS, the fewest");
        FigureTempers x = by("gets apart=1 and left=2;");
        split(x, 9, 9);
        split(x, 11, 2, 9);
        split(x, 13, 2, 2, 9);
        // four would do
        notSplit(x, 15);
        notSplit(x, 99);
    }

    static void splitOfOneOrMore() {
        of("SPLIT: NUMBERS of 1 or more");
        FigureTempers x = by("gets bad=0;off left*2-1;");
        x.turn(1, 2);
        x.turn(0, 1);
        // 0 and 12 would come to 12: -1 and 1
        split(x, 12, 1, 11);
        x = by("gets apart=1 and left=1 or apart=1 and left=9;");
        split(x, 10, 1, 9);
        x = by("gets apart=1 and right=9;");
        split(x, 10, 1, 9);
        split(x, 18, 9, 9);
        split(x, 19, 1, 9, 9);
        split(x, 27, 9, 9, 9);
        notSplit(x, 28);
    }

    static void splitWithoutNoughts() {
        of("SPLIT: NUMBERS of 1 or more, at each place");
        // all quarrel, off 1; beside a nought -1, if they are APART: 10 and 0, 0 and 10, 0 and 9 and 1, 9 and 1 and 0 would do
        FigureTempers x = by("gets 1=2;off 1-2*apart*(1-less(1,left)*less(1,right));");
        notSplit(x, 10);
        // the same with a nought on the left alone: 9 and 0 and 1 would do
        x = by("gets 1=2;off 1-2*apart*(1-less(1,left));");
        notSplit(x, 10);
    }

    static void splitInOnes() {
        of("SPLIT: NUMBERS of 1 or more: 1 at each place");
        FigureTempers x = by("gets apart=1 and right=1;");
        split(x, 10, 9, 1);
        split(x, 11, 9, 1, 1);
        for (int i : new int[] {-3, -2, 3, 4}) due("split 11, " + i, x.split(11, i), -1);
        x = by("gets apart=1 and left=1;");
        split(x, 10, 1, 9);
        split(x, 11, 1, 1, 9);
    }

    static void splitLastOnes() {
        of("SPLIT: last, APART: as the NUMBERS are WRITTEN");
        FigureTempers x = by("gets last=1 and apart=0;");
        split(x, 99, 99);
        split(x, 5, 5);
        x = by("gets last=0;");
        notSplit(x, 30);
        split(x, 9, 9);
        // what is APART and not last gets on: a NUMBER of two digits behind one; the two quarrel, and are last
        x = by("gets last=0 or left=8;");
        split(x, 89, 89);
        // 10 and 11 have a second digit, 9 hasn't
        x = by("gets apart=0 and left=1 or apart=1 and last=0;");
        split(x, 19, 19);
        split(x, 20, 1, 19);
    }

    static void splitLikeOnes() {
        of("SPLIT: of like ones the least first, then second");
        FigureTempers x = fresh();
        x.turn(3, 0);
        split(x, 30, 1, 29);
        x = by("gets apart=1 and right>4;");
        split(x, 12, 3, 9);
        split(x, 20, 2, 9, 9);
        split(x, 19, 1, 9, 9);
        x = by("gets apart=1 and last=1 and left<7 and left>2 and right<9;");
        split(x, 11, 3, 8);
        split(x, 17, 3, 6, 8);
    }

    static void splitByOff() {
        of("SPLIT: such that OUT is it: QUARRELS of off 0 or of off that comes to 0 are none");
        FigureTempers x = by("gets 1=2;off 0;");
        split(x, 99, 99);
        x = by("gets 1=2;off left-right;");
        split(x, 88, 88);
        // 1 2: -1; 1 and 1 1: 0 and 0
        split(x, 12, 1, 11);
    }

    // NEAREST

    static void nearestLeastAndGreatest() {
        of("NEAREST: to a NUMBER (0 .. 9999)");
        FigureTempers x = fresh();
        due("0", x.nearest(0), 0);
        due("9999", x.nearest(9999), 9999);
        due("-1", x.nearest(-1), -1);
        due("10000", x.nearest(10000), -1);
        x = by("gets left=9 and right=9;");
        due("up to 9999", x.nearest(9900), 9999);
        // away from 5004 as far as to 9, or to 9999
        due("99 is the nearest below", x.nearest(500), 99);
        x = by("gets 1=2;");
        for (int n = 0; n <= 9; n++) due("alone " + n, x.nearest(n), n);
        due("no other one", x.nearest(9999), 9);
        due("no other one", x.nearest(10), 9);
    }

    static void nearestIsNoneToOneself() {
        of("NEAREST: the least away, of like ones the lesser");
        FigureTempers x = fresh();
        x.turn(5, 0);
        due("50: 49 and 51", x.nearest(50), 49);
        due("500 to 509: 499 and 510", x.nearest(504), 499);
        due("500 to 509: 499 and 510", x.nearest(505), 510);
        x.turn(4, 9);
        due("49 and 50: 48 and 51", x.nearest(50), 51);
        due("49 and 50: 48 and 51", x.nearest(49), 48);
    }

    static void nearestAlone() {
        of("NEAREST: in which none QUARREL (alone in a ROW): not apart, the last one last, off 0 too");
        FigureTempers x = by("gets apart=0;off 0;");
        due("not apart", x.nearest(1234), 1234);
        rule(x, "gets apart=1;off 0;");
        due("off 0 is a QUARREL too", x.nearest(1234), 9);
        rule(x, "gets last=1;");
        due("two digits", x.nearest(1234), 99);
        rule(x, "gets last=0 or right=7;");
        due("the last one", x.nearest(1234), 1237);
    }

    // CHANGED

    static void changedByOne() {
        of("CHANGED: more or less by 1 to 50: the least change");
        FigureTempers x = fresh();
        one(x, 12);
        due("TRUE already", x.changed(0, 0), -1);
        due("TRUE already", x.changed(0, 1), -1);
        x.turn(1, 2);
        changed(x, 0, 0, 11);
        x.turn(1, 1);
        changed(x, 0, 0, 13);
        x.turn(1, 3);
        changed(x, 0, 0, 10);
    }

    static void changedByFifty() {
        of("CHANGED: by 50 at most");
        FigureTempers x = by("gets left=2 and right=0;");
        one(x, 70);
        one(x, 71);
        changed(x, 0, 0, 20);
        // 20 is 51 away, 9 is 62
        due("51", x.changed(1, 0), -1);
        due("51", x.changed(1, 1), -1);
        rule(x, "gets left=9;");
        one(x, 40);
        one(x, 39);
        changed(x, 2, 0, 9);
        changed(x, 3, 0, 9);
        rule(x, "gets left=9 and right=0 or left=0 and right=0;");
        one(x, 850);
        one(x, 849);
        changed(x, 4, 0, 900);
        due("51 more", x.changed(5, 0), -1);
    }

    static void changedWithinNumbers() {
        of("CHANGED: within 0 .. 9999");
        FigureTempers x = by("gets right=0;");
        x.row(1, 1, -1, -1, 0);
        changed(x, 0, 1, 0);
        rule(x, "gets right=9;");
        one(x, 9998);
        changed(x, 1, 0, 9999);
        rule(x, "gets 1=2;");
        x.row(0, 9999, -1, -1, 0);
        due("none below 0, none above 9999", x.changed(2, 0), -1);
        one(x, 10);
        changed(x, 3, 0, 9);
        one(x, 59);
        changed(x, 4, 0, 9);
        one(x, 60);
        due("51", x.changed(5, 0), -1);
    }

    static void changedLikeOnes() {
        of("CHANGED: of like ones the lowest NUMBER of the ROW, then less ahead of more");
        FigureTempers x = fresh();
        x.row(15, 25, 15, -1, 0);
        x.turn(1, 5);
        x.turn(2, 5);
        due("one is not enough", x.changed(0, 0), -1);
        x = fresh();
        x.row(5, 5, -1, -1, 0);
        x.turn(5, 5);
        changed(x, 0, 0, 4);
        x.turn(4, 5);
        // 4 5 and 5 4 quarrel: 6 5 is the lowest NUMBER, more
        changed(x, 0, 0, 6);
        x.turn(6, 5);
        changed(x, 0, 0, 3);
        x = by("gets left=5 and right>6;");
        x.row(5, 6, -1, -1, 0);
        // the first one can't; the second: 5 and 4 do not, 7 does
        changed(x, 0, 1, 7);
        x = by("gets left+right#11 and left+right#10;");
        x.row(5, 6, -1, -1, 0);
        // 4 6: 10; 6 6: 12
        changed(x, 0, 0, 6);
    }

    static void changedOfFour() {
        of("CHANGED: one NUMBER of four, the last one too; none");
        FigureTempers x = by("gets not left=7 or right#7;");
        x.row(1, 2, 7, 7, 0);
        changed(x, 0, 2, 6);
        x.by(-1);
        for (int f : new int[] {0, 5, 6, 7, 8, 9}) x.turn(7, f);
        x.turn(2, 4);
        // by 3: 4 quarrels beside 2, and 10 beside 7; the last one can be 4
        changed(x, 0, 3, 4);
        rule(x, "gets 1=2;off left+right*0+1;");
        for (int what = 0; what < 2; what++) due("none of four", x.changed(0, what), -1);
    }

    static void changedLastOnes() {
        of("CHANGED: last, APART: as the NUMBERS are WRITTEN then");
        FigureTempers x = by("gets not apart=1 or last=0;");
        x.row(5, 8, -1, -1, 0);
        x.row(5, 0, -1, -1, 0);
        // 10 is the nearest of two digits
        changed(x, 0, 1, 10);
        changed(x, 1, 1, 10);
        x = by("gets last=1 or apart=1;");
        one(x, 102);
        changed(x, 0, 0, 99);
    }

    static void changedIsTrueOfItself() {
        of("CHANGED: such that OUT is TRUE (of it as changed), with its sign");
        FigureTempers x = by("gets bad=0;off -1;");
        x.row(12, 30, -1, -1, 3);
        x.turn(1, 2);
        // 11 30, as -11 - 30; what OUT was is no matter
        changed(x, 0, 0, 11);
        x = by("gets 1=2;off left-2;");
        one(x, 31);
        changed(x, 0, 0, 29);
        one(x, 21);
        due("off 0: TRUE already", x.changed(1, 0), -1);
        one(x, 131);
        due("off that comes to 0: TRUE already", x.changed(2, 0), -1);
    }

    // SEEN, FITS, TELLS

    static void sixSeen() {
        of("SEEN: 6 at most; told");
        FigureTempers x = fresh();
        one(x, 12);
        due("none", x.about(7), 0);
        for (int i = 1; i <= 6; i++) due("one more", x.seen(0, 12), i);
        due("the seventh", x.seen(0, 12), -2);
        due("six", x.about(7), 6);
        due("all six are so", x.fits(2, -1, 0), 10);
        due("none any more", x.seen(-1, 0), 0);
        due("none", x.about(7), 0);
        for (int i = 1; i <= 5; i++) x.seen(0, 12);
        due("the sixth", x.seen(0, 13), 6);
        due("the sixth counts", x.fits(2, -1, 0), 0);
        due("none any more", x.seen(-1, 0), 0);
        due("no more", x.fits(2, -1, 0), 10);
        due("none any more of none", x.seen(-1, 0), 0);
    }

    static void seenOut() {
        of("SEEN: some OUT (-99999 .. 99999)");
        FigureTempers x = fresh();
        one(x, 12);
        due("greatest", x.seen(0, 99999), 1);
        due("least", x.seen(0, -99999), 2);
        due("greater", x.seen(0, 100000), -2);
        due("less", x.seen(0, -100000), -2);
        due("two", x.about(7), 2);
    }

    static void seenOfARow() {
        of("SEEN: that a ROW came out so, the first and the last there is");
        FigureTempers x = fresh();
        due("none there", x.seen(0, 0), -2);
        for (int i = 0; i < 12; i++) one(x, i);
        due("0", x.seen(0, 0), 1);
        due("11", x.seen(11, 11), 2);
        due("12", x.seen(12, 11), -2);
        due("-2", x.seen(-2, 11), -2);
        due("both are so", x.fits(1, -1, 0), 10);
    }

    static void fitsOfOneToThree() {
        of("FITS: TEMPERS (0 .. 9 each) of a set of 1 to 3 FIGURES");
        FigureTempers x = fresh();
        due("one", x.fits(1, -1, 0), 10);
        due("one", x.fits(512, -1, 0), 10);
        due("two", x.fits(513, -1, 0), 100);
        due("three", x.fits(896, -1, 0), 1000);
        due("three", x.fits(7, -1, 0), 1000);
        due("none", x.fits(0, -1, 0), -1);
        due("four", x.fits(15, -1, 0), -1);
        due("ten", x.fits(1023, -1, 0), -1);
        due("figure 10", x.fits(1024, -1, 0), -1);
        due("figure 10 too", x.fits(1025, -1, 0), -1);
        due("least", x.fits(512, 0, 9), 0);
        due("greatest", x.fits(512, 9, 9), 9);
        due("beyond", x.fits(512, 10, 9), -1);
        due("greatest of three", x.fits(896, 999, 7), 9);
        due("beyond", x.fits(896, 1000, 7), -1);
    }

    static void fitsInTheirOrder() {
        of("FITS: the i-th (by the TEMPER of the lowest FIGURE, then of the next, ..)");
        FigureTempers x = fresh();
        int set = 1 | 16 | 512;
        for (int i = 0; i < 1000; i += 111 - i % 7) {
            due("lowest of " + i, x.fits(set, i, 0), i / 100);
            due("next of " + i, x.fits(set, i, 4), i / 10 % 10);
            due("highest of " + i, x.fits(set, i, 9), i % 10);
        }
    }

    static void fitsNone() {
        of("FITS: how many: none is 0; NONE if there is none such");
        FigureTempers x = fresh();
        one(x, 12);
        x.seen(0, 13);
        due("how many", x.fits(6, -1, 0), 0);
        due("the first", x.fits(6, 0, 1), -1);
        x.seen(-1, 0);
        x.seen(0, 12);
        due("all", x.fits(6, -1, 0), 100);
        x.seen(0, 13);
        due("both can't be", x.fits(6, -1, 0), 0);
    }

    static void fitsAllElseAsNow() {
        of("FITS: others and all else as now");
        FigureTempers x = by("gets 1=2;off warm*10+cool+often*20+day*40+bad*50;");
        one(x, 12);
        x.soothe(2, 3);
        x.seen(0, 12 + 73);
        due("how many", x.fits(2, -1, 0), 1);
        due("temper of 1", x.fits(2, 0, 1), 7);
        x.soothe(2, 4);
        due("of another TEMPER none", x.fits(2, -1, 0), 0);
        x.undo();
        x.reckon(0);
        due("USED twice", x.fits(2, 0, 1), 3);
        x.undo();
        x.day(1);
        due("USED twice, and DAY 1", x.fits(2, -1, 0), 0);
        x.undo();
        x.turn(1, 2);
        due("bad", x.fits(2, 0, 1), 2);
        x.by(-1);
        due("without the TEXT", x.fits(2, -1, 0), 0);
    }

    static void fitsOfTheLeftTheRightAndBoth() {
        of("FITS: others as now: of the left one, of the right one, of one that is beside itself, of all three");
        FigureTempers x = by("gets 1=2;off warm*10+cool;");
        one(x, 12);
        one(x, 11);
        x.soothe(1, 7);
        x.soothe(2, 4);
        x.seen(0, 12 + 73);
        due("the right one", x.fits(4, -1, 0), 1);
        due("the right one", x.fits(4, 0, 2), 3);
        due("the left one", x.fits(2, -1, 0), 0);
        x.seen(-1, 0);
        x.seen(1, 11 + 44);
        due("beside itself", x.fits(2, -1, 0), 1);
        due("beside itself", x.fits(2, 0, 1), 4);
        due("another one", x.fits(4, -1, 0), 0);
        x.seen(-1, 0);
        x.seen(0, 12 + 80);
        due("both", x.fits(6, -1, 0), 1);
        due("the left of both", x.fits(6, 0, 1), 8);
        due("the right of both", x.fits(6, 0, 2), 0);
        due("with one more", x.fits(14, -1, 0), 10);
    }

    static void fitsOfLeastTempers() {
        of("FITS: TEMPERS from 0 on");
        FigureTempers x = by("gets 1=2;off warm+cool*2+5;");
        one(x, 12);
        x.seen(0, 17);
        due("both 0", x.fits(6, -1, 0), 1);
        due("both 0", x.fits(6, 0, 1), 0);
        due("both 0", x.fits(6, 0, 2), 0);
    }

    static void fitsOfOneAndTheSameOff() {
        of("FITS: also where no TEMPER matters: all, or none");
        FigureTempers x = fresh();
        one(x, 12);
        x.turn(1, 2);
        x.seen(0, 13);
        due("all", x.fits(6, -1, 0), 100);
        due("all", x.fits(8, -1, 0), 10);
        rule(x, "off -1;");
        due("none", x.fits(6, -1, 0), 0);
        x.seen(-1, 0);
        x.seen(0, 11);
        due("all", x.fits(6, -1, 0), 100);
        rule(x, "off 0;");
        due("none", x.fits(6, -1, 0), 0);
    }

    static void fitsOfOutBounded() {
        of("FITS: OUT by off as it is bounded (-99 .. 99)");
        FigureTempers x = by("gets 1=2;off warm*100-cool*200;");
        one(x, 12);
        x.seen(0, 12 + 99);
        // 1 .. 9 warm and 0 cool, 3 .. 9 and 1, 5 .. 9 and 2, 7 .. 9 and 3, 9 and 4
        due("99", x.fits(6, -1, 0), 9 + 7 + 5 + 3 + 1);
        x.seen(-1, 0);
        x.seen(0, 12 - 99);
        due("-99", x.fits(6, -1, 0), 100 - 25 - 5);
        due("the first", x.fits(6, 0, 2), 1);
    }

    static void tellsLikeOnes() {
        of("TELLS: the most that have one and the same OUT are fewest; of like ones the lowest; none without FITS or ROWS");
        FigureTempers x = by("gets 1=2;off warm/5;");
        due("no ROWS", x.tells(2), -1);
        for (int i = 0; i < 12; i++) one(x, i < 11 ? 20 + i % 2 : 17);
        due("all alike", x.tells(8), 0);
        due("the last one alone", x.tells(2), 11);
        rule(x, "gets 1=2;off warm/5*left;");
        due("of like ones the lowest", x.tells(4), 0);
        rule(x, "gets 1=2;off warm/7*right;");
        // 20: off 0 always; 21: 7 of ten and 3 of ten
        due("seven are fewer than ten", x.tells(4), 1);
        x.seen(0, 21);
        due("no FITS", x.tells(4), -1);
        x.seen(-1, 0);
        due("FITS again", x.tells(4), 1);
        rule(x, "gets 1=2;off less(1,warm);");
        x.seen(0, 21);
        due("those that fit alone: all alike", x.tells(4), 0);
    }

    static void tellsOfOneRow() {
        of("TELLS: of one ROW alone that one");
        FigureTempers x = by("gets 1=2;off warm;");
        one(x, 7);
        due("of one digit", x.tells(1), 0);
        x = by("gets 1=2;off warm;");
        one(x, 11);
        due("of two", x.tells(2), 0);
        due("of another FIGURE", x.tells(896), 0);
    }

    static void tellsOfFitsAlone() {
        of("TELLS: the ROW whose OUT parts these FITS best, not those that don't fit");
        // 2: less(3,warm); 3: warm/5; 4: more(5,warm)
        FigureTempers x = by("gets 1=2;off less(3,warm)*(4-right)*(3-right)/2+warm/5*(4-right)*(right-2)+more(5,warm)*(right-2)*(right-3)/2;");
        one(x, 12);
        one(x, 13);
        one(x, 14);
        // of all: 7, 5, 6 of ten have one OUT
        due("of all", x.tells(2), 1);
        x.seen(0, 15);
        due("3 to 9 fit", x.fits(2, -1, 0), 7);
        // of seven: 7, 5, 3
        due("of these", x.tells(2), 2);
    }

    static void tellsOfLeastTempers() {
        of("TELLS: TEMPERS from 0 to 9");
        // 2: 5 to 9 are alike; 3: 0 to 4 are
        FigureTempers x = by("gets 1=2;off less(5,warm)*(3-right)+more(4,warm)*(right-2);");
        one(x, 12);
        one(x, 13);
        due("five each", x.tells(2), 0);
        x = by("gets 1=2;off less(5,warm)*(right-2)+more(4,warm)*(3-right);");
        one(x, 12);
        one(x, 13);
        due("five each", x.tells(2), 0);
    }

    static void tellsOfFarOut() {
        of("TELLS: OUT of the most digits, off the most (15 times 99), more and less");
        for (String sum : new String[] {"more(99*(6-warm),-warm)", "less(99*(warm-6),warm)"}) {
            FigureTempers x = by("gets 1=2;off " + sum + ";");
            one(x, 11);
            x.row(1111, 1111, 1111, 1111, 0);
            // TEMPERS 0 to 5 are alike in both
            due("of like ones the lowest", x.tells(2), 0);
        }
    }

    static void tellsMoreFromLess() {
        of("TELLS: one and the same OUT: as much more and as much less are two");
        // 3: less(8,warm), the most alike are two; 2: warm-4, none are alike
        FigureTempers x = by("gets 1=2;off (warm-4)*(3-right)+less(8,warm)*(right-2);");
        one(x, 13);
        one(x, 12);
        due("-4 to 5 are ten", x.tells(2), 1);
    }

    static void tellsSets() {
        of("TELLS: a set of 1 to 3 FIGURES");
        FigureTempers x = by("gets 1=2;off warm;");
        one(x, 5);
        one(x, 90);
        one(x, 89);
        due("one", x.tells(512), 1);
        due("three", x.tells(896), 1);
        due("three", x.tells(448), 2);
        due("none", x.tells(0), -1);
        due("four", x.tells(960), -1);
        due("figure 10", x.tells(1024), -1);
    }

    // LEDGER

    static void ledgerOneToFive() {
        of("LEDGER: an order of 1 to 5 unlike ROWS (a set)");
        FigureTempers x = by("gets often=0;off often;");
        for (int i = 0; i < 12; i++) one(x, 12);
        ledger(x, 1, 0, 0);
        ledger(x, 2048, 0, 11);
        ledger(x, 2049, 2, 0, 11);
        ledger(x, 7, 2 + 4, 0, 1, 2);
        ledger(x, 15, 2 + 4 + 6, 0, 1, 2, 3);
        ledger(x, 31, 2 + 4 + 6 + 8, 0, 1, 2, 3, 4);
        ledger(x, 31 << 7, 20, 7, 8, 9, 10, 11);
        due("none", x.ledger(0, -1), -1);
        due("six", x.ledger(63, -1), -1);
        due("twelve", x.ledger(4095, -1), -1);
        due("row 12", x.ledger(4096, -1), -1);
        due("row 12 too", x.ledger(4097, -1), -1);
    }

    static void ledgerUsedThen() {
        of("LEDGER: RECKONED one behind the other (USED as it is then)");
        FigureTempers x = by("gets 1=2;off left*often-10;");
        one(x, 12);
        one(x, 31);
        // 12: -10, then 31: 3 - 10; or 31: -10, then 12: 1 - 10
        ledger(x, 3, 17, 0, 1);
        rule(x, "gets 1=2;off right*often;");
        // 12 ahead: 0, then 1; 31 ahead: 0, then 2
        ledger(x, 3, 1, 0, 1);
        rule(x, "gets 1=2;off left*often;");
        ledger(x, 3, 1, 1, 0);
        due("nothing is USED by it", x.of(1, 1), 0);
    }

    static void ledgerOfFiveTheOtherWayRound() {
        of("LEDGER: an order of 5 ROWS: any, to the other way round");
        // 1 is USED once more by each ROW: the greatest left one has to come first
        FigureTempers x = by("gets 1=2;off left*often;");
        for (int left = 2; left <= 6; left++) one(x, 10 * left + 1);
        ledger(x, 31, 5 + 8 + 9 + 8, 4, 3, 2, 1, 0);
        ledger(x, 21, 4 + 4, 4, 2, 0);
        x = by("gets 1=2;off left*often;");
        for (int left : new int[] {4, 2, 6, 3, 5}) one(x, 10 * left + 1);
        ledger(x, 31, 30, 2, 4, 0, 3, 1);
    }

    static void ledgerUsedAtMost() {
        of("LEDGER: USED is 999 at most in it too");
        FigureTempers x = by("gets 1=2;off often-1950;");
        x.row(9999, 9999, 9999, 9999, 0);
        one(x, 99);
        for (int i = 0; i < 62; i++) x.reckon(0);
        // 99 ahead: 1984 - 1950, then 15 times 1988 - 1950; or 15 times 1984 - 1950, then 1998 - 1950
        ledger(x, 3, 15 * 34 + 48, 0, 1);
        ledger(x, 2, 34, 1);
    }

    static void ledgerAllElseAsNow() {
        of("LEDGER: USED is as it is then; DAY, TEMPERS, QUARRELS, TERMS as now");
        FigureTempers x = by("gets bad=0;off day*10+warm;");
        one(x, 12);
        one(x, 21);
        x.turn(1, 2);
        x.day(2);
        ledger(x, 3, 25 + 25, 0, 1);
        rule(x, "gets bad=0;off day*10+warm;mood temper+rows+3;");
        ledger(x, 3, 25 + 25, 0, 1);
        x.reckon(0);
        ledger(x, 3, 25 + 25, 0, 1);
        x.soothe(2, 9);
        // 1 is the left one of 12, 2 of 21
        ledger(x, 3, 25 + 29, 0, 1);
    }

    static void ledgerLikeOnes() {
        of("LEDGER: the least that OUT and TRUE are apart, of all together; of like ones the lowest first ROW, then the second");
        FigureTempers x = fresh();
        for (int i = 0; i < 5; i++) x.row(12, i, -1, -1, i % 2);
        x.turn(1, 2);
        // 12 and 1 quarrel twice
        ledger(x, 31, 6, 0, 1, 2, 3, 4);
        x = by("gets 1=2;off -left;");
        one(x, 99);
        one(x, 11);
        ledger(x, 3, 10, 0, 1);
    }

    // ORDER and GROUPING matter

    static void orderBelow() {
        of("ORDER matters below m (1 .. 100): none");
        FigureTempers x = fresh();
        due("none", x.order(100), -1);
        due("0", x.order(0), -1);
        due("101", x.order(101), -1);
        x = by("gets left<=right;");
        due("below 1: 0 alone", x.order(1), -1);
        due("below 2", x.order(2), 1);
        due("below 100", x.order(100), 1);
        x = by("gets not apart=1 or left#0 or right#9 or last=1;");
        // 0 beside the 9 of 90: the least two
        due("below 90", x.order(90), -1);
        due("below 91", x.order(91), 90);
        due("below 100", x.order(100), 90);
    }

    static void orderFirstThenSecond() {
        of("ORDER: the least two (the first, then the second): 100 times the first and the second");
        FigureTempers x = fresh();
        x.turn(9, 1);
        // 1 beside 9 and 9 beside 1 are alike; 19 and 9: 1 9 9 and 9 1 9: one each; 1 and 19: 1 1 9, 1 9 1: one, two
        due("least", x.order(100), 119);
        due("least below 20", x.order(20), 119);
        // 9 and 10: 9 1 0, 1 0 9
        due("below 19", x.order(19), 910);
        due("below 10", x.order(10), -1);
        x = by("gets last=0 or left#9 or right#8;");
        due("8 with 9", x.order(10), 809);
        due("none below 9", x.order(9), -1);
    }

    static void orderByOff() {
        of("ORDER: come out unlike: by OUT, also if they QUARREL either way");
        FigureTempers x = by("gets 1=2;off left+1;");
        due("1 and 2", x.order(100), 1);
        x = by("gets 1=2;off left-right;");
        due("-1 and 1", x.order(100), 1);
        x = by("gets 1=2;off left+right;");
        // 0 and 10: 0 1, 1 0; 1 0, 0 0
        due("0 1 0 and 1 0 0", x.order(100), 10);
        x = by("gets 1=2;off 0;");
        due("off 0", x.order(100), -1);
        x = by("gets left>right;off left*right;");
        // 1 0 is off 0, 2 1 isn't
        due("2 1", x.order(100), 102);
    }

    static void groupingBelow() {
        of("GROUPING matters below m (1 .. 12): none");
        FigureTempers x = fresh();
        due("none", x.grouping(12), -1);
        due("0", x.grouping(0), -1);
        due("13", x.grouping(13), -1);
        x = by("gets left#0;");
        due("below 1: 0, 0, 0", x.grouping(1), 0);
        due("below 12", x.grouping(12), 0);
        x = by("gets apart=1 or left#2 or right#2;");
        // 22 is a NUMBER that quarrels, and comes of 11 and 11 alone
        due("below 12", x.grouping(12), 1111);
        due("below 11", x.grouping(11), -1);
    }

    static void groupingBelowNought() {
        of("GROUPING: an OUT below 0 being its size with minus");
        FigureTempers x = by("gets not left=0 or not right=0;off -12;");
        // 0 0 0: -12 and 0, 0 and -12: 1 2 0 and 0 1 2: no other quarrel
        due("below 1", x.grouping(1), -1);
        // 0 0 1: -12 and 1: -11; 0 and 1: 1
        due("below 2", x.grouping(2), 1);
        x = by("gets bad=0;off -12;");
        x.turn(0, 0);
        x.turn(2, 0);
        // 0 0 0: 1 2 0 quarrels: -24; 0 1 2 doesn't
        due("below 1", x.grouping(1), 0);
    }

    static void groupingByOutWithItsSign() {
        of("GROUPING: unlike: as much more and as much less are; a ROW of two with minus is less");
        FigureTempers x = by("gets 1=2;off 3-5*left/3-7*right/3;");
        // 0 0: 3; 3 0: 3 - 2; 0 3: 3 - 4
        due("1 and -1", x.grouping(1), 0);
        // 0 0: -3; -3 and 1: -2 and 3; 0 and 1: 1; 1 and -3: -2 and 3; all others get on
        x = by("gets left+right#0 and left*right#3;off left*right*2-3;");
        due("alike", x.grouping(2), -1);
        // 0 0: -3; -3 and 1: -2; 0 and 1: 1
        x = by("gets left+right#0;off -3;");
        due("-2 and 1", x.grouping(2), 1);
    }

    static void groupingOfTwoDigits() {
        of("GROUPING: OUT of (OUT of first and second) and third, all that QUARREL in both NUMBERS counted");
        // 0 beside 0 is off 12, 1 beside 2 is off 3: 12 and 0 is 15, 0 and 12 is 15
        FigureTempers x = by("gets not left=0 and not left=1 or left=0 and right#0 or left=1 and right#2;off 12-9*left;");
        due("alike", x.grouping(1), -1);
        // 0 beside 0 is off 99; in 99 and 0, 0 and 99 all get on
        x = by("gets not left=0 or not right=0;off 120;");
        due("99 of 120", x.grouping(1), -1);
        x = by("gets left=9 and last=0 or left=0 and right=9;off 99;");
        // 0 beside 0 is 99; 99 and 0: 9 beside 9 is last, off 99, 9 beside 0 too: 297; 0 and 99: 99 alone: 198
        due("last of its NUMBER", x.grouping(1), 0);
    }

    // CARRIED

    static void carriedNoneToFour() {
        of("CARRIED: how often 1 is carried on: 0 to 4");
        FigureTempers x = fresh();
        int[][] cases = {{0, 0, 0}, {4, 5, 0}, {5, 5, 1}, {9, 9, 1}, {9, 0, 0}, {0, 9, 0}, {9, 1, 1}, {99, 1, 2}, {1, 99, 2},
            {999, 1, 3}, {9999, 1, 4}, {1, 9999, 4}, {9999, 9999, 4}, {9999, 0, 0}, {5000, 5000, 1}, {4999, 5000, 0}, {4999, 5001, 4},
            {909, 101, 2}, {1010, 9090, 2}, {90, 10, 1}, {45, 54, 0}, {45, 55, 2}, {8, 1, 0}, {89, 10, 0}};
        for (int[] c : cases) due(c[0] + " and " + c[1], x.carried(c[0], c[1], false), c[2]);
    }

    static void gossipOfBoth() {
        of("GOSSIP: in how many of these places (both have a digit there) they QUARREL (left: of the first; APART, not last)");
        FigureTempers x = by("gets 1=2;");
        int[][] cases = {{0, 0, 0}, {5, 5, 1}, {5, 4, 0}, {99, 1, 1}, {1, 99, 1}, {999, 11, 2}, {9999, 1, 1}, {9999, 1111, 4},
            {9999, 9999, 4}, {9999, 111, 3}, {905, 105, 2}, {90, 10, 1}, {95, 5, 1}, {5, 95, 1},
            {19, 91, 2}, {91, 19, 2}, {19, 1, 1}, {1, 19, 1}, {1999, 9001, 4}, {9001, 1999, 4}};
        for (int[] c : cases) due("gossip of " + c[0] + " and " + c[1], x.carried(c[0], c[1], true), c[2]);
        rule(x, "gets apart=0 or last=1 or left<right;");
        due("left of the first", x.carried(9191, 1919, true), 2);
        due("left of the first", x.carried(1919, 9191, true), 2);
        due("left of the first", x.carried(9999, 1111, true), 4);
        due("left of the first", x.carried(1111, 9999, true), 0);
        rule(x, "gets apart=1 and last=0;");
        due("APART, not last", x.carried(9999, 9999, true), 0);
        due("carried all the same", x.carried(9999, 9999, false), 4);
        rule(x, "gets 1=2;off 0;");
        due("they QUARREL, if off is 0 too", x.carried(9999, 1111, true), 4);
    }

    // A GAME

    static void gameOfOneToSix() {
        of("A GAME: over a set of 1 to 6 FIGURES; without any left nobody loses (who would have to set one wins)");
        FigureTempers x = fresh();
        for (int n = 1; n <= 6; n++)
            for (int from = 0; from + n <= 10; from++) {
                int set = (1 << n) - 1 << from;
                due("all get on, " + n, x.game(set, false), n % 2 == 0 ? 1 : 0);
                due("all get on, " + n, x.game(set, true), n % 2 == 0 ? from : -1);
            }
        due("none", x.game(0, false), -2);
        due("seven", x.game(127, false), -2);
        due("ten", x.game(1023, true), -2);
        due("figure 10", x.game(1024, false), -2);
        due("figure 10 too", x.game(1025, true), -2);
    }

    static void gameOfQuarrels() {
        of("A GAME: who makes TWO QUARREL (the one set last is last, not APART) loses; the first sets one that is beside none");
        FigureTempers x = by("gets 1=2;");
        for (int n = 1; n <= 6; n++) {
            due("all quarrel, " + n, x.game((1 << n) - 1, false), n == 1 ? 0 : 1);
            due("all quarrel, " + n, x.game((1 << n) - 1, true), n == 1 ? -1 : 0);
        }
        rule(x, "gets apart=0 and last=1;");
        due("all get on", x.game(63, true), 0);
        due("all get on", x.game(31, true), -1);
        rule(x, "gets apart=1 or last=0;");
        due("all quarrel", x.game(31, true), 0);
        rule(x, "gets left<right;");
        // the highest one wins: nothing goes behind it; each lower one: the other one sets the highest
        due("lowest to win", x.game(63, true), 5);
        x = by("gets left+right=9;");
        // each has one that goes behind it, and none behind that one: who begins loses by it but by one of whom the other isn't there
        due("pairs", x.game(1 | 512 | 2 | 256, false), 0);
        due("pairs", x.game(1 | 512 | 2 | 256, true), -1);
        due("one alone", x.game(1 | 512 | 2, true), 1);
        x = by("gets 1=2;off 0;");
        due("all quarrel, if off is 0 too", x.game(7, true), 0);
        due("all quarrel, if off is 0 too", x.game(15, false), 1);
    }

    static void gameOfTwoBeside() {
        of("A GAME: TWO are the one set last and the one it is set behind, not those ahead of that");
        FigureTempers x = fresh();
        x.turn(0, 1);
        x.turn(2, 3);
        // 0, then 2 (or 3): 1 goes behind 2, 3 behind 1; none is left to the other one
        due("0 wins", x.game(15, true), 0);
        // without 0: 1, then 2 or 3, and the last one quarrels; 2 or 3, then 1, and the last one goes
        due("nobody", x.game(14, true), -1);
        due("who begins loses", x.game(14, false), 0);
    }

    // DEBTS, WORTH, RING

    static void noDebtsAtFirst() {
        of("DEBTS: at first 0");
        FigureTempers x = fresh();
        for (int bank = 0; bank < 6; bank++) due("worth", x.worth(bank), 0);
        noRing(x);
    }

    static void sixBanks() {
        of("DEBTS: one of six BANKS owes another one a NUMBER (0 .. 9999)");
        FigureTempers x = fresh();
        for (int a = 0; a < 6; a++)
            for (int b = 0; b < 6; b++) due(a + " to " + b, x.debt(a, b, 1000 * a + b), a != b);
        for (int bank = 0; bank < 6; bank++) due("worth", x.worth(bank), 15000 - 1000 * bank + 5 * bank - 5000 * bank - (15 - bank));
        x = fresh();
        due("greatest", x.debt(5, 0, 9999), true);
        due("greater", x.debt(5, 0, 10000), false);
        due("below 0", x.debt(5, 0, -1), false);
        due("as it was", x.worth(0), 9999);
        due("least", x.debt(5, 0, 0), true);
        due("none any more", x.worth(0), 0);
        for (int bank = 0; bank < 5; bank++) x.debt(bank, 5, 9999);
        due("most that can be owed", x.worth(5), 49995);
        for (int bank = 0; bank < 5; bank++) {
            x.debt(bank, 5, 0);
            x.debt(5, bank, 9999);
        }
        due("most that can be owing", x.worth(5), -49995);
    }

    static void reckonedBelowNought() {
        of("DEBTS: RECKONED so: OUT of that NUMBER alone with plus (below 0 it is 0)");
        FigureTempers x = by("gets 1=2;off -12;");
        x.debt(0, 1, 11);
        due("-1", x.worth(1), 0);
        x.debt(0, 1, 12);
        due("0", x.worth(1), 0);
        x.debt(0, 1, 13);
        due("1", x.worth(1), 1);
        x.debt(0, 1, 0);
        due("0, alone", x.worth(1), 0);
        x.debt(0, 1, 9);
        due("9, alone", x.worth(0), -9);
        rule(x, "gets 1=2;off 99;");
        x.debt(0, 1, 9999);
        due("more than 9999", x.worth(1), 9999 + 297);
    }

    static void reckonedLastOne() {
        of("DEBTS: OUT of that NUMBER alone: the last one is last, none is APART");
        FigureTempers x = by("gets last=0;");
        x.debt(0, 1, 12);
        due("12", x.worth(1), 13);
        x.debt(0, 1, 1234);
        due("1234", x.worth(1), 1235);
        x = by("gets last=1;");
        x.debt(0, 1, 1234);
        due("1234", x.worth(1), 1236);
        x = by("gets apart=0;");
        x.debt(0, 1, 1234);
        due("1234", x.worth(1), 1234);
    }

    static void ringOfTwoToSix() {
        of("RING: two or more, each once, the one of fewest; none");
        FigureTempers x = fresh();
        for (int bank = 0; bank < 5; bank++) x.debt(bank, bank + 1, 10 + bank);
        noRing(x);
        x.debt(5, 0, 9);
        ring(x, 9, 0, 1, 2, 3, 4, 5);
        x.debt(4, 0, 8);
        ring(x, 8, 0, 1, 2, 3, 4);
        x.debt(4, 1, 7);
        ring(x, 7, 1, 2, 3, 4);
        x.debt(5, 3, 6);
        ring(x, 6, 3, 4, 5);
        x.debt(5, 4, 5);
        ring(x, 5, 4, 5);
        x.debt(4, 5, 0);
        ring(x, 7, 1, 2, 3, 4);
    }

    static void ringLikeOnes() {
        of("RING: of like ones that with the lowest first one (its lowest), then second, ..");
        FigureTempers x = fresh();
        x.debt(5, 2, 1);
        x.debt(2, 5, 1);
        ring(x, 1, 2, 5);
        x.debt(4, 3, 2);
        x.debt(3, 4, 2);
        ring(x, 1, 2, 5);
        x.debt(2, 4, 3);
        x.debt(4, 2, 3);
        ring(x, 3, 2, 4);
        x = fresh();
        x.debt(0, 2, 1);
        x.debt(2, 1, 2);
        x.debt(1, 0, 3);
        ring(x, 1, 0, 2, 1);
        x.debt(0, 1, 4);
        x.debt(1, 3, 4);
        x.debt(3, 0, 4);
        x.debt(1, 0, 0);
        ring(x, 4, 0, 1, 3);
    }

    static void ringOfMoreThanNought() {
        of("RING: owes the next one more than 0 (RECKONED); the least that is owed (RECKONED)");
        FigureTempers x = by("gets 1=2;off -12;");
        x.debt(0, 1, 12);
        x.debt(1, 0, 50);
        noRing(x);
        x.debt(0, 1, 13);
        ring(x, 1, 0, 1);
        x.debt(1, 0, 12);
        noRing(x);
        x.by(-1);
        ring(x, 12, 0, 1);
        x.debt(0, 1, 9999);
        x.debt(1, 0, 9999);
        ring(x, 9999, 0, 1);
    }

    // AN IMAGE

    static void imageOfNothing() {
        of("AN IMAGE: at first that of a new object");
        Make make = () -> {
            FigureTempers x = busy2();
            x.back();
            x.end(0);
            return x;
        };
        // the latest FAULT isn't of it: a TEXT without one is read on both
        due("as new", look(make, x -> x.text() + bit(x.seen(-1, 0) == 0)).equals(look(Check::fresh, x -> x.text())), true);
    }

    /** Something of everything, without an IMAGE of its own. */
    private static FigureTempers busy2() {
        FigureTempers x = new FigureTempers();
        rule(x, "gets 1=2;mood 3;");
        one(x, 77);
        x.reckon(0);
        x.day(40);
        x.turn(1, 1);
        x.year(5, 30);
        x.seen(0, 5);
        x.debt(0, 1, 5);
        x.debt(1, 0, 5);
        return x;
    }

    static void imageOfAll() {
        of("AN IMAGE: all as it is, STEPS as well");
        Call[] between = {x -> x.undo(), x -> x.reckon(0), x -> x.day(1), x -> bit(x.turn(7, 8)), x -> bit(x.soothe(7, 1)), x -> x.year(8, 30),
            x -> x.seen(-1, 0), x -> bit(x.debt(0, 1, 9)), x -> bit(x.debt(5, 4, 9)), x -> bit(x.by(-1)), x -> bit(x.by(1)),
            x -> {
                int n = 0;
                for (int i = 0; i < 31; i++) n += x.undo();
                for (int i = 0; i < 31; i++) n += bit(x.soothe(3, i % 2));
                return n;
            }};
        Make[] makes = {Check::busy, Check::full};
        for (Make make : makes) {
            Make imaged = () -> {
                FigureTempers x = make.made();
                x.image();
                return x;
            };
            for (int i = 0; i < between.length; i++) {
                Call call = between[i];
                due("back behind call " + i + " is as ever",
                        look(imaged, x -> call.on(x) + x.back()).equals(look(imaged, null)), true);
            }
        }
    }

    static void imageAndSeen() {
        of("AN IMAGE: SEEN: which ROWS, which OUT");
        FigureTempers x = by("gets 1=2;off warm;");
        one(x, 12);
        one(x, 23);
        for (int i = 0; i < 6; i++) x.seen(1, 23 + 7);
        x.image();
        x.seen(-1, 0);
        for (int i = 0; i < 6; i++) x.seen(0, 12 + 4);
        due("temper of 2", x.fits(4, -1, 0), 0);
        due("temper of 1", x.fits(2, 0, 1), 4);
        x.back();
        due("temper of 2", x.fits(4, -1, 0), 1);
        due("temper of 2", x.fits(4, 0, 2), 7);
        due("six", x.seen(0, 0), -2);
        x.seen(-1, 0);
        x.seen(1, 23 + 8);
        x.back();
        due("once more", x.fits(4, 0, 2), 7);
        due("six", x.about(7), 6);
    }

    static void imageAnswersDay() {
        of("AN IMAGE: DAY, 0 to 999");
        FigureTempers x = fresh();
        due("back", x.back(), 0);
        due("image", x.image(), 0);
        until(x, 999);
        due("back from 999", x.back(), 0);
        until(x, 999);
        due("image of 999", x.image(), 999);
        x.undo();
        due("day", x.about(1), 998);
        due("back", x.back(), 999);
        due("back again: it stays", x.back(), 999);
    }

    static void imageWithoutTapeAndFault() {
        of("AN IMAGE: but the tape and the latest FAULT");
        FigureTempers x = fresh();
        tape(x, "off 1;");
        x.image();
        text(x, "  oops");
        tape(x, "row 7;row 8;");
        x.back();
        due("tape", x.about(8), 12);
        due("fault", x.fault(0), 1);
        due("place", x.fault(1), 2);
        due("what is on the tape", x.text(), 0);
        due("played", x.played(0), -1);
        due("rows", x.about(0), 2);
    }

    static void imageAndTexts() {
        of("AN IMAGE: TEXTS told behind it are gone behind going back");
        FigureTempers x = fresh();
        text(x, "gets 1=2;");
        x.by(0);
        x.image();
        for (int i = 1; i < 4; i++) text(x, "off 9;row 1;");
        x.by(3);
        due("four", x.about(4), 4);
        x.back();
        due("one", x.about(4), 1);
        due("the text", x.about(5), 0);
        due("gone", x.by(1), false);
        due("gone", x.played(1), -2);
        one(x, 12);
        due("the one told ahead rules", x.ofRow(0, 2), 13);
        for (int i = 1; i < 4; i++) due("told anew", text(x, "off 5;"), i);
        due("no fifth", text(x, "off 5;"), -1);
        x.end(0);
        x.image();
        due("the image of four", x.back(), 0);
        due("four stay", x.about(4), 4);
        x.by(3);
        x.turn(1, 2);
        due("what was told anew rules", x.ofRow(0, 2), 17);
    }

    static void imageAndRows() {
        of("AN IMAGE: ROWS told behind it are gone, and can be told anew");
        FigureTempers x = fresh();
        one(x, 5);
        x.image();
        for (int i = 1; i < 12; i++) one(x, 9999);
        due("no 13th", one(x, 1), -1);
        x.back();
        due("one", x.about(0), 1);
        due("gone", x.ofRow(1, 0), -1000000);
        due("told anew", x.row(1, 2, -1, -1, 2), 1);
        due("how many", x.ofRow(1, 0), 2);
        due("true", x.ofRow(1, 1), -1);
        due("digits", x.ofRow(1, 4), 2);
        x.back();
        due("and anew, with plus", x.row(7, 8, 9, 10, 0), 1);
        for (int i = 0; i < 4; i++) due("sign", x.ofRow(1, 20 + i), 0);
        due("true", x.ofRow(1, 1), 34);
        due("digits", x.ofRow(1, 4), 5);
        due("beside", x.beside(1, 3), 10);
        due("the one told ahead", x.ofRow(0, 10), 5);
    }
}
