/** For each promise what it says of ordinary inputs, of its edges, and of wrong inputs. */
public final class PromiseTest extends Check {
    public static void main(String[] args) {
        run(PromiseTest.class);
    }

    private static void made() {
        of("1 a new object");
        FigureTempers x = new FigureTempers();
        int[] due = {0, 0, 0, 53, 0, -1, 0, 0, 0};
        for (int i = 0; i < due.length; i++) due("about(" + i + ")", x.about(i), due[i]);
        for (int f = 0; f < 10; f++) {
            due("temper", x.of(f, 0), 5);
            due("used", x.of(f, 1), 0);
            due("quarrels", x.of(f, 2), 0);
            due("bad", x.of(f, 3), 0);
        }
        x.row(1, -1, -1, -1, 0);
        x.turn(1, 1);
        due("back", x.back(), 0);
        due("rows", x.about(0), 0);
        due("bad", x.of(1, 3), 0);
        due("steps", x.about(6), 0);
    }

    private static void row() {
        of("2 row");
        FigureTempers x = new FigureTempers();
        due("0", x.row(0, -1, -1, -1, 0), 0);
        due("four", x.row(9999, 0, 10, 205, 15), 1);
        due("-2", x.row(-2, -1, -1, -1, 0), -1);
        due("second -2", x.row(1, -2, -1, -1, 0), -1);
        due("third 10000", x.row(1, 2, 10000, -1, 0), -1);
        due("gap", x.row(1, -1, 2, -1, 0), -1);
        due("gap at third", x.row(1, 2, -1, 4, 0), -1);
        due("gap of two", x.row(1, -1, -1, 4, 0), -1);
        due("none", x.row(-1, -1, -1, -1, 0), -1);
        due("minus of one not there", x.row(1, 2, -1, -1, 4), -1);
        due("minus below 0", x.row(1, 2, -1, -1, -1), -1);
        due("minus 16", x.row(1, 2, 3, 4, 16), -1);
        due("is no step", x.about(6), 0);
        for (int i = 2; i < 12; i++) due("more", x.row(i, i, i, -1, 7), i);
        due("the 13th", x.row(1, -1, -1, -1, 0), -1);
        due("rows", x.about(0), 12);
        due("true", x.ofRow(1, 1), -9999 - 10 - 205);
    }

    private static void reckon() {
        of("3 reckon");
        FigureTempers x = new FigureTempers();
        x.row(1223, 30, -1, -1, 2);
        due("row 1", x.reckon(1), -1000000);
        due("row -1", x.reckon(-1), -1000000);
        due("no step", x.about(6), 0);
        x.turn(2, 2);
        x.turn(3, 3);
        due("out", x.reckon(0), 1193 + 2);
        due("balance", x.about(2), 1195);
        due("quarrels of 2", x.of(2, 2), 2);
        due("quarrels of 3", x.of(3, 2), 2);
        due("used 3", x.of(3, 1), 2);
        due("used 0", x.of(0, 1), 1);
        due("used 1", x.of(1, 1), 1);
        due("steps", x.about(6), 3);
        due("day", x.about(1), 0);

        x = by("off often;gets bad=0;");
        x.row(12, 12, -1, -1, 0);
        x.turn(1, 2);
        due("as all is ahead", x.reckon(0), 24);
        due("used by then", x.reckon(0), 24 + 3 * 4);

        x = new FigureTempers();
        x.row(9999, 9999, 9999, 9999, 15);
        for (int i = 0; i < 260; i++) x.reckon(0);
        due("least balance", x.about(2), -9999999);
        due("most used", x.of(9, 1), 999);
        due("steps", x.about(6), 30);
        x = new FigureTempers();
        x.row(9999, 9999, 9999, 9999, 0);
        for (int i = 0; i < 251; i++) x.reckon(0);
        due("most balance", x.about(2), 9999999);
    }

    private static void day() {
        of("4 day");
        FigureTempers x = new FigureTempers();
        due("0", x.day(0), -10000000);
        due("61", x.day(61), -10000000);
        due("60 without rows", x.day(60), 0);
        due("steps", x.about(6), 30);
        for (int i = 0; i < 15; i++) x.day(60);
        due("day", x.about(1), 960);
        due("beyond", x.day(40), -10000000);
        due("day still", x.about(1), 960);
        due("to 999", x.day(39), 0);
        due("one more", x.day(1), -10000000);
        due("day", x.about(1), 999);

        x = by("gets 1=2;off left*10+right;mood temper+rows-day;");
        x.row(12, -1, -1, -1, 0);
        x.row(5, 7, -1, -1, 2);
        due("by number", x.day(1), 12 + 12 - 2 + 57);
        due("mood by quarrels", x.of(1, 0), 6);
        due("mood of others", x.of(0, 0), 5);
        due("quarrels", x.of(1, 2), 0);
        due("written", x.book(1, 0), 1);
        due("second day", x.day(1), 2 * 79);
        due("mood by the day that ends", x.of(1, 0), 6);
        due("mood of others by the day", x.of(0, 0), 4);
    }

    private static void turn() {
        of("5 turn");
        FigureTempers x = new FigureTempers();
        due("turn", x.turn(3, 8), true);
        due("bits", x.of(3, 3), 256);
        due("bits", x.of(8, 3), 8);
        due("turn back", x.turn(8, 3), false);
        due("bits", x.of(3, 3), 0);
        due("bits", x.of(8, 3), 0);
        due("itself", x.turn(0, 0), true);
        due("bits", x.of(0, 3), 1);
        due("itself back", x.turn(0, 0), false);
        due("steps", x.about(6), 4);
        due("10", x.turn(10, 0), false);
        due("-1", x.turn(0, -1), false);
        due("steps", x.about(6), 4);
    }

    private static void soothe() {
        of("6 soothe");
        FigureTempers x = new FigureTempers();
        due("so already", x.soothe(0, 5), false);
        due("0", x.soothe(0, 0), true);
        due("9", x.soothe(9, 9), true);
        due("10", x.soothe(1, 10), false);
        due("-1", x.soothe(1, -1), false);
        due("figure 10", x.soothe(10, 1), false);
        due("figure -1", x.soothe(-1, 1), false);
        due("steps", x.about(6), 2);
        due("temper", x.of(0, 0), 0);
        due("temper", x.of(9, 0), 9);
    }

    private static void year() {
        of("7 year");
        FigureTempers x = new FigureTempers();
        due("seed -1", x.year(-1, 1), -1);
        due("seed 10000", x.year(10000, 1), -1);
        due("0 draws", x.year(0, 0), -1);
        due("31 draws", x.year(0, 31), -1);
        due("no step", x.about(6), 0);
        // 9999 * 3 + 53 = 30050: by 6 it is 2, without ROWS nothing more is drawn.
        due("a row of none", x.year(9999, 1), 0);
        due("X", x.about(3), (30050 * 257 + 151) % 30241);
        due("steps", x.about(6), 1);
        // 11 * 3 + 53 = 86: by 6 it is 2; X is 22253 then; by 2 rows: 1.
        x.row(12, -1, -1, -1, 0);
        x.row(34, -1, -1, -1, 0);
        x.turn(3, 4);
        due("a row", x.year(11, 1), 1);
        due("which", x.book(0, 0), 1);
        due("X", x.about(3), (22253 * 257 + 151) % 30241);
        // 0 * 3 + 53 = 53: by 6 it is 5.
        due("a day", x.year(0, 1), 1);
        due("day", x.about(1), 1);
        FigureTempers y = new FigureTempers();
        due("many draws", y.year(4, 30), 0);
        int[] cells = byHand(4, 30);
        due("X", y.about(3), cells[0]);
        due("days", y.about(1), cells[1]);
        for (int f = 0; f < 10; f++) {
            due("temper", y.of(f, 0), cells[2 + f]);
            due("bad", y.of(f, 3), cells[12 + f]);
        }
        due("one step", y.about(6), 1);
        due("undo", y.undo(), 0);
        due("X", y.about(3), 53);
        due("days", y.about(1), 0);
        FigureTempers z = new FigureTempers();
        z.row(1, -1, -1, -1, 0);
        for (int i = 0; i < 16; i++) z.day(60);
        z.day(39);
        due("999 stays", z.year(0, 1), 0);
        due("day", z.about(1), 999);
        due("balance", z.about(2), 999);
        due("X goes on", z.about(3), 13772);
    }

    /** X, DAY, TEMPERS, bad TERMS behind a year without ROWS. */
    private static int[] byHand(int seed, int n) {
        int[] c = new int[22];
        java.util.Arrays.fill(c, 2, 12, 5);
        c[0] = seed * 3 + 53;
        for (int i = 0; i < n; i++) {
            int what = draw(c, 6);
            if (what == 0) {
                int a = draw(c, 10);
                int b = draw(c, 10);
                c[12 + a] ^= 1 << b;
                if (a != b) c[12 + b] ^= 1 << a;
            } else if (what == 1) {
                int a = draw(c, 10);
                c[2 + a] = draw(c, 10);
            } else if (what != 2) {
                c[1]++;
            }
        }
        return c;
    }

    private static int draw(int[] c, int by) {
        int v = c[0] % by;
        c[0] = (c[0] * 257 + 151) % 30241;
        return v;
    }

    private static void tapes() {
        of("8 feed");
        FigureTempers x = new FigureTempers();
        for (int i = 1; i <= 15; i++) due("feed", x.feed(0, 0, 0, 0, 0), 20 * i);
        due("beyond 300", x.feed(0, 0, 0, 0, 0), -1);
        due("bytes", x.about(8), 300);
        of("9 end");
        due("301", x.end(301), -1);
        due("-1", x.end(-1), -1);
        due("300", x.end(300), 300);
        due("281", x.end(281), 281);
        due("feed beyond", x.feed(0, 0, 0, 0, 0), -1);
        due("280", x.end(280), 280);
        due("feed", x.feed(0, 0, 0, 0, 0), 300);
        due("0", x.end(0), 0);
        due("1 of none", x.end(1), -1);
        of("8 feed, the order of bytes");
        // "off " "7;  " and a byte 255 behind, cut away
        x.feed(0x6f666620, 0x373b2020, 0x202020ff, -1, -1);
        x.end(11);
        due("text", x.text(), 0);
        x.feed(0x6f666620, 0x373b2020, 0x202020ff, -1, -1);
        due("text with 255", x.text(), -1);
        due("place", x.fault(1), 11);
    }

    private static void text() {
        of("10 text");
        FigureTempers x = new FigureTempers();
        due("empty", x.text(), 0);
        due("blanks", text(x, " \n  \n"), 1);
        due("tape", x.about(8), 0);
        due("wrong", text(x, "row;"), -1);
        due("tape behind a fault", x.about(8), 0);
        due("texts", x.about(4), 2);
        due("third", text(x, "row 1;"), 2);
        due("fourth", text(x, "gets left=left;"), 3);
        due("fault", x.fault(0), 0);
        tape(x, "oops");
        due("fifth", x.text(), -1);
        due("tape stays", x.about(8), 4);
        due("not read", x.fault(0), 0);
        due("texts", x.about(4), 4);
        of("11 fault");
        x = new FigureTempers();
        due("ahead of any", x.fault(0), -1);
        due("ahead of any", x.fault(1), -1);
        text(x, "  x");
        due("fault", x.fault(0), 1);
        due("place", x.fault(1), 2);
        due("others", x.fault(2), -1);
        due("others", x.fault(-1), -1);
        due("back", x.back(), 0);
        due("the latest stays", x.fault(1), 2);
        x.text();
        due("without", x.fault(0), 0);
        due("without", x.fault(1), -1);
    }

    private static void faults() {
        of("10 and 11, FAULTS");
        fault("gets 1<2;off 3;mood 4;row 0;reckon 11;turn 0 with 9;soothe 0 to 9;day 60;", 0, -1);
        fault("row-0009+12;", 0, -1);
        fault("gets not not 1<=2 and 3>=2 or not 4#4;", 0, -1);
        fault("off - - 3;", 0, -1);
        fault("mood day;gets day=day;off day;day 1;", 0, -1);
        fault("gets\n1\n<\n2\n;\n", 0, -1);
        // 1: it can't stand there, or is none
        fault("gets 1;", 1, 6);
        fault("gets 1<2<3;", 1, 8);
        fault("gets 1<2", 1, 8);
        fault("gets 1<2  ", 1, 10);
        fault("gets (1<2);", 1, 7);
        fault("gets 1<not 2;", 1, 7);
        fault("gets (not 1)<2;", 1, 6);
        fault("gets - not 1<2;", 1, 7);
        fault("gets 1 and 1<2;", 1, 7);
        fault("gets 1<2 and;", 1, 12);
        fault("gets 1<more(1<2,3);", 1, 13);
        fault("off not 1<2;", 1, 4);
        fault("off 1<2;", 1, 5);
        fault("off 1 and 2;", 1, 6);
        fault("off (1;", 1, 6);
        fault("off 1);", 1, 5);
        fault("off (1,2);", 1, 6);
        fault("off 1,2;", 1, 5);
        fault("off more(1,2,3);", 1, 12);
        fault("off more((1),2)(3);", 1, 15);
        fault("off +1;", 1, 4);
        fault("off 1=<2;", 1, 5);
        fault("off 1 2;", 1, 6);
        fault("off ;", 1, 4);
        fault("off more;", 1, 8);
        fault("off row;", 1, 4);
        fault("off Left;", 1, 4);
        fault("off leftright;", 1, 4);
        fault("offa 1;", 1, 0);
        fault("offz 1;", 1, 0);
        fault("offA 1;", 1, 0);
        fault("offZ 1;", 1, 0);
        fault("off 1z;", 1, 5);
        fault("off`1;", 1, 3);
        fault("off{1;", 1, 3);
        fault("off@1;", 1, 3);
        fault("off[1;", 1, 3);
        fault("off 1:2;", 1, 5);
        fault("off 1?;", 1, 5);
        fault("off\t1;", 1, 3);
        fault("Off 1;", 1, 0);
        fault(";", 1, 0);
        fault("12345;", 1, 0);
        fault("left;", 1, 0);
        fault("with;", 1, 0);
        fault("row left;", 1, 4);
        fault("row 1*2;", 1, 5);
        fault("row 1+-2;", 1, 6);
        fault("row 1 2;", 1, 6);
        fault("row;", 1, 3);
        fault("reckon -1;", 1, 7);
        fault("reckon 1+1;", 1, 8);
        fault("turn 1 2;", 1, 7);
        fault("turn 1 with left;", 1, 12);
        fault("soothe 1 with 2;", 1, 9);
        fault("day;", 1, 3);
        fault("day 1", 1, 5);
        // 2: a NUMBER that isn't one of those told
        fault("off 9999+10000;", 2, 9);
        fault("off 99999999999999999999999999;", 2, 4);
        fault("off 00000000000000000000000007;", 0, -1);
        fault("gets 4294967296<1;", 2, 5);
        fault("turn 1 with 10;", 2, 12);
        fault("soothe 10 to 0;", 2, 7);
        fault("soothe 1 to 99999;", 2, 12);
        fault("day 0;", 2, 4);
        fault("day 61;", 2, 4);
        fault("reckon 10000;", 2, 7);
        // 3: the 9th that is open
        fault("off " + times("(", 8) + "1" + times(")", 8) + ";", 0, -1);
        fault("off " + times("(", 9) + "1" + times(")", 9) + ";", 3, 12);
        fault("off " + times("-", 8) + "1;", 0, -1);
        fault("off " + times("-", 9) + "1;", 3, 12);
        fault("off 1" + times("-1", 9) + times("*(-1)", 9) + ";", 0, -1);
        fault("gets " + times("not ", 8) + "1=1;", 0, -1);
        fault("gets " + times("not ", 9) + "1=1;", 3, 37);
        fault("gets " + times("not ", 7) + "-1=-1 and " + times("not ", 8) + "1=1;", 0, -1);
        fault("gets " + times("not ", 8) + "1=-1;", 3, 39);
        fault("off " + times("more(1,", 8) + "1" + times(")", 8) + ";", 0, -1);
        fault("off " + times("less(1,", 8) + "(1)" + times(")", 8) + ";", 3, 60);
        fault("off " + times("more(", 9) + "1" + times(",1)", 9) + ";", 3, 44);
        fault("off " + times("more(1,", 8) + "not 1" + times(")", 8) + ";", 1, 60);
        // 4: for the second time
        fault("off 1;off", 4, 6);
        fault("gets 1=1;off 1;mood 1;gets 2=2;", 4, 22);
        fault("mood 1; mood", 4, 8);
        // 5: a NAME that isn't of that CLAUSE
        fault("off left+figure;", 5, 9);
        fault("gets temper=1;", 5, 5);
        fault("mood warm;", 5, 5);
        fault("mood last;", 5, 5);
        fault("mood often;", 5, 5);
        fault("off 1 left;", 1, 6);
        // 6: the 25th CLAUSE
        fault(times("day 1;", 24), 0, -1);
        fault(times("day 1;", 25), 6, 144);
        fault(times("day 1;", 24) + "day 99;", 6, 144);
        fault(times("day 1;", 24) + "of", 1, 144);
        fault("off 1;" + times("day 1;", 23) + "off 1;", 4, 144);
        fault("off 1;" + times("day 1;", 23) + "gets 1;", 6, 144);
        // 7: the 5th NUMBER of a row
        fault("row 1+2+3+4;", 0, -1);
        fault("row -1-2-3-4-5;", 7, 13);
        fault("row 1+2+3+4+;", 1, 12);
        fault("row 1+2+3+4+5+6;", 7, 12);
    }

    /** off of 1 beside 2 by a SUM. */
    private static int off(String sum) {
        FigureTempers x = by("gets 1=2;off " + sum + ";");
        x.row(12, -1, -1, -1, 0);
        return x.ofRow(0, 2) - 12;
    }

    private static void laws() {
        of("12, what a TEXT says");
        due("off 3+4*5", off("3+4*5"), 23);
        due("off 20-5-4", off("20-5-4"), 11);
        due("off 99/5/3", off("99/5/3"), 6);
        due("off -7/2", off("-7/2"), -3);
        due("off 7/-2", off("7/-2"), -3);
        due("off -7%4", off("-7%4"), -3);
        due("off 7%-4", off("7%-4"), 3);
        due("off 7/0", off("7/0"), 0);
        due("off 7%0", off("7%0"), 0);
        due("off 17%5*2", off("17%5*2"), 4);
        due("off 100", off("100"), 99);
        due("off -100", off("-100"), -99);
        due("off 9999*9999-9999*101", off("9999*9999-9999*101"), 0);
        due("off 9999*9999/20000", off("9999*9999/9999/2"), 50);
        due("off 9999*9999+5-1000*999", off("9999*9999+5-1000*999-950"), 50);
        due("off -(9999*9999)", off("-9999*9999/9999/2"), -50);
        due("off 9999*9999*9999", off("9999*9999*9999/9999-50"), 50);
        due("off below and above", off("-9999*9999-9999*9999+9999*100+50-50"), -99);
        due("off more", off("more(3,left+right*2)"), 5);
        due("off less", off("less(3,left+right*2)"), 3);
        due("off more of both below 0", off("more(-3,-4)"), -3);
        due("off - ONE * ONE", off("-left*5+right"), -3);
        due("off warm and cool", off("warm*10+cool"), 55);

        FigureTempers x = by("off warm*10-cool;gets bad=0;");
        x.row(12, -1, -1, -1, 0);
        x.row(21, -1, -1, -1, 0);
        x.soothe(1, 3);
        x.turn(1, 2);
        due("warm of the left", x.ofRow(0, 2), 12 + 25);
        due("cool of the right", x.ofRow(1, 2), 21 + 47);

        x = by("gets 1=2;off apart*20+last*3+day;");
        x.row(12, 3, 45, -1, 0);
        due("apart, last", x.ofRow(0, 2), 60 + 3 + 23 + 20 + 3);
        x.day(2);
        due("day", x.ofRow(0, 2), 60 + 49 + 4 * 2);

        String[] how = {"<", "<=", ">", ">=", "=", "#"};
        boolean[][] so = {{true, false, false}, {true, true, false}, {false, false, true}, {false, true, true},
            {false, true, false}, {true, false, true}};
        for (int i = 0; i < how.length; i++) {
            x = by("gets left" + how[i] + "right;");
            x.row(12, -1, -1, -1, 0);
            x.row(22, -1, -1, -1, 0);
            x.row(32, -1, -1, -1, 0);
            for (int k = 0; k < 3; k++) due("gets left" + how[i] + "right of " + (k + 1) + "2", x.ofRow(k, 3), so[i][k] ? 0 : 1);
        }
        x = by("gets not left<right and right>0 or left=5;");
        x.row(12, -1, -1, -1, 0);
        x.row(21, -1, -1, -1, 0);
        x.row(20, -1, -1, -1, 0);
        x.row(59, -1, -1, -1, 0);
        due("not of the first ASK alone", x.ofRow(0, 3), 1);
        due("not of the first ASK alone", x.ofRow(1, 3), 0);
        due("and ahead of or", x.ofRow(2, 3), 1);
        due("or", x.ofRow(3, 3), 0);

        x = by("gets left<5 and right<5 or left=9 and not right=9;");
        x.row(12, -1, -1, -1, 0);
        x.row(16, -1, -1, -1, 0);
        x.row(91, -1, -1, -1, 0);
        x.row(99, -1, -1, -1, 0);
        due("and", x.ofRow(0, 3), 0);
        due("and", x.ofRow(1, 3), 1);
        due("or", x.ofRow(2, 3), 0);
        due("not", x.ofRow(3, 3), 1);
        due("off without", x.ofRow(3, 2), 100);

        x = by("mood figure*used-rows;");
        x.row(33, -1, -1, -1, 0);
        x.row(1, 9, -1, -1, 0);
        x.turn(3, 3);
        x.day(1);
        due("mood", x.of(3, 0), 4);
        due("mood", x.of(1, 0), 1);
        due("mood at most 9", x.of(9, 0), 9);
        due("mood of one not used", x.of(5, 0), 0);
        due("gets without", x.ofRow(0, 3), 1);
        x = by("mood temper-rows*3;");
        x.row(11, -1, -1, -1, 0);
        x.turn(1, 1);
        x.day(1);
        due("mood at least 0", x.of(1, 0), 0);
        due("mood", x.of(0, 0), 5);
    }

    private static void by() {
        of("12 by");
        FigureTempers x = new FigureTempers();
        due("0 of none", x.by(0), false);
        due("none", x.by(-1), true);
        text(x, "gets 1=2;");
        due("-2", x.by(-2), false);
        due("1", x.by(1), false);
        due("0", x.by(0), true);
        due("the text", x.about(5), 0);
        x.row(11, -1, -1, -1, 0);
        due("it rules", x.ofRow(0, 2), 12);
        due("wrong one", x.by(4), false);
        due("it still rules", x.about(5), 0);
        due("none", x.by(-1), true);
        due("the text", x.about(5), -1);
        due("none rules", x.ofRow(0, 2), 11);
        due("no step", x.about(6), 0);
    }

    private static void played() {
        of("13 played");
        FigureTempers x = new FigureTempers();
        due("none", x.played(0), -2);
        due("-1", x.played(-1), -2);
        text(x, "off 7;row -5+12;gets 1=2;reckon 0;turn 1 with 1;soothe 3 to 4;day 2;");
        due("all", x.played(0), -1);
        due("no law by it", x.about(5), -1);
        due("rows", x.about(0), 1);
        due("true", x.ofRow(0, 1), 7);
        due("minus", x.ofRow(0, 20), 1);
        due("minus", x.ofRow(0, 21), 0);
        due("bad", x.of(1, 3), 2);
        due("temper", x.of(3, 0), 4);
        due("balance", x.about(2), 21);
        due("day", x.about(1), 2);
        due("steps", x.about(6), 5);
        due("so already", x.played(0), 5);
        due("what was done stays", x.about(0), 2);
        due("what was done stays", x.of(1, 3), 0);
        due("what comes behind isn't done", x.about(1), 2);
        text(x, "reckon 5;row 1;");
        due("no such row", x.played(1), 0);
        text(x, "day 60;day 60;mood 1;day 60;day 60;");
        for (int i = 0; i < 14; i++) x.day(60);
        due("days that can be", x.played(2), 3);
        due("day", x.about(1), 999);
        text(x, times("row 1;", 20));
        due("twelve rows", x.played(3), 10);
        due("rows", x.about(0), 12);
        due("others", x.played(4), -2);
    }

    private static void undo() {
        of("14 undo");
        FigureTempers x = new FigureTempers();
        due("none", x.undo(), -1);
        x.row(12, -1, -1, -1, 0);
        x.turn(1, 2);
        x.soothe(1, 9);
        x.reckon(0);
        x.day(2);
        x.year(7, 20);
        due("steps", x.about(6), 6);
        due("the year", x.undo(), 5);
        due("X", x.about(3), 53);
        due("day", x.about(1), 2);
        due("balance", x.about(2), 39);
        due("written", x.book(-1, 0), 3);
        due("one day", x.undo(), 4);
        due("day", x.about(1), 1);
        due("used", x.of(1, 1), 2);
        due("the other day", x.undo(), 3);
        due("quarrels", x.of(1, 2), 1);
        due("reckoned", x.undo(), 2);
        due("quarrels", x.of(1, 2), 0);
        due("used", x.of(2, 1), 0);
        due("balance", x.about(2), 0);
        due("soothed", x.undo(), 1);
        due("temper", x.of(1, 0), 5);
        due("turned", x.undo(), 0);
        due("bad", x.of(1, 3), 0);
        due("none", x.undo(), -1);
        due("rows stay", x.about(0), 1);
        x.day(45);
        for (int i = 29; i >= 0; i--) due("thirty", x.undo(), i);
        due("no more", x.undo(), -1);
        due("day", x.about(1), 15);
        for (int i = 0; i < 50; i++) x.reckon(0);
        due("written", x.book(-1, 0), 40);
        for (int i = 0; i < 30; i++) x.undo();
        due("eldest is back", x.book(0, 1), 0);
        due("written", x.book(-1, 0), 35);
    }

    private static void ofFigure() {
        of("15 of");
        FigureTempers x = new FigureTempers();
        x.row(77, -1, -1, -1, 0);
        x.turn(7, 7);
        x.turn(7, 0);
        x.turn(9, 7);
        x.reckon(0);
        due("temper", x.of(7, 0), 5);
        due("used", x.of(7, 1), 2);
        due("quarrels", x.of(7, 2), 2);
        due("bad", x.of(7, 3), 1 + 128 + 512);
        due("4", x.of(7, 4), -1);
        due("-1", x.of(7, -1), -1);
        due("figure -1", x.of(-1, 0), -1);
        due("figure 10", x.of(10, 0), -1);
    }

    private static void ofRow() {
        of("16 ofRow");
        FigureTempers x = new FigureTempers();
        x.row(0, 100, 23, -1, 5);
        x.turn(0, 0);
        x.turn(0, 2);
        int[] due = {3, 77, 79, 2, 6};
        for (int i = 0; i < 5; i++) due("what " + i, x.ofRow(0, i), due[i]);
        due("5", x.ofRow(0, 5), -1000000);
        due("9", x.ofRow(0, 9), -1000000);
        due("10", x.ofRow(0, 10), 0);
        due("11", x.ofRow(0, 11), 100);
        due("12", x.ofRow(0, 12), 23);
        due("13", x.ofRow(0, 13), -1000000);
        due("20", x.ofRow(0, 20), 1);
        due("21", x.ofRow(0, 21), 0);
        due("22", x.ofRow(0, 22), 1);
        due("23", x.ofRow(0, 23), -1000000);
        due("-1", x.ofRow(0, -1), -1000000);
        due("row 1", x.ofRow(1, 0), -1000000);
        due("row -1", x.ofRow(-1, 0), -1000000);
        due("nothing is done", x.about(6), 2);
    }

    private static void beside() {
        of("17 beside");
        FigureTempers x = new FigureTempers();
        x.row(0, 100, 23, -1, 5);
        x.turn(0, 0);
        x.turn(0, 2);
        int[] due = {1, 10, 100, 102, 23};
        for (int i = 0; i < 5; i++) due("two " + i, x.beside(0, i), due[i]);
        due("5", x.beside(0, 5), -1);
        due("-1", x.beside(0, -1), -1);
        due("row 1", x.beside(1, 0), -1);
        due("row -1", x.beside(-1, 0), -1);
        x.row(7, -1, -1, -1, 0);
        due("one digit", x.beside(1, 0), -1);
    }

    private static void book() {
        of("18 book");
        FigureTempers x = new FigureTempers();
        x.row(5, -1, -1, -1, 1);
        x.row(6, -1, -1, -1, 0);
        due("none", x.book(-1, 0), 0);
        due("0", x.book(0, 0), -1000000);
        x.reckon(1);
        x.day(1);
        due("three", x.book(-1, 2), 3);
        due("row", x.book(0, 0), 1);
        due("row", x.book(1, 0), 0);
        due("out", x.book(1, 2), -5);
        x.day(25);
        due("forty", x.book(-1, 0), 40);
        due("eldest", x.book(0, 1), 6);
        due("latest", x.book(39, 1), 25);
        due("40", x.book(40, 0), -1000000);
        due("3", x.book(0, 3), -1000000);
        due("-1", x.book(0, -1), -1000000);
        due("-2", x.book(-2, 0), -1000000);
    }

    private static void foretold() {
        of("19 foretold");
        FigureTempers x = by("mood temper+1-rows;");
        x.row(11, -1, -1, -1, 0);
        x.turn(1, 1);
        due("temper", x.foretold(1, 0), 6);
        due("temper", x.foretold(30, 0), 9);
        due("temper", x.foretold(3, 1), 2);
        due("balance", x.foretold(10, -1), 120);
        due("0 days", x.foretold(0, 1), -10000000);
        due("31 days", x.foretold(31, 1), -10000000);
        due("figure 10", x.foretold(1, 10), -10000000);
        due("figure -2", x.foretold(1, -2), -10000000);
        due("nothing is done", x.about(6), 1);
        due("nothing is done", x.about(1), 0);
        due("nothing is done", x.of(0, 0), 5);
        due("nothing is written", x.book(-1, 0), 0);
        x.reckon(0);
        due("quarrels of today", x.foretold(1, 1), 2);
        x = by("mood day-998;");
        for (int i = 0; i < 16; i++) x.day(60);
        x.day(39);
        due("behind 999", x.foretold(1, 0), 1);
        due("behind 999", x.foretold(5, 0), 5);
    }

    private static void firstOff() {
        of("20 firstOff");
        FigureTempers x = by("gets often<5;");
        x.row(12, -1, -1, -1, 0);
        x.row(34, -1, -1, -1, 0);
        x.row(1, -1, -1, -1, 0);
        due("used also by others", x.firstOff(30, 0), 3);
        due("later", x.firstOff(30, 1), 4);
        due("too few days", x.firstOff(3, 1), -1);
        due("just enough", x.firstOff(4, 1), 4);
        due("never", x.firstOff(30, 2), -1);
        due("0 days", x.firstOff(0, 0), -1);
        due("31 days", x.firstOff(31, 0), -1);
        due("row 3", x.firstOff(5, 3), -1);
        due("row -1", x.firstOff(5, -1), -1);
        due("nothing is done", x.of(1, 1), 0);
        x.turn(3, 4);
        x.by(-1);
        due("the next", x.firstOff(1, 1), 1);
    }

    private static void ordered() {
        of("21 ordered");
        FigureTempers x = new FigureTempers();
        x.row(1, 2, 3, -1, 2);
        due("as it is", x.ordered(0, -1), 0);
        x.turn(1, 2);
        // 1 3 2 and 2 3 1: the first has one two that changed sides
        due("twos", x.ordered(0, -1), 1);
        int[] due = {0, 2, 1};
        for (int i = 0; i < 3; i++) due("place " + i, x.ordered(0, i), due[i]);
        due("3", x.ordered(0, 3), -1);
        due("-2", x.ordered(0, -2), -1);
        x.turn(1, 3);
        due("none", x.ordered(0, -1), -1);
        due("none", x.ordered(0, 0), -1);
        due("row 1", x.ordered(1, 0), -1);
        x = new FigureTempers();
        x.row(1, 2, 3, 4, 0);
        x.turn(2, 3);
        // one change: 2134 has 1 3, 1324 has 3 2, 1243 has 2 4
        due("like ones", x.ordered(0, -1), 1);
        due("the lowest first", x.ordered(0, 0), 0);
        due("the lowest first", x.ordered(0, 1), 1);
        due("the lowest first", x.ordered(0, 2), 3);
        due("the lowest first", x.ordered(0, 3), 2);
        x = by("gets bad=0;off left-right;");
        x.row(12, 21, -1, -1, 0);
        x.turn(1, 2);
        due("off that comes to nothing", x.ordered(0, -1), 0);
        x = by("gets bad=0;off left-right+last*apart*9;");
        x.row(31, 12, -1, -1, 0);
        x.turn(1, 2);
        x.turn(2, 3);
        // within them together -1; 3 1 1 2: 0 between them; 1 2 3 1: -1
        due("what is within counts too", x.ordered(0, -1), -1);
        x.row(21, 2, -1, -1, 0);
        // 2 1 2: 1 and -1 + 9; 2 2 1: 0 and 1
        due("last of a NUMBER of one digit", x.ordered(1, -1), -1);
    }

    private static void split() {
        of("22 split");
        FigureTempers x = new FigureTempers();
        due("one", x.split(99, -1), 1);
        due("one", x.split(99, 0), 99);
        due("one", x.split(99, 1), -1);
        due("0", x.split(0, 0), -1);
        due("100", x.split(100, 0), -1);
        due("-2", x.split(5, -2), -1);
        due("3", x.split(5, 3), -1);
        x.turn(9, 9);
        x.turn(1, 9);
        due("two", x.split(99, -1), 2);
        due("two", x.split(99, 0), 2);
        due("two", x.split(99, 1), 97);
        x = by("gets left#1 and apart*left*right=apart*18 or apart=0 and left=0;");
        // 11 alone quarrels; two would have to be 2 and 9, 3 and 6, 6 and 3, 9 and 2 where they touch
        due("two", x.split(11, -1), 2);
        due("two", x.split(11, 0), 2);
        due("two", x.split(11, 1), 9);
        x = by("gets apart=1 and left=2;");
        // a number of two digits quarrels; of three single ones the first two have to be 2
        due("three", x.split(13, -1), 3);
        due("three", x.split(13, 0), 2);
        due("three", x.split(13, 1), 2);
        due("three", x.split(13, 2), 9);
        due("none", x.split(14, -1), -1);
        due("none", x.split(14, 0), -1);
    }

    private static void nearest() {
        of("23 nearest");
        FigureTempers x = new FigureTempers();
        due("itself", x.nearest(0), 0);
        due("itself", x.nearest(9999), 9999);
        due("-1", x.nearest(-1), -1);
        due("10000", x.nearest(10000), -1);
        x.turn(2, 0);
        due("the lesser", x.nearest(20), 19);
        due("more is nearer", x.nearest(209), 210);
        x.turn(9, 9);
        due("below", x.nearest(9999), 9898);
        x = new FigureTempers();
        x.turn(1, 0);
        due("down to 9", x.nearest(10), 9);
        x = by("gets left=9 and right=9;");
        due("up to 9999", x.nearest(9998), 9999);
        x = by("gets left>right;off 0;");
        due("off 0 is a quarrel too", x.nearest(11), 10);
        due("falling", x.nearest(9999), 9876);
        x = by("gets last=1;");
        due("two digits", x.nearest(5000), 99);
        x = by("gets 1=2;");
        due("one digit", x.nearest(5000), 9);
    }

    private static void changed() {
        of("24 changed");
        FigureTempers x = new FigureTempers();
        x.row(12, 5, -1, -1, 0);
        due("true already", x.changed(0, 0), -1);
        x.turn(2, 5);
        due("the lowest, less", x.changed(0, 0), 0);
        due("the lowest, less", x.changed(0, 1), 11);
        due("2", x.changed(0, 2), -1);
        due("-1", x.changed(0, -1), -1);
        due("row 1", x.changed(1, 0), -1);
        x = new FigureTempers();
        x.row(0, 0, -1, -1, 0);
        x.turn(0, 0);
        due("not below 0", x.changed(0, 0), 0);
        due("not below 0", x.changed(0, 1), 1);
        x = by("gets right=0;");
        x.row(5, 1, -1, -1, 0);
        due("down to 0", x.changed(0, 0), 1);
        due("down to 0", x.changed(0, 1), 0);
        x = by("gets right=9;");
        x.row(9998, -1, -1, -1, 0);
        due("up to 9999", x.changed(0, 1), 9999);
        x.row(9999, 8, -1, -1, 0);
        due("not the first", x.changed(1, 0), 1);
        due("more", x.changed(1, 1), 9);
        x = new FigureTempers();
        x.row(9999, -1, -1, -1, 1);
        x.turn(9, 9);
        due("too far", x.changed(0, 0), -1);
        x.row(9948, -1, -1, -1, 0);
        due("fifty", x.changed(1, 0), 0);
        due("fifty", x.changed(1, 1), 9898);
        x.row(9949, -1, -1, -1, 0);
        due("fifty-one", x.changed(2, 0), -1);
    }

    private static void seen() {
        of("25 seen");
        FigureTempers x = new FigureTempers();
        due("no row", x.seen(0, 0), -2);
        due("none", x.seen(-1, 7), 0);
        x.row(1, -1, -1, -1, 0);
        due("most", x.seen(0, 99999), 1);
        due("least", x.seen(0, -99999), 2);
        due("beyond", x.seen(0, 100000), -2);
        due("beyond", x.seen(0, -100000), -2);
        due("row -2", x.seen(-2, 0), -2);
        for (int i = 3; i <= 6; i++) due("more", x.seen(0, 1), i);
        due("seventh", x.seen(0, 1), -2);
        due("seen", x.about(7), 6);
        due("no step", x.about(6), 0);
        due("none any more", x.seen(-1, 0), 0);
        due("seen", x.about(7), 0);
    }

    private static void fits() {
        of("26 fits");
        FigureTempers x = by("gets 1=2;off warm*10-cool;");
        x.row(12, -1, -1, -1, 0);
        x.row(23, -1, -1, -1, 0);
        x.row(11, -1, -1, -1, 0);
        due("nothing seen", x.fits(1, -1, 77), 10);
        due("nothing seen", x.fits(7, -1, -5), 1000);
        due("order", x.fits(6, 37, 1), 3);
        due("order", x.fits(6, 37, 2), 7);
        due("order", x.fits(7, 537, 0), 5);
        due("last", x.fits(7, 999, 2), 9);
        due("none such", x.fits(7, 1000, 2), -1);
        x.seen(0, 12 + 43);
        // 10 a - b = 43: a 5, b 7
        due("one", x.fits(6, -1, 0), 1);
        due("one", x.fits(6, 0, 1), 5);
        due("one", x.fits(6, 0, 2), 7);
        due("not of the set", x.fits(6, 0, 3), -1);
        due("-2", x.fits(6, -2, 1), -1);
        due("1", x.fits(6, 1, 1), -1);
        x.seen(2, 11 + 45);
        due("with itself", x.fits(6, -1, 0), 1);
        x.seen(2, 11 + 36);
        due("not both", x.fits(6, -1, 0), 0);
        due("not both", x.fits(6, 0, 1), -1);
        due("none", x.fits(0, -1, 0), -1);
        due("four", x.fits(15, -1, 0), -1);
        due("figure 10", x.fits(1024, -1, 0), -1);
        due("below 0", x.fits(-1, -1, 0), -1);
        due("nothing is done", x.of(1, 0), 5);
        x.seen(-1, 0);
        x.seen(1, 23 + 20);
        due("three", x.fits(14, -1, 0), 10);
        due("three", x.fits(14, 4, 1), 4);
        due("three", x.fits(14, 4, 2), 2);
        due("three", x.fits(14, 4, 3), 0);
    }

    private static void tells() {
        of("27 tells");
        FigureTempers x = by("gets bad=0;off warm-cool;");
        due("no rows", x.tells(2), -1);
        x.row(45, -1, -1, -1, 0);
        x.row(11, -1, -1, -1, 0);
        x.row(12, -1, -1, -1, 0);
        x.row(21, -1, -1, -1, 0);
        due("all alike", x.tells(2), 0);
        x.turn(1, 1);
        due("one and the same off", x.tells(2), 0);
        x.turn(1, 2);
        due("each another one", x.tells(2), 2);
        due("each another one", x.tells(6), 2);
        due("others", x.tells(16), 0);
        due("none", x.tells(0), -1);
        due("four", x.tells(15), -1);
        due("figure 10", x.tells(1025), -1);
        x.seen(0, 46);
        due("no fits", x.tells(2), -1);
    }

    private static void ledger() {
        of("28 ledger");
        FigureTempers x = by("gets often=0;off often;");
        x.row(12, -1, -1, -1, 0);
        x.row(13, -1, -1, -1, 0);
        x.row(21, 3, -1, -1, 0);
        due("one", x.ledger(1, -1), 0);
        due("one", x.ledger(4, 0), 2);
        due("two", x.ledger(3, -1), 1);
        due("like ones", x.ledger(3, 0), 0);
        due("like ones", x.ledger(3, 1), 1);
        due("2 of two", x.ledger(3, 2), -1);
        due("-2", x.ledger(3, -2), -1);
        // 12, 13, 213: 0 + 1 + (3 + 3); 13 ahead: 0 + 1 + 6; 213 ahead: 0 + 2 + 3 or 0 + 2 + 3
        due("three", x.ledger(7, -1), 5);
        due("three", x.ledger(7, 0), 2);
        due("three", x.ledger(7, 1), 0);
        due("three", x.ledger(7, 2), 1);
        due("none", x.ledger(0, -1), -1);
        due("no such row", x.ledger(8, -1), -1);
        due("below 0", x.ledger(-1, -1), -1);
        for (int i = 0; i < 3; i++) x.row(5, -1, -1, -1, 0);
        due("five", x.ledger(31, -1), 5);
        due("five", x.ledger(31, 0), 2);
        due("six", x.ledger(63, -1), -1);
        due("nothing is done", x.of(1, 1), 0);
        x = by("gets bad=0;off left-right;");
        x.row(12, -1, -1, -1, 0);
        x.row(21, -1, -1, -1, 0);
        x.turn(1, 2);
        due("more and less are both apart", x.ledger(3, -1), 2);
    }

    private static void order() {
        of("29 order");
        FigureTempers x = new FigureTempers();
        due("none", x.order(100), -1);
        due("0", x.order(0), -1);
        due("101", x.order(101), -1);
        x.turn(1, 0);
        // 0 beside 1 either way: like. 0, 10 is 010, 10, 0 is 100.
        due("least", x.order(100), 10);
        due("below 10", x.order(10), -1);
        due("below 11", x.order(11), 10);
        x = by("gets left<=right;");
        due("single ones", x.order(2), 1);
        due("below 1", x.order(1), -1);
    }

    private static void grouping() {
        of("30 grouping");
        FigureTempers x = new FigureTempers();
        due("none", x.grouping(12), -1);
        due("0", x.grouping(0), -1);
        due("13", x.grouping(13), -1);
        x.turn(0, 0);
        // 0 0 0: (1) and 0: 1; 0 and (1): 1. 0 0 1: (1) and 1: 2; 0 and (1): 1.
        due("below 1", x.grouping(1), -1);
        due("least", x.grouping(2), 1);
        x = by("gets bad=0;off -7;");
        x.turn(0, 0);
        // 0 0 0: -7 and 0: -7 both; 0 0 1: -7 and 1: -6; 0 and 1: 1
        due("below 0", x.grouping(1), -1);
        due("below 0", x.grouping(2), 1);
        x = by("gets left#0;");
        // each 0 ahead of another: 0 0 0: (1) and 0: 1; 0 and (1): 2
        due("the first of all", x.grouping(1), 0);
        x = by("gets 1=2;off left*left;");
        // 0 0 0: 0; 0 0 1: 1; 0 1 0: (1) and 0: 2; 0 and (2): 2; 0 1 1: (1) and 1: 3; 0 and (3): 3; 1 0 0: (2) and 0: 6; 1 and (0): 2
        due("the first is not 0", x.grouping(2), 10000);
        x = by("gets bad=0;off -7;");
        x.turn(0, 7);
        // 0 1 6: (1) and 6: 7; 0 and (7): 0
        due("no seven", x.grouping(4), -1);
        due("a seven of 3 and 4", x.grouping(5), 304);
        due("a seven of 1 and 6", x.grouping(12), 106);
    }

    private static void carried() {
        of("31 carried");
        FigureTempers x = new FigureTempers();
        due("9999 and 1", x.carried(9999, 1, false), 4);
        due("0 and 0", x.carried(0, 0, false), 0);
        due("5005 and 5005", x.carried(5005, 5005, false), 2);
        due("555 and 445", x.carried(555, 445, false), 3);
        due("-1", x.carried(-1, 0, false), -1);
        due("10000", x.carried(0, 10000, true), -1);
        due("no gossip", x.carried(9999, 9999, true), 0);
        x.turn(9, 1);
        due("both have a digit", x.carried(9999, 1, true), 1);
        due("all places", x.carried(9999, 1111, true), 4);
        x.turn(9, 0);
        due("noughts that are there", x.carried(999, 1001, true), 3);
        due("noughts that aren't", x.carried(999, 1, true), 1);
        due("noughts that aren't", x.carried(1, 999, true), 1);
        due("not carried", x.carried(90, 10, true), 1);
        x.turn(1, 2);
        due("not carried", x.carried(21, 12, true), 0);
        x = by("gets left<right or apart=0 or last=1;");
        due("left of the first", x.carried(19, 91, true), 1);
        due("left of the first", x.carried(91, 19, true), 1);
        due("left of the first", x.carried(9, 1, true), 1);
        due("left of the first", x.carried(1, 9, true), 0);
    }

    private static void game() {
        of("32 game");
        FigureTempers x = new FigureTempers();
        for (int n = 1; n <= 6; n++) {
            due("all get on, " + n, x.game((1 << n) - 1, false), n % 2 == 0 ? 1 : 0);
            due("all get on, " + n, x.game((1 << n) - 1, true), n % 2 == 0 ? 0 : -1);
        }
        due("none", x.game(0, false), -2);
        due("seven", x.game(127, false), -2);
        due("figure 10", x.game(1024, false), -2);
        due("below 0", x.game(-1, true), -2);
        due("9 alone", x.game(512, false), 0);
        x.turn(0, 1);
        x.turn(1, 2);
        // 0 1 2: 1 first: nothing goes beside it. 0 first: 2, then 1 quarrels.
        due("three", x.game(7, false), 1);
        due("three", x.game(7, true), 1);
        x = by("gets left<right;");
        due("rising", x.game(7, true), 1 + 1);
        x = by("gets left+right#3;");
        due("0 and 9", x.game(513, true), 0);
        // 1 2 9: 9 first: 1 or 2, then the other one quarrels; 1 first: 9, then 2; 2 first: 9, then 1
        due("none by best play", x.game(518, false), 0);
        x = by("gets last=1 and apart=0;");
        due("last, not apart", x.game(7, false), 0);
    }

    private static void debts() {
        of("33 debt");
        FigureTempers x = new FigureTempers();
        due("debt", x.debt(0, 5, 9999), true);
        due("itself", x.debt(3, 3, 1), false);
        due("from -1", x.debt(-1, 3, 1), false);
        due("to 6", x.debt(3, 6, 1), false);
        due("-1", x.debt(3, 4, -1), false);
        due("10000", x.debt(3, 4, 10000), false);
        due("no step", x.about(6), 0);
        of("34 worth");
        due("owed", x.worth(5), 9999);
        due("owes", x.worth(0), -9999);
        due("others", x.worth(3), 0);
        due("6", x.worth(6), -1000000);
        due("-1", x.worth(-1), -1000000);
        x.debt(0, 5, 11);
        x.debt(5, 1, 22);
        due("told anew", x.worth(5), -11);
        x.turn(1, 1);
        due("reckoned", x.worth(5), 12 - 22);
        due("nothing is done", x.of(1, 1), 0);
        x = by("gets left#right;off -50;");
        x.debt(0, 1, 11);
        due("below 0 it is 0", x.worth(1), 0);
        x.debt(0, 1, 77);
        due("below 0 it isn't", x.worth(1), 27);
    }

    private static void ring() {
        of("35 ring");
        FigureTempers x = new FigureTempers();
        due("none", x.ring(-1), -1);
        due("none", x.ring(-2), -1);
        due("none", x.ring(0), -1);
        int[] around = {2, 5, 3, 4, 2};
        for (int i = 0; i < 4; i++) x.debt(around[i], around[i + 1], 40 + i);
        due("four", x.ring(-1), 4);
        due("least", x.ring(-2), 40);
        for (int i = 0; i < 4; i++) due("place", x.ring(i), around[i]);
        due("4", x.ring(4), -1);
        due("-3", x.ring(-3), -1);
        x.debt(1, 4, 5);
        x.debt(4, 0, 5);
        x.debt(0, 1, 9);
        due("three", x.ring(-1), 3);
        due("lowest first", x.ring(0), 0);
        due("lowest first", x.ring(1), 1);
        due("lowest first", x.ring(2), 4);
        x.debt(1, 2, 5);
        x.debt(2, 0, 7);
        due("then second, third", x.ring(2), 2);
        due("least", x.ring(-2), 5);
        x.debt(5, 2, 6);
        due("two", x.ring(-1), 2);
        due("two", x.ring(0), 2);
        due("two", x.ring(1), 5);
        x.debt(5, 2, 0);
        due("0 is none", x.ring(-1), 3);
        x = by("gets left#right;off -11;");
        x.debt(0, 1, 5);
        x.debt(1, 0, 11);
        due("reckoned 0 is none", x.ring(-1), -1);
        x.by(-1);
        due("reckoned", x.ring(-1), 2);
        for (int i = 2; i < 6; i++) {
            x.debt(i - 1, i, 1);
        }
        x.debt(1, 0, 0);
        x.debt(5, 0, 1);
        due("six", x.ring(-1), 6);
        due("six", x.ring(5), 5);
        due("6", x.ring(6), -1);
    }

    private static void image() {
        of("36 and 37, image and back");
        FigureTempers x = new FigureTempers();
        text(x, "gets 1=2;");
        x.by(0);
        x.row(12, -1, -1, -1, 0);
        x.day(3);
        x.seen(0, 5);
        x.debt(0, 1, 7);
        due("image", x.image(), 3);
        text(x, "gets 1=1;");
        x.by(1);
        x.row(13, -1, -1, -1, 0);
        x.day(40);
        x.seen(-1, 0);
        x.seen(1, 9);
        x.seen(1, 9);
        x.debt(0, 1, 8);
        x.turn(1, 1);
        x.soothe(4, 4);
        x.year(5, 5);
        tape(x, "row 5");
        tape(x, "row");
        due("back", x.back(), 3);
        int[] due = {1, 3, 39, 53, 1, 0, 3, 1, 3};
        for (int i = 0; i < due.length; i++) due("about(" + i + ")", x.about(i), due[i]);
        due("debt", x.worth(1), 7);
        due("terms", x.of(1, 3), 0);
        due("temper", x.of(4, 0), 5);
        due("written", x.book(-1, 0), 3);
        due("text gone", x.by(1), false);
        due("law", x.ofRow(0, 2), 13);
        due("fits what was seen", x.fits(1, -1, 0), 0);
        due("steps too", x.undo(), 2);
        due("day", x.about(1), 2);
        due("it stays", x.back(), 3);
        due("steps", x.about(6), 3);
        due("told anew", text(x, "row 8;"), 1);
        due("fault of the latest", x.fault(0), 0);
        text(x, "row 8");
        due("fault", x.fault(0), 1);
        due("back", x.back(), 3);
        due("the latest fault stays", x.fault(0), 1);
        due("its place too", x.fault(1), 5);
        x.undo();
        x.undo();
        x.undo();
        due("image", x.image(), 0);
        x.day(60);
        due("back", x.back(), 0);
        due("no steps", x.undo(), -1);
    }

    private static void about() {
        of("38 about");
        FigureTempers x = new FigureTempers();
        due("9", x.about(9), -2);
        due("-1", x.about(-1), -2);
        x.row(7, -1, -1, -1, 1);
        x.day(4);
        x.year(9999, 1);
        text(x, "off 1;");
        x.by(0);
        x.seen(0, 1);
        x.feed(0, 0, 0, 0, 0);
        int[] due = {1, 4, -35, next(next(30050)), 1, 0, 5, 1, 20};
        for (int i = 0; i < due.length; i++) due("about(" + i + ")", x.about(i), due[i]);
    }

    private static int next(int x) {
        return (x * 257 + 151) % 30241;
    }
}
