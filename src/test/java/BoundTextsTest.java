/** The boundary cases of II. TEXTS: each test is a sentence of the document. */
public final class BoundTextsTest extends Check {
    public static void main(String[] args) { run(BoundTextsTest.class); }

    /** off of the left 3 beside the right 8, both of TEMPER 5. */
    private static void off(String sum, int want) {
        FigureTempers x = by("gets 1=2;off " + sum + ";");
        one(x, 38);
        due("off " + sum, x.ofRow(0, 2) - 38, want);
    }

    /** Whether 3 beside 8 get on. */
    private static void gets(String either, boolean want) {
        FigureTempers x = by("gets " + either + ";");
        one(x, 38);
        due("gets " + either, x.ofRow(0, 3) == 0, want);
    }

    /** mood of the FIGURE 3, of TEMPER 5. */
    private static void mood(String sum, int want) {
        FigureTempers x = by("mood " + sum + ";");
        due("mood " + sum, x.foretold(1, 3), want);
        x.day(1);
        due("mood " + sum + " behind a day", x.of(3, 0), want);
    }

    private static void right(String text) { fault(text, 0, -1); }

    // TEXTS, TOKENS

    static void textsAreNoughtToThree() {
        of("TEXTS: 0 .. 3");
        FigureTempers x = fresh();
        due("none", x.about(4), 0);
        for (int i = 0; i <= 3; i++) due("a text", text(x, "off " + i + ";"), i);
        due("the fifth", text(x, "off 4;"), -1);
        due("texts", x.about(4), 4);
        due("the last one", x.by(3), true);
        due("one beyond", x.by(4), false);
        due("the tape stays", x.about(8), 6);
    }

    static void threeHundredBytes() {
        of("TEXTS: of up to 300 bytes");
        right("off 7" + times(" ", 294) + ";");
        right(times("\n", 300));
        right("off " + times("0", 295) + ";");
        right("off " + times("1+", 147) + "1;");
        fault("off 7" + times(" ", 295), 1, 300);
        fault("off 7;" + times(" ", 293) + "o", 1, 299);
        fault("off 7;" + times("z", 294), 1, 6);
    }

    static void noBytes() {
        of("TEXTS: of no bytes, no CLAUSES");
        FigureTempers x = fresh();
        due("empty", x.text(), 0);
        due("fault", x.fault(0), 0);
        due("played", x.played(0), -1);
        due("rules", x.by(0), true);
        one(x, 11);
        x.turn(1, 1);
        due("nothing by it", x.ofRow(0, 2), 12);
    }

    static void blanks() {
        of("TOKENS: blanks (32, 10) aside");
        right(" \n off \n\n 7 \n ; \n");
        right("off7;");
        right("off 1;day 1;reckon\n0\n;");
        for (int sign : new int[] {0, 9, 11, 12, 13, 31, 127, 160, 255}) {
            fault("off" + (char) sign + "7;", 1, 3);
            fault((char) sign + "off 7;", 1, 0);
            fault("off 7;" + (char) sign, 1, 6);
        }
    }

    static void letters() {
        of("TOKENS: letters a .. z, A .. Z one behind the other (one TOKEN)");
        fault("off aleft;", 1, 4);
        fault("off lefta;", 1, 4);
        fault("off zleft;", 1, 4);
        fault("off leftz;", 1, 4);
        fault("off Aleft;", 1, 4);
        fault("off leftZ;", 1, 4);
        fault("off LEFT;", 1, 4);
        fault("OFF left;", 1, 0);
        fault("off le ft;", 1, 4);
        fault("off leftleft;", 1, 4);
        fault("offleft;", 1, 0);
        fault("off lef;", 1, 4);
        fault("of left;", 1, 0);
        for (char sign : "@[`{".toCharArray()) fault("off left" + sign + ";", 1, 8);
    }

    static void digits() {
        of("TOKENS: digits likewise (NUMBERS)");
        right("off 0123;");
        right("off 9876;");
        fault("off 12 34;", 1, 7);
        fault("off 12left;", 1, 6);
        fault("off left12;", 1, 8);
        fault("off 1.2;", 1, 5);
        fault("off 12:;", 1, 6);
        fault("off 1" + (char) 0xb2 + ";", 1, 5);
    }

    static void signs() {
        of("TOKENS: <= >= < > = # + - * / % ( ) , ;");
        right("gets more(1+2*3/4%5,-(6))-7<8 and 1>2 and 1=2 and 1#2 and 1<=2 and 1>=2;");
        for (char sign : "!\"$&'.:?[\\]^_`{|}~@".toCharArray()) fault("off 1" + sign + "2;", 1, 5);
        for (char sign : "<>=#(),".toCharArray()) fault("off 1" + sign + ";", 1, 5);
        for (char sign : "+*/%".toCharArray()) fault("off " + sign + "1;", 1, 4);
    }

    static void theLongest() {
        of("TOKENS: (the longest)");
        gets("left<=right", true);
        gets("right>=left", true);
        fault("gets 1< =2;", 1, 8);
        fault("gets 1> =2;", 1, 8);
        fault("gets 1<\n=2;", 1, 8);
        fault("gets 1=<2;", 1, 7);
        fault("gets 1=>2;", 1, 7);
        fault("gets 1<>2;", 1, 7);
        fault("gets 1==2;", 1, 7);
        fault("gets 1<==2;", 1, 8);
        fault("gets 1##2;", 1, 7);
        fault("gets 1<", 1, 7);
        fault("off 1--", 1, 7);
        off("1--2", 3);
    }

    static void numbersOfTexts() {
        of("NUMBERS: 0 .. 9999");
        off("9999-9990", 9);
        off("0", 0);
        off("00000000000007", 7);
        off("0009999-9950", 49);
        fault("off 10000;", 2, 4);
        fault("mood 10000;", 2, 5);
        fault("gets 10000<1;", 2, 5);
        fault("gets 1<10000;", 2, 7);
        fault("off 65537;", 2, 4);
        fault("off 4294967297;", 2, 4);
        fault("off 18446744073709551617;", 2, 4);
        fault("off " + times("9", 290) + ";", 2, 4);
    }

    // CLAUSES

    static void clauses() {
        of("{CLAUSE}, 24 at most: none to 24, the 25th is FAULT 6 (at its first TOKEN)");
        right("");
        right(times("row 1;", 24));
        right("gets 1=1;off 1;mood 1;" + times("turn 1 with 1;", 19) + "row 1;day 1;");
        fault(times("row 1;", 24) + "row 1;", 6, 144);
        fault(times("row 1;", 24) + "\n row", 6, 146);
        for (String first : new String[] {"gets", "off", "mood", "row", "reckon", "turn", "soothe", "day"})
            fault(times("row 1;", 24) + first, 6, 144);
        FigureTempers x = fresh();
        text(x, times("turn 1with2;", 20) + times("row 1;", 3) + "day 9;");
        due("the 24th is played", x.played(0), -1);
        due("the 24th is played", x.about(1), 9);
    }

    static void eachLawOnce() {
        of("CLAUSES: gets, off, mood (each once); FAULT 4 for the second time (at it)");
        right("gets 1=1;off 1;mood 1;");
        right("mood 1;off 1;gets 1=1;");
        fault("gets 1=1;gets 1=1;", 4, 9);
        fault("off 1;off 1;", 4, 6);
        fault("mood 1;mood 1;", 4, 7);
        fault("mood 1;row 1;mood", 4, 13);
        fault("gets 1=1;off 1;mood 1;off 1;", 4, 22);
        right(times("row 1;", 3) + times("reckon 0;", 3) + times("turn 1 with 1;", 3) + times("soothe 1 to 2;", 3) + times("day 1;", 3));
    }

    static void rowClause() {
        of("CLAUSES: row [-] NUMBER {+ or - NUMBER} ([-]: once at most) ; (4 NUMBERS at most); FAULT 7 the 5th NUMBER");
        right("row 0;row 9999;row -0;row 1+2;row 1-2+3;row -1-2-3-4;");
        fault("row ;", 1, 4);
        fault("row --1;", 1, 5);
        fault("row - -1;", 1, 6);
        fault("row +1;", 1, 4);
        fault("row 1+;", 1, 6);
        fault("row 1--2;", 1, 6);
        fault("row 1+-2;", 1, 6);
        fault("row 1++2;", 1, 6);
        fault("row 1,2;", 1, 5);
        fault("row (1);", 1, 4);
        fault("row 1", 1, 5);
        fault("row -", 1, 5);
        fault("row 1+2+3+4+5;", 7, 12);
        fault("row -1-2-3-4-5;", 7, 13);
        fault("row 1+2+3+4+ 9999", 7, 13);
        fault("row 1+2+3+4+10000;", 2, 12);
        fault("row 1+2+3+4+;", 1, 12);
        fault("row 1+2+3+4-left;", 1, 12);
        fault("row 10000;", 2, 4);
        fault("row -10000;", 2, 5);
        fault("row 1+2+3+10000;", 2, 10);
        FigureTempers x = fresh();
        text(x, "row 9999;row -0;row 1-20+300-4000;row -1+20-300+4000;row -9999-9999-9999-9999;");
        due("played", x.played(0), -1);
        int[] sums = {9999, 0, 1 - 20 + 300 - 4000, -1 + 20 - 300 + 4000, -39996};
        int[] counts = {1, 1, 4, 4, 4};
        int[] minus = {0, 1, 10, 5, 15};
        for (int row = 0; row < 5; row++) {
            due("sum", x.ofRow(row, 1), sums[row]);
            due("how many", x.ofRow(row, 0), counts[row]);
            for (int i = 0; i < counts[row]; i++) due("sign", x.ofRow(row, 20 + i), minus[row] >> i & 1);
        }
    }

    static void reckonClause() {
        of("CLAUSES: reckon NUMBER ; (ROW 0 .. 11)");
        right("reckon 0;reckon 11;reckon 0011;");
        fault("reckon 12;", 2, 7);
        fault("reckon 10000;", 2, 7);
        fault("reckon -1;", 1, 7);
        fault("reckon;", 1, 6);
        fault("reckon 1 2;", 1, 9);
        fault("reckon day;", 1, 7);
    }

    static void turnClause() {
        of("CLAUSES: turn NUMBER with NUMBER ; (FIGURES 0 .. 9)");
        right("turn 0 with 9;turn 9 with 0;turn 9 with 9;");
        fault("turn 10 with 0;", 2, 5);
        fault("turn 0 with 10;", 2, 12);
        fault("turn 10 with 10;", 2, 5);
        fault("turn 0 to 1;", 1, 7);
        fault("turn 0 1;", 1, 7);
        fault("turn 0 with;", 1, 11);
        fault("turn 0 with 1 with 2;", 1, 14);
        fault("turn 0 with -1;", 1, 12);
    }

    static void sootheClause() {
        of("CLAUSES: soothe NUMBER to NUMBER ; (FIGURES, TEMPERS 0 .. 9)");
        right("soothe 0 to 9;soothe 9 to 0;soothe 5 to 5;");
        fault("soothe 10 to 0;", 2, 7);
        fault("soothe 0 to 10;", 2, 12);
        fault("soothe 0 with 1;", 1, 9);
        fault("soothe 0 to;", 1, 11);
        fault("soothe to 1;", 1, 7);
    }

    static void dayClause() {
        of("CLAUSES: day NUMBER ; (so many: DAYS 1 .. 60)");
        right("day 1;day 60;day 0060;");
        fault("day 0;", 2, 4);
        fault("day 000;", 2, 4);
        fault("day 61;", 2, 4);
        fault("day 10000;", 2, 4);
        fault("day -1;", 1, 4);
        fault("day day;", 1, 4);
        fault("day;", 1, 3);
    }

    static void whatNoClauseBeginsWith() {
        of("CLAUSES: what none begins with is FAULT 1");
        for (String s : new String[] {"with", "to", "or", "and", "not", "more", "less", "left", "right", "warm", "cool", "often",
            "apart", "last", "bad", "figure", "temper", "used", "rows", "x", "1", "10000", ";", "(", ")", ",", "<", "<=", "-"}) {
            fault(s, 1, 0);
            fault("row 1; " + s + " 1;", 1, 7);
        }
        fault("off 1;;", 1, 6);
    }

    // EITHER, BOTH, ASK

    static void eitherAndBoth() {
        of("EITHER: BOTH {or BOTH}; BOTH: ASK {and ASK}");
        gets("1=1", true);
        gets("1=2 or 1=2", false);
        gets("1=2 or 1=1", true);
        gets("1=1 or 1=2", true);
        gets("1=1 and 1=1", true);
        gets("1=1 and 1=2", false);
        gets("1=2 and 1=1", false);
        gets("1=1 or 1=1 and 1=2", true);
        gets("1=2 and 1=2 or 1=1", true);
        gets("1=2 and 1=1 or 1=1 and 1=2 or 1=2", false);
        gets("1=1 and 1=1 and 1=1 and 1=1 or 1=2", true);
        gets("1=2" + times(" or 1=2", 40) + " or 1=1", true);
        gets("1=1" + times(" and 1=1", 30) + " and 1=2", false);
        fault("gets;", 1, 4);
        fault("gets or 1=1;", 1, 5);
        fault("gets 1=1 or;", 1, 11);
        fault("gets 1=1 and or 1=1;", 1, 13);
        fault("gets 1=1 or or 1=1;", 1, 12);
        fault("gets 1=1 1=1;", 1, 9);
        fault("gets (1=1 or 1=1);", 1, 7);
        fault("gets (1=1) or 1=1;", 1, 7);
    }

    static void asks() {
        of("ASK: not ASK, or SUM one of < <= > >= = # SUM");
        String[] how = {"<", "<=", ">", ">=", "=", "#"};
        boolean[] below = {true, true, false, false, false, true};
        boolean[] like = {false, true, false, true, true, false};
        boolean[] above = {false, false, true, true, false, true};
        for (int i = 0; i < 6; i++) {
            gets("left" + how[i] + "4", below[i]);
            gets("left" + how[i] + "3", like[i]);
            gets("left" + how[i] + "2", above[i]);
            gets("-left" + how[i] + "-2", below[i]);
            gets("not left" + how[i] + "3", !like[i]);
            gets("1000*1000" + how[i] + "9999*9999", like[i]);
            gets("-9999*9999" + how[i] + "-1000*1000", like[i]);
            gets("999*1001" + how[i] + "1000*1000", below[i]);
        }
        gets("left#1+2", false);
        gets("left=2*right-13", true);
        gets("1+2#left", false);
        gets("left-3#right-8", false);
        gets("left+right>10 and 2+left#5", false);
        gets("not not 1=1", true);
        gets("not not not 1=1", false);
        gets("not 1=2 and 1=2", false);
        gets("not 1=1 or 1=1", true);
        fault("gets not;", 1, 8);
        fault("gets 1;", 1, 6);
        fault("gets 1 not=2;", 1, 7);
        fault("gets 1=not 1=1;", 1, 7);
        fault("gets not 1;", 1, 10);
        fault("gets not (1=1);", 1, 11);
        fault("gets 1=1=1;", 1, 8);
        fault("gets 1<2<3;", 1, 8);
        fault("gets =1;", 1, 5);
        fault("gets 1=;", 1, 7);
    }

    // SUM, PRODUCT, ONE

    static void fromTheLeft() {
        of("SUM, PRODUCT: from the left");
        off("50-20-10", 20);
        off("50-20+10", 40);
        off("96/4/3", 8);
        off("96/4*3", 72);
        off("50%30%7", 6);
        off("2+3*4", 14);
        off("3*4+2", 14);
        off("20-2*3*2-1", 7);
        off("7*9/2%4", 3);
    }

    static void cutsTowardsNought() {
        of("SUM: / cuts towards 0, by 0 it is 0");
        off("7/2", 3);
        off("-7/2", -3);
        off("7/-2", -3);
        off("-7/-2", 3);
        off("1/2", 0);
        off("-1/2", 0);
        off("0/5", 0);
        off("7/0", 0);
        off("-7/0", 0);
        off("0/0", 0);
        off("7/(left-3)+1", 1);
        off("9999*9999/0+2", 2);
    }

    static void whatIsLeft() {
        of("SUM: % is what is left by / (with the sign of the first), by 0 it is 0");
        off("7%4", 3);
        off("-7%4", -3);
        off("7%-4", 3);
        off("-7%-4", -3);
        off("8%4", 0);
        off("-8%4", 0);
        off("3%4", 3);
        off("7%1", 0);
        off("7%0", 0);
        off("-7%0", 0);
        off("0%0", 0);
        off("7%(left-3)+1", 1);
    }

    static void millionAtEachStep() {
        of("SUM: what is above 1000000 (below the same less) is that, at each step");
        // 9999*100 is 999900: what is left tells the bound
        off("1000*1000-9999*100-50", 50);
        off("1001*1000-9999*100-50", 50);
        off("9999*9999-9999*100-50", 50);
        off("1000*1000+1-9999*100-50", 50);
        off("1000*1000+1-1-9999*100-50", 49);
        off("999*1001-9999*100-50", 49);
        off("999*1001+1-9999*100-50", 50);
        off("999*1001+2-9999*100-50", 50);
        off("0-1000*1000+9999*100+50", -50);
        off("-1001*1000+9999*100+50", -50);
        off("-9999*9999+9999*100+50", -50);
        off("-1000*1000-1+9999*100+50", -50);
        off("-1000*1000-1+1+9999*100+50", -49);
        off("-999*1001-1+9999*100+50", -50);
        off("-999*1001-2+9999*100+50", -50);
        off("9999*9999*9999/9999/2", 50);
        off("9999*-9999*9999/9999/2", -50);
        off("-9999*9999*-9999*9999/9999/2", 50);
        off("9999*9999+9999*9999-9999*100-50", 50);
        off("-9999*9999-9999*9999+9999*100+50", -50);
        off("-(9999*9999)+9999*100+50", -50);
        off("more(9999*9999,0)-9999*100-50", 50);
        off("-1000*1000+-1+9999*100+50", -50);
        off("-999*1001+-1+9999*100+50", -50);
        off("-999*1001+-2+9999*100+50", -50);
        off("1000*1000--1-9999*100-50", 50);
        off("999*1001--1-9999*100-50", 50);
        off("999*1001--2-9999*100-50", 50);
        off("9999*9999%999-1", 0);
        off("(9999*9999)*(9999*9999)-9999*100-50", 50);
        off("-9999*9999*(9999*9999)+9999*100+50", -50);
        off("(9999*9999)*(-9999*9999)+9999*100+50", -50);
        off("(-9999*9999)*(-9999*9999)-9999*100-50", 50);
        off("9999*9999*5000-9999*100-50", 50);
        off("-9999*9999*5000+9999*100+50", -50);
        // below a million nothing is cut
        off("9999*7*1-9999*7+3", 3);
        off("9999*100*1-9999*100+3", 3);
        off("9999*100/9999", 99);
        off("9999*16*6-9999*96+3", 3);
        off("-9999*16*6+9999*96+3", 3);
        off("9999*9999/-1+9999*100+50", -50);
    }

    static void ones() {
        of("ONE: NUMBER, NAME, ( SUM ), - ONE, more, less");
        off("left", 3);
        off("(right)", 8);
        off("-left", -3);
        off("--left", 3);
        off("-(left-right)", 5);
        off("-left*right", -24);
        off("left*-right", -24);
        off("left--right", 11);
        off("(left+1)*(right-1)", 28);
        fault("off ();", 1, 5);
        fault("off (1;", 1, 6);
        fault("off 1);", 1, 5);
        fault("off (1", 1, 6);
        fault("off -;", 1, 5);
        fault("off (1)(2);", 1, 7);
        fault("off 1(2);", 1, 5);
        fault("off left right;", 1, 9);
        fault("off not 1;", 1, 4);
        fault("mood not 1=1;", 1, 5);
    }

    static void moreAndLess() {
        of("ONE: more ( SUM , SUM ), less ( SUM , SUM ) (the greater, the lesser of both)");
        off("more(3,4)", 4);
        off("more(4,3)", 4);
        off("more(4,4)", 4);
        off("more(-3,-4)", -3);
        off("more(-1,0)", 0);
        off("less(3,4)", 3);
        off("less(4,3)", 3);
        off("less(4,4)", 4);
        off("less(-3,-4)", -4);
        off("less(-1,0)", -1);
        off("more(less(left,right),less(right,4))", 4);
        off("more(1+2*3,2)-less(1+2*3,2)", 5);
        off("less(9999*9999,1000*1000)-9999*100-50", 50);
        off("-more(2,3)*2", -6);
        fault("off more;", 1, 8);
        fault("off more 1,2;", 1, 9);
        fault("off more(1);", 1, 10);
        fault("off more(1;", 1, 10);
        fault("off more(1,;", 1, 11);
        fault("off more(,1);", 1, 9);
        fault("off more(1,2;", 1, 12);
        fault("off more(1,2,3);", 1, 12);
        fault("off more((1,2));", 1, 11);
        fault("off more((1),(2);", 1, 16);
        fault("off (1,2);", 1, 6);
        fault("off 1,2;", 1, 5);
        fault("off less();", 1, 9);
        fault("gets more(1=1,2)=1;", 1, 11);
    }

    // NAMES

    static void namesOfEachLaw() {
        of("NAMES: day in all; nine in gets, off; five in mood; FAULT 5 a NAME that isn't of that CLAUSE (at it)");
        String[] ofTwo = {"left", "right", "warm", "cool", "often", "apart", "last", "bad"};
        String[] ofOne = {"figure", "temper", "used", "rows"};
        for (String name : ofTwo) {
            right("gets " + name + "=" + name + ";off 1+" + name + ";");
            fault("mood " + name + ";", 5, 5);
            fault("mood 1+-(2*" + name + ");", 5, 11);
        }
        for (String name : ofOne) {
            right("mood " + name + "*" + name + ";");
            fault("off " + name + ";", 5, 4);
            fault("gets " + name + "=1;", 5, 5);
            fault("gets not 1=" + name + ";", 5, 11);
        }
        right("gets day=day;off day;mood day;");
        for (String name : new String[] {"left", "rows", "day"}) {
            fault("row " + name + ";", 1, 4);
            fault("turn 1 with " + name + ";", 1, 12);
            fault("off 1 " + name + ";", 1, 6);
        }
        fault("mood row;", 1, 5);
        fault("off reckon;", 1, 4);
    }

    static void namesOfTwo() {
        of("NAMES: left, right, warm, cool, often, apart, last, bad, day");
        FigureTempers x = by("gets 1=2;off left*10+right-38;");
        one(x, 38);
        x.row(3, 8, -1, -1, 0);
        due("left, right", x.ofRow(0, 2), 38);
        rule(x, "gets 1=2;off warm*10+cool-90;");
        x.soothe(3, 9);
        x.soothe(8, 0);
        due("warm, cool", x.ofRow(0, 2), 38);
        rule(x, "gets 1=2;off often+20*bad+day;");
        due("none used, not bad, DAY 0", x.ofRow(0, 2), 38);
        x.turn(8, 3);
        due("bad", x.ofRow(0, 2), 58);
        x.reckon(0);
        due("used once each", x.ofRow(0, 2), 60);
        x.day(1);
        due("used three times each, DAY 1", x.ofRow(0, 2), 38 + 6 + 20 + 1);
        rule(x, "gets 1=2;off apart*10+last;");
        due("not apart, last", x.ofRow(0, 2), 39);
        due("apart, last", x.ofRow(1, 2), 11 + 11);
        one(x, 333);
        x.row(3, 83, -1, -1, 0);
        due("not last, last", x.ofRow(2, 2), 334);
        due("apart, not last; last", x.ofRow(3, 2), 86 + 11);
    }

    static void oftenOfOneFigure() {
        of("NAMES: often (USED of both together), of one FIGURE beside itself");
        FigureTempers x = by("gets 1=2;off often;");
        one(x, 33);
        x.reckon(0);
        due("twice two", x.ofRow(0, 2), 37);
    }

    static void dayInAll() {
        of("NAMES: day in all: 0 to 999, and what is FORETOLD beyond");
        FigureTempers x = by("gets day<999;off day-949;mood day-990;");
        one(x, 12);
        until(x, 998);
        due("gets on 998", x.ofRow(0, 3), 0);
        x.day(1);
        due("mood of 998", x.of(4, 0), 8);
        due("gets, off of 999", x.ofRow(0, 2), 12 + 50);
        due("mood of 999", x.foretold(1, 4), 9);
        due("off of 1000", x.foretold(2, -1), x.about(2) + 62 + 63);
    }

    static void namesOfOne() {
        of("NAMES: figure, temper, used, rows (its QUARRELS) in mood");
        mood("figure", 3);
        mood("temper", 5);
        mood("used+1", 1);
        mood("rows+2", 2);
        mood("day+4", 4);
        FigureTempers x = by("mood used*2-rows+figure-3;");
        one(x, 333);
        one(x, 9);
        x.turn(3, 3);
        due("of the DAY that passes too", x.foretold(1, 3), 2);
        due("of the other", x.foretold(1, 9), 8);
        due("of one that isn't used", x.foretold(1, 4), 1);
    }

    // FAULTS

    static void theFirstOfThem() {
        of("FAULTS: the first as TOKENS are come to");
        fault("off 10000 left figure;", 2, 4);
        fault("off figure+10000;", 5, 4);
        fault("off 1 10000;off", 1, 6);
        fault("day 61;row 1+1+1+1+1;", 2, 4);
        fault("row 1+1+1+1+1;day 61;", 7, 12);
        fault("off 1;off 10000;", 4, 6);
    }

    static void atItsFirstByte() {
        of("FAULTS: at the TOKEN's first byte");
        fault("off   figure;", 5, 6);
        fault("off\n\n10000;", 2, 5);
        fault("gets 1  <== 2;", 1, 10);
        fault("oops", 1, 0);
        fault("  oops", 1, 2);
    }

    static void ofTheEnd() {
        of("FAULTS: of the end at the length");
        fault("o", 1, 0);
        fault("off", 1, 3);
        fault("off ", 1, 4);
        fault("off 1", 1, 5);
        fault("off 1 \n ", 1, 8);
        fault("off more(1,", 1, 11);
        fault("gets", 1, 4);
        fault("gets 1=1", 1, 8);
        fault("gets not ", 1, 9);
        fault("row", 1, 3);
        fault("row 1+2+3+4", 1, 11);
        fault("reckon 3", 1, 8);
        fault("turn 3", 1, 6);
        fault("turn 3 with", 1, 11);
        fault("soothe 3 to 4", 1, 13);
        fault("day", 1, 3);
        right("off 1; \n ");
    }

    static void ofOneTheLeast() {
        of("FAULTS: of one TOKEN the least");
        fault("off 1 10000;", 1, 6);
        fault("off 1 figure;", 1, 6);
        fault("gets 1=1 figure;", 1, 9);
        fault(times("(", 300), 1, 0);
        fault("off ((((((((1(1;", 1, 13);
        fault("off ((((((((not 1;", 1, 12);
        fault("off ((((((((1 more(1,1);", 1, 14);
        fault("row 1+2+3+4+10000;", 2, 12);
        fault("off 1;" + times("day 1;", 23) + "off 1;", 4, 144);
        fault(times("day 1;", 24) + "left 1;", 1, 144);
        fault(times("day 1;", 24) + "10000;", 1, 144);
    }

    static void theNinthOpen() {
        of("FAULTS: 3 the 9th of (, not, more, less and - that are open around one another (at it)");
        String[] open = {"(", "-", "more(", "less(1,"};
        String[] shut = {")", "", ",1)", ")"};
        for (int i = 0; i < 4; i++) {
            right("off " + times(open[i], 8) + "1" + times(shut[i], 8) + ";");
            fault("off " + times(open[i], 9) + "1" + times(shut[i], 9) + ";", 3, 4 + 8 * open[i].length());
            right("mood " + times(open[i], 8) + "1" + times(shut[i], 8) + ";");
            right("gets 1=" + times(open[i], 8) + "1" + times(shut[i], 8) + ";");
            fault("gets 1=" + times(open[i], 9) + "1;", 3, 7 + 8 * open[i].length());
            fault("gets not 1=" + times(open[i], 8) + "1;", 3, 11 + 7 * open[i].length());
        }
        right("gets " + times("not ", 8) + "1=1;");
        fault("gets " + times("not ", 9) + "1=1;", 3, 37);
        right("gets not not (((more(-(1),1)+1)))=1;");
        fault("gets not not (((more(-((1)),1)+1)))=1;", 3, 23);
        right("gets not not (((more(1,-(1))+1)))=1;");
        fault("gets not not (((more(1,-(-1))+1)))=1;", 3, 25);
        fault("off " + times("(", 8) + "(", 3, 12);
        fault("off " + times("(", 8) + "-", 3, 12);
        fault("off " + times("-", 8) + "less", 3, 12);
    }

    static void whatIsOpenNoMore() {
        of("FAULTS: 3 counts those that are open around one another alone");
        String eight = times("(", 8) + "1" + times(")", 8);
        right("off " + eight + "+" + eight + "*" + eight + ";");
        right("off more(" + times("(", 7) + "1" + times(")", 7) + "," + times("(", 7) + "1" + times(")", 7) + ");");
        fault("off more(1," + times("(", 8) + "1" + times(")", 8) + ");", 3, 18);
        right("off " + times("-", 8) + "1-" + times("-", 8) + "1*" + times("-", 8) + "1;");
        right("off " + times("-", 7) + "(1)+" + eight + ";");
        right("off 1" + times("-1", 20) + ";");
        right("gets " + times("not ", 8) + "1=1 and " + times("not ", 8) + "1=1 or " + times("not ", 8) + "1=1;");
        right("gets not " + times("(", 7) + "1" + times(")", 7) + "=" + times("(", 7) + "1" + times(")", 7) + ";");
        fault("gets not 1=" + eight + ";", 3, 18);
        right("gets not 1=1 and 1=" + eight + ";");
        right("off " + times("-", 8) + "1;mood " + times("-", 8) + "1;");
    }

    static void whatIsOpenNoMoreIsOpenAnew() {
        of("FAULTS: 3: behind those that are open no more it is the 9th again");
        String nine = times("(", 9);
        fault("off 1+" + nine, 3, 14);
        fault("off 1*2-3/4%5+" + nine, 3, 22);
        fault("off (1)+" + nine, 3, 16);
        fault("off -1+" + nine, 3, 15);
        fault("off --1*" + nine, 3, 16);
        fault("off more(1,2)+" + nine, 3, 22);
        fault("off less(-1,-2)*" + nine, 3, 24);
        fault("off (-1)-" + nine, 3, 17);
        fault("gets 1=" + nine, 3, 15);
        fault("gets 1=1 or 2#" + nine, 3, 22);
        fault("gets not 1=1 and not not " + nine, 3, 31);
        fault("gets not 1=-1 or 1=" + nine, 3, 27);
        fault("off -1;mood " + nine, 3, 20);
    }

    static void theBracketOfMore() {
        of("FAULTS: 3: the ( of more, less is no other one");
        right("off " + times("more(1,", 8) + "1" + times(")", 8) + ";");
        right("off " + times("less(1,", 7) + "(1)" + times(")", 7) + ";");
        fault("off " + times("less(1,", 8) + "(1)" + times(")", 8) + ";", 3, 60);
        right("off more ( (1) , 1 ) ;");
    }

    static void aFaultLeavesNothing() {
        of("FAULTS: of a TEXT that has one nothing stays: the next one is read as the first");
        FigureTempers x = fresh();
        String[] wrong = {"row 1;row 2;oops", "off ((((((((1", "off --------", "gets not not not 1=", "gets more(1,(", "gets 1=1;off 2;mood 3;gets",
            times("row 1;", 24) + "row", "off " + times("1+", 147), "mood " + times("1+", 147), "off 1;day 1;turn 1with1;mood left;"};
        for (String text : wrong) due("a FAULT in " + text, text(x, text), -1);
        due("right", text(x, "gets 1=2 or not 1=1;off ((((((((left))))))))*10;mood --------3;row 7;"), 0);
        due("no FAULT", x.fault(0), 0);
        due("played", x.played(0), -1);
        due("rows", x.about(0), 1);
        due("day", x.about(1), 0);
        due("steps", x.about(6), 0);
        x.by(0);
        one(x, 38);
        due("off", x.ofRow(1, 2), 68);
        due("mood", x.foretold(1, 0), 3);
        due("a FAULT", text(x, "off 1;gets 1=2;row 1"), -1);
        due("right", text(x, "off 2;"), 1);
        x.by(1);
        due("no gets of it", x.ofRow(1, 3), 0);
        x.turn(3, 8);
        due("its off", x.ofRow(1, 2), 40);
        due("no row of it", x.played(1), -1);
        due("rows", x.about(0), 2);
        for (String text : wrong) due("a FAULT again", text(x, text), -1);
        due("right: as long as can be", text(x, "off " + times("1+", 147) + "1;"), 2);
        x.by(2);
        due("148 is 99", x.ofRow(1, 2), 38 + 99);
    }

    // THE TEXT

    static void noTextAtFirst() {
        of("THE TEXT: at first none");
        FigureTempers x = fresh();
        due("the text", x.about(5), -1);
        text(x, "gets 1=2;off 9;mood 9;");
        one(x, 12);
        due("still none", x.about(5), -1);
        due("nothing by it", x.ofRow(0, 2), 12);
        due("nothing by it", x.foretold(1, 1), 5);
    }

    static void withoutGets() {
        of("THE TEXT: gets without: if TERMS aren't bad");
        FigureTempers x = by("off 7;mood 1;");
        one(x, 12);
        due("not bad", x.ofRow(0, 2), 12);
        x.turn(1, 2);
        due("bad", x.ofRow(0, 2), 19);
        x.by(-1);
        due("no text at all", x.ofRow(0, 2), 13);
    }

    static void withoutOff() {
        of("THE TEXT: off without: 1");
        FigureTempers x = by("gets 1=2;");
        one(x, 1234);
        due("three", x.ofRow(0, 2), 1237);
        x.by(-1);
        x.turn(1, 2);
        due("no text at all", x.ofRow(0, 2), 1235);
    }

    static void withoutMood() {
        of("THE TEXT: mood without: TEMPER");
        FigureTempers x = by("gets 1=2;off 3;");
        x.soothe(0, 0);
        x.soothe(9, 9);
        x.day(2);
        due("0", x.of(0, 0), 0);
        due("5", x.of(4, 0), 5);
        due("9", x.of(9, 0), 9);
        x.by(-1);
        x.day(1);
        due("no text at all", x.of(9, 0), 9);
    }

    static void offBounds() {
        of("THE TEXT: off: -99 at least, 99 at most");
        off("98", 98);
        off("99", 99);
        off("100", 99);
        off("9999*9999", 99);
        off("-98", -98);
        off("-99", -99);
        off("-100", -99);
        off("-9999*9999", -99);
        FigureTempers x = by("gets 1=2;off 9999;");
        one(x, 123);
        due("each of TWO, not of all together", x.ofRow(0, 2), 123 + 198);
    }

    static void moodBounds() {
        of("THE TEXT: mood: 0 at least, 9 at most");
        mood("8", 8);
        mood("9", 9);
        mood("10", 9);
        mood("9999*9999", 9);
        mood("1", 1);
        mood("0", 0);
        mood("-1", 0);
        mood("-9999*9999", 0);
    }

    // PLAYED

    static void playedNothing() {
        of("PLAYED: its CLAUSES but laws: none but laws");
        FigureTempers x = fresh();
        text(x, "gets 1=2;off 9;mood 9;");
        text(x, "");
        due("laws", x.played(0), -1);
        due("nothing", x.played(1), -1);
        due("steps", x.about(6), 0);
        due("the text", x.about(5), -1);
    }

    static void playedToTheEnd() {
        of("PLAYED: one that can't be ends it: its number among all CLAUSES (from 0); what was done stays");
        FigureTempers x = fresh();
        text(x, "reckon 0;row 1;");
        due("the first", x.played(0), 0);
        due("nothing behind it", x.about(0), 0);
        text(x, "off 1;row 1;gets 1=1;row 2;mood 1;reckon 2;row 3;");
        due("laws are counted", x.played(1), 5);
        due("what was done stays", x.about(0), 2);
        text(x, "row 3;" + times("turn 1with2;", 19) + "gets 1=1;off 1;mood 1;reckon 11;");
        due("the last of 24", x.played(2), 23);
        due("what was done stays", x.about(0), 3);
        due("what was done stays", x.of(1, 3), 4);
        due("each is a STEP", x.about(6), 19);
    }

    static void playedRowsBeyondTwelve() {
        of("PLAYED: a row that can't be: the 13th");
        FigureTempers x = fresh();
        text(x, times("row 1;", 13));
        due("the 13th", x.played(0), 12);
        due("rows", x.about(0), 12);
        due("again", x.played(0), 0);
        due("rows", x.about(0), 12);
    }

    static void playedReckon() {
        of("PLAYED: a reckon that can't be: of a ROW that isn't there (yet)");
        FigureTempers x = fresh();
        text(x, "row 5;reckon 0;reckon 1;");
        text(x, times("row 1;", 11) + "reckon 11;row 2;");
        due("row 1", x.played(0), 2);
        due("balance", x.about(2), 5);
        due("row 11 of 12", x.played(1), 12);
        due("balance", x.about(2), 6);
    }

    static void playedTurn() {
        of("PLAYED: a turn can always be, also if they aren't bad any more then");
        FigureTempers x = fresh();
        text(x, "turn 0 with 0;turn 0 with 0;turn 9 with 0;turn 0 with 9;row 1;");
        due("all", x.played(0), -1);
        due("rows", x.about(0), 1);
        due("bad", x.of(0, 3), 0);
        due("steps", x.about(6), 4);
    }

    static void playedSoothe() {
        of("PLAYED: a soothe that can't be, as by hand: if it is so already");
        FigureTempers x = fresh();
        text(x, "soothe 0 to 9;soothe 0 to 0;soothe 0 to 0;row 1;");
        due("the third", x.played(0), 2);
        due("temper", x.of(0, 0), 0);
        due("steps", x.about(6), 2);
        due("rows", x.about(0), 0);
    }

    static void playedDays() {
        of("PLAYED: of so many DAYS those that can are done");
        FigureTempers x = fresh();
        text(x, "day 60;row 1;");
        text(x, "day 1;row 1;");
        until(x, 939);
        due("just so many", x.played(0), -1);
        due("day", x.about(1), 999);
        due("row", x.about(0), 1);
        x.undo();
        due("59 too many", x.played(0), 0);
        due("the one that can is done", x.about(1), 999);
        due("nothing behind it", x.about(0), 1);
        due("one too many", x.played(1), 0);
        due("day", x.about(1), 999);
        due("each done one is a STEP", x.about(6), 30);
        x.undo();
        due("one that can", x.played(1), -1);
        due("rows", x.about(0), 2);
    }
}
