import java.util.Arrays;

/** A counting house whose figures have tempers; what each call promises stands in the document. */
public final class FigureTempers {
    public static final int NONE = -1;

    private static final int NO_SUCH = -2;
    private static final int NO_OUT = -1000000;
    private static final int NO_BALANCE = -10000000;

    private static final int FIGURES = 10;
    private static final int MOST_NUMBER = 9999;
    private static final int MOST_NUMBERS = 4;
    private static final int MOST_DIGITS = 16;
    private static final int MOST_ROWS = 12;
    private static final int MOST_TEXTS = 4;
    private static final int MOST_TAPE = 300;
    private static final int MOST_CLAUSES = 24;
    private static final int MOST_DAY = 999;
    private static final int MOST_DAYS = 60;
    private static final int MOST_AHEAD = 30;
    private static final int MOST_USED = 999;
    private static final int MOST_BALANCE = 9999999;
    private static final int MOST_OFF = 99;
    private static final int MOST_WRITTEN = 40;
    private static final int MOST_STEPS = 30;
    private static final int MOST_SEEN = 6;
    private static final int MOST_SEEN_OUT = 99999;
    private static final int BANKS = 6;
    // Above all that the least is looked for among.
    private static final int FAR = 10000000;

    // Where all that a STEP can change stands in one array, so that one copy keeps it.
    private static final int TEMPER = 0;
    private static final int USED = 10;
    private static final int QUARRELS = 20;
    private static final int BAD = 30;
    private static final int TODAY = 40;
    private static final int BALANCE = 41;
    private static final int X = 42;
    private static final int WRITTEN = 43;
    private static final int NEXT = 44;
    private static final int BOOK = 45;
    private static final int CELLS = 165;

    // How TWO stand to each other (bits), and what is answered instead of off if they get on.
    private static final int LAST = 1;
    private static final int APART = 2;
    private static final int QUIET = 1000;

    // A word's number is its place among these; each has a blank behind it.
    private static final String WORDS =
            "gets off mood row reckon turn with soothe to day or and not more less left right warm cool often apart last bad figure temper used rows ";
    private static final int WORD_GETS = 0;
    private static final int WORD_OFF = 1;
    private static final int WORD_MOOD = 2;
    private static final int WORD_ROW = 3;
    private static final int WORD_RECKON = 4;
    private static final int WORD_TURN = 5;
    private static final int WORD_WITH = 6;
    private static final int WORD_SOOTHE = 7;
    private static final int WORD_TO = 8;
    private static final int WORD_DAY = 9;
    private static final int WORD_OR = 10;
    private static final int WORD_AND = 11;
    private static final int WORD_NOT = 12;
    private static final int WORD_MORE = 13;
    private static final int WORD_LESS = 14;
    private static final int WORD_LEFT = 15;
    private static final int WORD_ROWS = 26;

    // The numbers of the NAMES; those of TWO come ahead of those of one FIGURE.
    private static final int NAME_DAY = 0;
    private static final int NAME_LEFT = 1;
    private static final int NAME_RIGHT = 2;
    private static final int NAME_WARM = 3;
    private static final int NAME_COOL = 4;
    private static final int NAME_OFTEN = 5;
    private static final int NAME_APART = 6;
    private static final int NAME_LAST = 7;
    private static final int NAME_BAD = 8;
    private static final int NAME_FIGURE = 9;
    private static final int NAME_TEMPER = 10;
    private static final int NAME_USED = 11;
    private static final int NAME_ROWS = 12;
    private static final int NAMES = 13;

    // A law is kept as it is reckoned, operands first: NUMBERS as they are, NAMES, what is done with them.
    private static final int CODE_NAME = 10000;
    private static final int DO_TIMES = 20000;
    private static final int DO_OVER = 20001;
    private static final int DO_REST = 20002;
    private static final int DO_PLUS = 20003;
    private static final int DO_MINUS = 20004;
    private static final int DO_BELOW = 20005;
    private static final int DO_AT_MOST = 20006;
    private static final int DO_ABOVE = 20007;
    private static final int DO_AT_LEAST = 20008;
    private static final int DO_LIKE = 20009;
    private static final int DO_UNLIKE = 20010;
    private static final int DO_AND = 20011;
    private static final int DO_OR = 20012;
    private static final int DO_MORE = 20013;
    private static final int DO_LESS = 20014;
    private static final int DO_NEGATE = 20015;
    private static final int DO_NOT = 20016;
    // Brackets that wait for their end: a plain one, then those of more and less in their first, second SUM.
    private static final int OPEN_PLAIN = 20017;
    private static final int OPEN_MORE = 20018;
    private static final int OPEN_LESS = 20019;
    private static final int OPEN_MORE_SECOND = 20020;
    private static final int OPEN_LESS_SECOND = 20021;

    private final House house;
    private final Steps steps;
    private final Reader reader;
    private final Text[] texts;
    private final Search search;
    private final Fitting fitting;
    private final Banks banks;
    private final Image kept;
    private int told;
    private int ruling;

    public FigureTempers() {
        house = new House();
        steps = new Steps();
        reader = new Reader();
        texts = new Text[MOST_TEXTS];
        for (int i = 0; i < MOST_TEXTS; i++) {
            texts[i] = new Text();
        }
        search = new Search(house);
        fitting = new Fitting(house);
        banks = new Banks(house.judge);
        kept = new Image();
        ruling = NONE;
        image();
    }

    public int row(int first, int second, int third, int fourth, int minus) {
        if (house.count >= MOST_ROWS || !Row.canBe(first, second, third, fourth, minus)) {
            return NONE;
        }
        Row row = house.rows[house.count];
        row.clear();
        row.put(first, (minus & 1) != 0);
        row.put(second, (minus & 2) != 0);
        row.put(third, (minus & 4) != 0);
        row.put(fourth, (minus & 8) != 0);
        house.count++;
        return house.count - 1;
    }

    public int reckon(int row) {
        if (!house.has(row)) {
            return NO_OUT;
        }
        steps.keep(house.cell);
        return house.reckonRow(row);
    }

    public int day(int n) {
        if (n < 1 || n > MOST_DAYS || house.cell[TODAY] + n > MOST_DAY) {
            return NO_BALANCE;
        }
        passDays(n);
        return house.cell[BALANCE];
    }

    /** As many of n DAYS as can be: whether these were all. */
    private boolean passDays(int n) {
        for (int i = 0; i < n; i++) {
            if (house.cell[TODAY] >= MOST_DAY) {
                return false;
            }
            steps.keep(house.cell);
            house.passDay();
        }
        return true;
    }

    public boolean turn(int one, int other) {
        if (!isFigure(one) || !isFigure(other)) {
            return false;
        }
        steps.keep(house.cell);
        return house.turnTerms(one, other);
    }

    public boolean soothe(int figure, int temper) {
        if (!isFigure(figure) || !isFigure(temper) || house.cell[TEMPER + figure] == temper) {
            return false;
        }
        steps.keep(house.cell);
        house.cell[TEMPER + figure] = temper;
        return true;
    }

    public int year(int seed, int n) {
        if (seed < 0 || seed > MOST_NUMBER || n < 1 || n > MOST_AHEAD) {
            return NONE;
        }
        steps.keep(house.cell);
        house.cell[X] = seed * 3 + 53;
        int off = 0;
        for (int i = 0; i < n; i++) {
            off += house.happen();
        }
        return off;
    }

    public int feed(int a, int b, int c, int d, int e) {
        if (reader.length + 20 > MOST_TAPE) {
            return NONE;
        }
        reader.take(a);
        reader.take(b);
        reader.take(c);
        reader.take(d);
        reader.take(e);
        return reader.length;
    }

    public int end(int n) {
        if (n < 0 || n > reader.length) {
            return NONE;
        }
        reader.length = n;
        return n;
    }

    public int text() {
        if (told >= MOST_TEXTS) {
            return NONE;
        }
        if (!reader.read(texts[told])) {
            return NONE;
        }
        told++;
        return told - 1;
    }

    public int fault(int what) {
        if (!reader.hasRead) {
            return NONE;
        }
        switch (what) {
            case 0: return reader.wrong;
            case 1: return reader.place;
            default: return NONE;
        }
    }

    public boolean by(int text) {
        if (text != NONE && (text < 0 || text >= told)) {
            return false;
        }
        ruleBy(text);
        return true;
    }

    private void ruleBy(int text) {
        ruling = text;
        house.judge.law = text < 0 || text >= MOST_TEXTS ? null : texts[text];
    }

    public int played(int text) {
        if (text < 0 || text >= told) {
            return NO_SUCH;
        }
        Text script = texts[text];
        for (int i = 0; i < script.clauses; i++) {
            int a = script.part(i, 1);
            int b = script.part(i, 2);
            boolean done = true;
            switch (script.part(i, 0)) {
                case WORD_ROW:
                    done = row(a, b, script.part(i, 3), script.part(i, 4), script.part(i, 5)) != NONE;
                    break;
                case WORD_RECKON: done = reckon(a) != NO_OUT; break;
                case WORD_TURN: turn(a, b); break;
                case WORD_SOOTHE: done = soothe(a, b); break;
                case WORD_DAY: done = passDays(a); break;
                default: break;
            }
            if (!done) {
                return i;
            }
        }
        return NONE;
    }

    public int undo() {
        return steps.takeBack(house.cell) ? steps.count : NONE;
    }

    public int of(int figure, int what) {
        if (!isFigure(figure)) {
            return NONE;
        }
        switch (what) {
            case 0: return house.cell[TEMPER + figure];
            case 1: return house.cell[USED + figure];
            case 2: return house.cell[QUARRELS + figure];
            case 3: return house.cell[BAD + figure];
            default: return NONE;
        }
    }

    public int ofRow(int row, int what) {
        if (!house.has(row)) {
            return NO_OUT;
        }
        Row asked = house.rows[row];
        if (what >= 10 && what < 10 + asked.count) {
            return asked.number[what - 10];
        }
        if (what >= 20 && what < 20 + asked.count) {
            return asked.minus >> what - 20 & 1;
        }
        house.judge.fresh();
        switch (what) {
            case 0: return asked.count;
            case 1: return asked.sum;
            case 2: return asked.sum + house.judge.offOf(asked);
            case 3: return house.judge.quarrelsIn(asked);
            case 4: return asked.digits;
            default: return NO_OUT;
        }
    }

    public int beside(int row, int i) {
        if (!house.has(row)) {
            return NONE;
        }
        Row asked = house.rows[row];
        if (i < 0 || i >= asked.digits - 1) {
            return NONE;
        }
        house.judge.fresh();
        int left = asked.digit[i];
        int right = asked.digit[i + 1];
        int quarrel = house.judge.two(left, right, asked.kind[i + 1]) == QUIET ? 0 : 100;
        return quarrel + 10 * left + right;
    }

    public int book(int i, int what) {
        int written = house.cell[WRITTEN];
        if (i == NONE) {
            return written;
        }
        if (i < 0 || i >= written || what < 0 || what > 2) {
            return NO_OUT;
        }
        int place = Math.floorMod(house.cell[NEXT] - written + i, MOST_WRITTEN);
        return house.cell[BOOK + 3 * place + what];
    }

    public int foretold(int n, int figure) {
        if (n < 1 || n > MOST_AHEAD || figure != NONE && !isFigure(figure)) {
            return NO_BALANCE;
        }
        house.save();
        for (int i = 0; i < n; i++) {
            house.passDay();
        }
        int answer = house.cell[figure == NONE ? BALANCE : TEMPER + figure];
        house.restore();
        return answer;
    }

    public int firstOff(int n, int row) {
        if (n < 1 || n > MOST_AHEAD || !house.has(row)) {
            return NONE;
        }
        int answer = NONE;
        house.save();
        for (int i = 1; i <= n && answer == NONE; i++) {
            if ((house.passDay() >> row & 1) == 1) {
                answer = i;
            }
        }
        house.restore();
        return answer;
    }

    public int ordered(int row, int i) {
        if (!house.has(row)) {
            return NONE;
        }
        int count = house.rows[row].count;
        if (i < NONE || i >= count) {
            return NONE;
        }
        int best = search.bestOrder(house.rows[row]);
        if (best == NONE) {
            return NONE;
        }
        return i == NONE ? Search.sidesChanged(best, count) : best >> 2 * (count - 1 - i) & 3;
    }

    public int split(int number, int i) {
        if (number < 1 || number > 99 || i < NONE || i > 2) {
            return NONE;
        }
        int best = search.bestSplit(number);
        if (best == NONE) {
            return NONE;
        }
        int second = best / 100 % 100;
        int third = best % 100;
        if (i == NONE) {
            return third > 0 ? 3 : second > 0 ? 2 : 1;
        }
        int part = i == 0 ? best / 10000 : i == 1 ? second : third;
        return part > 0 ? part : NONE;
    }

    public int nearest(int number) {
        return isNumber(number) ? search.nearestTo(number) : NONE;
    }

    public int changed(int row, int what) {
        if (!house.has(row) || what < 0 || what > 1) {
            return NONE;
        }
        int best = search.bestChange(house.rows[row]);
        if (best == NONE) {
            return NONE;
        }
        return what == 0 ? best / 10000 : best % 10000;
    }

    public int seen(int row, int out) {
        if (row == NONE) {
            fitting.seen = 0;
            return 0;
        }
        if (!house.has(row) || out < -MOST_SEEN_OUT || out > MOST_SEEN_OUT || fitting.seen >= MOST_SEEN) {
            return NO_SUCH;
        }
        fitting.seenRow[fitting.seen] = row;
        fitting.seenOut[fitting.seen] = out;
        fitting.seen++;
        return fitting.seen;
    }

    public int fits(int figures, int i, int figure) {
        if (!isSet(figures, 3) || i < NONE) {
            return NONE;
        }
        if (i != NONE && (!isFigure(figure) || (figures >> figure & 1) == 0)) {
            return NONE;
        }
        int fit = fitting.find(figures);
        if (i == NONE) {
            return fit;
        }
        return i < fit ? fitting.temperIn(i, figure) : NONE;
    }

    public int tells(int figures) {
        if (!isSet(figures, 3) || house.count == 0 || fitting.find(figures) == 0) {
            return NONE;
        }
        return fitting.tellsMost();
    }

    public int ledger(int rows, int i) {
        int size = Integer.bitCount(rows);
        if (rows <= 0 || rows >= 1 << house.count || size > 5 || i < NONE || i >= size) {
            return NONE;
        }
        return search.bestLedger(rows, i);
    }

    public int order(int m) {
        return m < 1 || m > 100 ? NONE : search.leastOrder(m);
    }

    public int grouping(int m) {
        return m < 1 || m > 12 ? NONE : search.leastGrouping(m);
    }

    public int carried(int one, int other, boolean gossip) {
        if (!isNumber(one) || !isNumber(other)) {
            return NONE;
        }
        return search.carriedOn(one, other, gossip);
    }

    public int game(int figures, boolean first) {
        if (!isSet(figures, 6)) {
            return NO_SUCH;
        }
        int best = search.bestBeginning(figures);
        if (first) {
            return best;
        }
        return best == NONE ? 0 : 1;
    }

    public boolean debt(int from, int to, int number) {
        if (!isBank(from) || !isBank(to) || from == to || !isNumber(number)) {
            return false;
        }
        banks.debt[from * BANKS + to] = number;
        return true;
    }

    public int worth(int bank) {
        return isBank(bank) ? banks.worthOf(bank) : NO_OUT;
    }

    public int ring(int i) {
        if (i < -2 || i >= BANKS) {
            return NONE;
        }
        int size = banks.shortestRing();
        if (size == 0) {
            return NONE;
        }
        if (i == NONE) {
            return size;
        }
        if (i == -2) {
            return banks.leastAround(size);
        }
        return i < size ? banks.path[i] : NONE;
    }

    public int image() {
        System.arraycopy(house.cell, 0, kept.cell, 0, CELLS);
        kept.steps.copy(steps);
        System.arraycopy(fitting.seenRow, 0, kept.seenRow, 0, MOST_SEEN);
        System.arraycopy(fitting.seenOut, 0, kept.seenOut, 0, MOST_SEEN);
        System.arraycopy(banks.debt, 0, kept.debt, 0, BANKS * BANKS);
        kept.seen = fitting.seen;
        kept.rows = house.count;
        kept.texts = told;
        kept.ruling = ruling;
        return house.cell[TODAY];
    }

    public int back() {
        System.arraycopy(kept.cell, 0, house.cell, 0, CELLS);
        steps.copy(kept.steps);
        System.arraycopy(kept.seenRow, 0, fitting.seenRow, 0, MOST_SEEN);
        System.arraycopy(kept.seenOut, 0, fitting.seenOut, 0, MOST_SEEN);
        System.arraycopy(kept.debt, 0, banks.debt, 0, BANKS * BANKS);
        fitting.seen = kept.seen;
        house.count = kept.rows;
        told = kept.texts;
        ruleBy(kept.ruling);
        return house.cell[TODAY];
    }

    public int about(int what) {
        switch (what) {
            case 0: return house.count;
            case 1: return house.cell[TODAY];
            case 2: return house.cell[BALANCE];
            case 3: return house.cell[X];
            case 4: return told;
            case 5: return ruling;
            case 6: return steps.count;
            case 7: return fitting.seen;
            case 8: return reader.length;
            default: return NO_SUCH;
        }
    }

    private static boolean isFigure(int figure) {
        return figure >= 0 && figure < FIGURES;
    }

    private static boolean isNumber(int number) {
        return number >= 0 && number <= MOST_NUMBER;
    }

    private static boolean isBank(int bank) {
        return bank >= 0 && bank < BANKS;
    }

    private static boolean isSet(int figures, int most) {
        return figures > 0 && figures < 1 << FIGURES && Integer.bitCount(figures) <= most;
    }

    /** A ROW and how it is WRITTEN. */
    private static final class Row {
        final int[] number = new int[MOST_NUMBERS];
        final int[] digit = new int[MOST_DIGITS];
        /** How the digit stands to the one ahead of it. */
        final int[] kind = new int[MOST_DIGITS];
        int count;
        int digits;
        int minus;
        int sum;

        static boolean canBe(int first, int second, int third, int fourth, int minus) {
            if (!isNumber(first)) {
                return false;
            }
            int there = 1;
            there += second == NONE ? 0 : 1;
            there += third == NONE ? 0 : 1;
            there += fourth == NONE ? 0 : 1;
            boolean inOrder = (there < 2 || isNumber(second))
                    && (there < 3 || isNumber(third))
                    && (there < 4 || isNumber(fourth));
            return inOrder && minus >= 0 && minus < 1 << there;
        }

        void clear() {
            count = 0;
            digits = 0;
            minus = 0;
            sum = 0;
        }

        /** One NUMBER more; NONE is none. */
        void put(int value, boolean less) {
            if (!isNumber(value) || count >= MOST_NUMBERS) {
                return;
            }
            int apart = count > 0 ? APART : 0;
            for (int power = 1000; power >= 1; power /= 10) {
                if (value >= power || power == 1) {
                    digit[digits] = value / power % 10;
                    kind[digits] = power == 1 ? apart | LAST : apart;
                    apart = 0;
                    digits++;
                }
            }
            number[count] = value;
            minus |= less ? 1 << count : 0;
            sum += less ? -value : value;
            count++;
        }
    }

    /** All that a STEP changes, and the ROWS. */
    private static final class House {
        final Judge judge = new Judge();
        final int[] cell = judge.cell;
        final Row[] rows = new Row[MOST_ROWS];
        private final int[] saved = new int[CELLS];
        int count;

        House() {
            for (int figure = 0; figure < FIGURES; figure++) {
                cell[TEMPER + figure] = 5;
            }
            cell[X] = 53;
            for (int i = 0; i < MOST_ROWS; i++) {
                rows[i] = new Row();
            }
        }

        boolean has(int row) {
            return row >= 0 && row < count;
        }

        void save() {
            System.arraycopy(cell, 0, saved, 0, CELLS);
        }

        void restore() {
            System.arraycopy(saved, 0, cell, 0, CELLS);
        }

        /** RECKONED, a ROW that there is: its OUT. */
        int reckonRow(int which) {
            Row row = rows[which];
            int out = row.sum;
            judge.fresh();
            for (int i = 1; i < row.digits; i++) {
                int left = row.digit[i - 1];
                int right = row.digit[i];
                int off = judge.two(left, right, row.kind[i]);
                if (off != QUIET) {
                    out += off;
                    cell[QUARRELS + left]++;
                    cell[QUARRELS + right]++;
                }
            }
            use(row);
            cell[BALANCE] = Math.max(-MOST_BALANCE, Math.min(MOST_BALANCE, cell[BALANCE] + out));
            writeDown(which, out);
            return out;
        }

        void use(Row row) {
            for (int i = 0; i < row.digits; i++) {
                int at = USED + row.digit[i];
                cell[at] = Math.min(MOST_USED, cell[at] + 1);
            }
        }

        private void writeDown(int which, int out) {
            int place = BOOK + 3 * cell[NEXT];
            cell[place] = which;
            cell[place + 1] = cell[TODAY];
            cell[place + 2] = out;
            cell[NEXT] = (cell[NEXT] + 1) % MOST_WRITTEN;
            cell[WRITTEN] = Math.min(MOST_WRITTEN, cell[WRITTEN] + 1);
        }

        /** A DAY: the ROWS that came out other than TRUE in it (bits). */
        int passDay() {
            int off = 0;
            for (int i = 0; i < count; i++) {
                if (reckonRow(i) != rows[i].sum) {
                    off |= 1 << i;
                }
            }
            for (int figure = 0; figure < FIGURES; figure++) {
                cell[TEMPER + figure] = judge.mood(figure);
                cell[QUARRELS + figure] = 0;
            }
            cell[TODAY]++;
            return off;
        }

        /** Whether the TERMS are bad now. */
        boolean turnTerms(int one, int other) {
            cell[BAD + one] ^= 1 << other;
            if (one != other) {
                cell[BAD + other] ^= 1 << one;
            }
            return (cell[BAD + one] >> other & 1) == 1;
        }

        /** One draw of A YEAR: how many ROWS came out other than TRUE by it. */
        int happen() {
            int what = draw(6);
            if (what == 0) {
                int one = draw(FIGURES);
                turnTerms(one, draw(FIGURES));
                return 0;
            }
            if (what == 1) {
                int figure = draw(FIGURES);
                cell[TEMPER + figure] = draw(10);
                return 0;
            }
            if (what == 2) {
                if (count == 0) {
                    return 0;
                }
                int row = draw(count);
                return reckonRow(row) == rows[row].sum ? 0 : 1;
            }
            return cell[TODAY] >= MOST_DAY ? 0 : Integer.bitCount(passDay());
        }

        private int draw(int by) {
            int drawn = by < 1 ? 0 : cell[X] % by;
            cell[X] = (cell[X] * 257 + 151) % 30241;
            return drawn;
        }
    }

    /** Says of TWO whether they get on, how far they put a ROW out, and how a TEMPER turns. */
    private static final class Judge {
        final int[] cell = new int[CELLS];
        private final int[] name = new int[NAMES];
        private final int[] stack = new int[64];
        // What was said of TWO counts as long as its round is the present one.
        private final int[] saidIn = new int[FIGURES * FIGURES * 4];
        private final int[] said = new int[FIGURES * FIGURES * 4];
        private int round;
        /** THE TEXT, null without. */
        Text law;

        /** To be called wherever anything that laws ask for may have changed. */
        void fresh() {
            round++;
        }

        /** off of TWO that QUARREL, QUIET of others. */
        int two(int left, int right, int kind) {
            int at = (left * FIGURES + right) * 4 + kind;
            if (saidIn[at] == round) {
                return said[at];
            }
            int bad = cell[BAD + left] >> right & 1;
            int answer = bad == 1 ? 1 : QUIET;
            if (law != null) {
                name[NAME_DAY] = cell[TODAY];
                name[NAME_LEFT] = left;
                name[NAME_RIGHT] = right;
                name[NAME_WARM] = cell[TEMPER + left];
                name[NAME_COOL] = cell[TEMPER + right];
                name[NAME_OFTEN] = cell[USED + left] + cell[USED + right];
                name[NAME_APART] = kind >> 1;
                name[NAME_LAST] = kind & 1;
                name[NAME_BAD] = bad;
                boolean quarrel = law.has(WORD_GETS) ? run(WORD_GETS) == 0 : bad == 1;
                answer = !quarrel ? QUIET : !law.has(WORD_OFF) ? 1
                        : Math.max(-MOST_OFF, Math.min(MOST_OFF, run(WORD_OFF)));
            }
            saidIn[at] = round;
            said[at] = answer;
            return answer;
        }

        int mood(int figure) {
            int temper = cell[TEMPER + figure];
            if (law == null || !law.has(WORD_MOOD)) {
                return temper;
            }
            name[NAME_DAY] = cell[TODAY];
            name[NAME_FIGURE] = figure;
            name[NAME_TEMPER] = temper;
            name[NAME_USED] = cell[USED + figure];
            name[NAME_ROWS] = cell[QUARRELS + figure];
            return Math.max(0, Math.min(9, run(WORD_MOOD)));
        }

        private int run(int which) {
            int top = 0;
            for (int i = law.from[which]; i < law.to[which]; i++) {
                int code = law.code[i];
                if (code < DO_TIMES) {
                    if (top < stack.length) {
                        stack[top] = code < CODE_NAME ? code : name[code - CODE_NAME];
                        top++;
                    }
                } else if (code >= DO_NEGATE) {
                    if (top > 0) {
                        stack[top - 1] = code == DO_NEGATE ? -stack[top - 1] : 1 - stack[top - 1];
                    }
                } else if (top > 1) {
                    top--;
                    stack[top - 1] = combine(code, stack[top - 1], stack[top]);
                }
            }
            return top > 0 ? stack[top - 1] : 0;
        }

        private static int combine(int code, int a, int b) {
            switch (code) {
                case DO_TIMES: return (int) Math.max(-1000000L, Math.min(1000000L, (long) a * b));
                case DO_OVER: return b == 0 ? 0 : a / b;
                case DO_REST: return b == 0 ? 0 : a % b;
                case DO_PLUS: return Math.max(-1000000, Math.min(1000000, a + b));
                case DO_MINUS: return Math.max(-1000000, Math.min(1000000, a - b));
                case DO_BELOW: return a < b ? 1 : 0;
                case DO_AT_MOST: return a <= b ? 1 : 0;
                case DO_ABOVE: return a > b ? 1 : 0;
                case DO_AT_LEAST: return a >= b ? 1 : 0;
                case DO_LIKE: return a == b ? 1 : 0;
                case DO_UNLIKE: return a != b ? 1 : 0;
                case DO_AND: return a & b;
                case DO_OR: return a | b;
                case DO_MORE: return Math.max(a, b);
                default: return Math.min(a, b);
            }
        }

        /** off of all that QUARREL in a ROW. */
        int offOf(Row row) {
            int sum = 0;
            for (int i = 1; i < row.digits; i++) {
                int off = two(row.digit[i - 1], row.digit[i], row.kind[i]);
                sum += off == QUIET ? 0 : off;
            }
            return sum;
        }

        int quarrelsIn(Row row) {
            int quarrels = 0;
            for (int i = 1; i < row.digits; i++) {
                quarrels += two(row.digit[i - 1], row.digit[i], row.kind[i]) == QUIET ? 0 : 1;
            }
            return quarrels;
        }

        /** off of all that QUARREL within one NUMBER. */
        int within(int number) {
            int sum = 0;
            int kind = LAST;
            for (int rest = number; rest >= 10; rest /= 10) {
                int off = two(rest / 10 % 10, rest % 10, kind);
                sum += off == QUIET ? 0 : off;
                kind = 0;
            }
            return sum;
        }

        /** off of the TWO that are APART, of two NUMBERS. */
        int between(int number, int next) {
            int first = next;
            for (int rest = next; rest > 0; rest /= 10) {
                first = rest;
            }
            int off = two(number % 10, first, next < 10 ? APART | LAST : APART);
            return off == QUIET ? 0 : off;
        }

        /** Whether none QUARREL within one NUMBER. */
        boolean isQuiet(int number) {
            int kind = LAST;
            for (int rest = number; rest >= 10; rest /= 10) {
                if (two(rest / 10 % 10, rest % 10, kind) != QUIET) {
                    return false;
                }
                kind = 0;
            }
            return true;
        }
    }

    /** The latest STEPS, each by what was ahead of it. */
    private static final class Steps {
        private final int[][] ahead = new int[MOST_STEPS][CELLS];
        private int next;
        int count;

        void keep(int[] cell) {
            System.arraycopy(cell, 0, ahead[next], 0, CELLS);
            next = (next + 1) % MOST_STEPS;
            count = Math.min(MOST_STEPS, count + 1);
        }

        boolean takeBack(int[] cell) {
            if (count == 0) {
                return false;
            }
            next = (next + MOST_STEPS - 1) % MOST_STEPS;
            count--;
            System.arraycopy(ahead[next], 0, cell, 0, CELLS);
            return true;
        }

        void copy(Steps other) {
            next = other.next;
            count = other.count;
            for (int i = 1; i <= count; i++) {
                int at = (next + MOST_STEPS - i) % MOST_STEPS;
                System.arraycopy(other.ahead[at], 0, ahead[at], 0, CELLS);
            }
        }
    }

    /** What an IMAGE keeps; of ROWS and TEXTS their count, as those that stay are never changed. */
    private static final class Image {
        final int[] cell = new int[CELLS];
        final Steps steps = new Steps();
        final int[] seenRow = new int[MOST_SEEN];
        final int[] seenOut = new int[MOST_SEEN];
        final int[] debt = new int[BANKS * BANKS];
        int seen;
        int rows;
        int texts;
        int ruling;
    }

    /** A TEXT as it was read: its laws as code, its CLAUSES as six parts each. */
    private static final class Text {
        private static final int PARTS = 6;
        final int[] code = new int[MOST_TAPE];
        final int[] from = new int[3];
        final int[] to = new int[3];
        private final int[] parts = new int[MOST_CLAUSES * PARTS];
        int size;
        int clauses;

        void clear() {
            size = 0;
            clauses = 0;
            Arrays.fill(from, 0);
            Arrays.fill(to, 0);
        }

        boolean has(int law) {
            return to[law] > from[law];
        }

        void emit(int what) {
            if (size < code.length) {
                code[size] = what;
                size++;
            }
        }

        void begin(int kind) {
            if (clauses < MOST_CLAUSES) {
                clauses++;
                put(0, kind);
                for (int i = 1; i < PARTS; i++) {
                    put(i, NONE);
                }
            }
        }

        /** A part of the CLAUSE that was begun last. */
        void put(int part, int value) {
            int at = (clauses - 1) * PARTS + part;
            if (part >= 0 && part < PARTS && at >= 0 && at < parts.length) {
                parts[at] = value;
            }
        }

        int part(int clause, int part) {
            int at = clause * PARTS + part;
            return at >= 0 && at < parts.length ? parts[at] : NONE;
        }
    }

    /** The tape, and how it is read. */
    private static final class Reader {
        private static final int END = 0;
        private static final int NO_TOKEN = 1;
        private static final int NUMBER = 2;
        private static final int AT_MOST = 3;
        private static final int AT_LEAST = 4;
        private static final int WORD = 300;
        private static final String SIGNS = "<>=#+-*/%(),;";
        private static final int MOST_OPEN = 8;

        private static final int BEFORE = 0;
        private static final int BEHIND = 1;
        private static final int OVER = 2;

        private final int[] tape = new int[MOST_TAPE];
        int length;
        boolean hasRead;
        int wrong;
        int place;

        private int at;
        private int start;
        private int token;
        private int value;

        // What waits in the law that is being read, from the outermost on.
        private final int[] waiting = new int[MOST_TAPE];
        private int waits;
        private int open;
        private int brackets;
        private boolean compared;
        private int law;
        private Text into;

        void take(int four) {
            for (int shift = 24; shift >= 0; shift -= 8) {
                if (length < MOST_TAPE) {
                    tape[length] = four >>> shift & 255;
                    length++;
                }
            }
        }

        /** Reads the tape, which is empty then: whether it has no FAULT. */
        boolean read(Text text) {
            into = text;
            into.clear();
            hasRead = true;
            wrong = 0;
            place = NONE;
            at = 0;
            step();
            for (int i = 0; i <= MOST_CLAUSES && token != END && wrong == 0; i++) {
                readClause();
            }
            length = 0;
            return wrong == 0;
        }

        /** A FAULT at this TOKEN. */
        private int fail(int what) {
            if (wrong == 0) {
                wrong = what;
                place = start;
            }
            return OVER;
        }

        /** On to the next TOKEN. */
        private void step() {
            while (at < length && (tape[at] == ' ' || tape[at] == '\n')) {
                at++;
            }
            start = at;
            if (at >= length) {
                token = END;
            } else if (isDigit(tape[at])) {
                value = 0;
                while (at < length && isDigit(tape[at])) {
                    value = Math.min(MOST_NUMBER + 1, value * 10 + tape[at] - '0');
                    at++;
                }
                token = NUMBER;
            } else if (isLetter(tape[at])) {
                while (at < length && isLetter(tape[at])) {
                    at++;
                }
                token = wordFrom(start, at);
            } else {
                int sign = tape[at];
                at++;
                token = SIGNS.indexOf((char) sign) >= 0 ? sign : NO_TOKEN;
                if ((sign == '<' || sign == '>') && at < length && tape[at] == '=') {
                    at++;
                    token = sign == '<' ? AT_MOST : AT_LEAST;
                }
            }
        }

        private static boolean isDigit(int sign) {
            return sign >= '0' && sign <= '9';
        }

        private static boolean isLetter(int sign) {
            return sign >= 'a' && sign <= 'z' || sign >= 'A' && sign <= 'Z';
        }

        private int wordFrom(int from, int to) {
            int word = WORD;
            int next = from;
            boolean same = true;
            for (int i = 0; i < WORDS.length(); i++) {
                char sign = WORDS.charAt(i);
                if (sign != ' ') {
                    same = same && next < to && tape[next] == sign;
                    next++;
                } else if (same && next == to) {
                    return word;
                } else {
                    word++;
                    next = from;
                    same = true;
                }
            }
            return NO_TOKEN;
        }

        private void readClause() {
            int kind = token - WORD;
            boolean begins = kind >= WORD_GETS && kind <= WORD_DAY && kind != WORD_WITH && kind != WORD_TO;
            if (!begins) {
                fail(1);
                return;
            }
            if (kind <= WORD_MOOD && into.has(kind)) {
                fail(4);
                return;
            }
            if (into.clauses >= MOST_CLAUSES) {
                fail(6);
                return;
            }
            into.begin(kind);
            step();
            switch (kind) {
                case WORD_ROW: readRow(); break;
                case WORD_RECKON: readOrder(0, MOST_ROWS - 1, NONE); break;
                case WORD_TURN: readOrder(0, 9, WORD + WORD_WITH); break;
                case WORD_SOOTHE: readOrder(0, 9, WORD + WORD_TO); break;
                case WORD_DAY: readOrder(1, MOST_DAYS, NONE); break;
                default: readLaw(kind); break;
            }
        }

        private boolean takeNumber(int part, int least, int most) {
            if (token != NUMBER) {
                fail(1);
                return false;
            }
            if (value < least || value > most) {
                fail(2);
                return false;
            }
            into.put(part, value);
            step();
            return true;
        }

        private boolean takeToken(int wanted) {
            if (token != wanted) {
                fail(1);
                return false;
            }
            step();
            return true;
        }

        /** A NUMBER, or two with a word between them, and what ends them. */
        private void readOrder(int least, int most, int between) {
            boolean right = takeNumber(1, least, most);
            if (right && between != NONE) {
                right = takeToken(between) && takeNumber(2, least, most);
            }
            if (right) {
                takeToken(';');
            }
        }

        private void readRow() {
            int minus = 0;
            if (token == '-') {
                minus = 1;
                step();
            }
            for (int i = 0; i <= MOST_NUMBERS; i++) {
                if (token == NUMBER && value <= MOST_NUMBER && i == MOST_NUMBERS) {
                    fail(7);
                    return;
                }
                if (!takeNumber(1 + i, 0, MOST_NUMBER)) {
                    return;
                }
                if (token != '+' && token != '-') {
                    break;
                }
                minus |= token == '-' ? 2 << i : 0;
                step();
            }
            into.put(5, minus);
            takeToken(';');
        }

        private void readLaw(int kind) {
            law = kind;
            waits = 0;
            open = 0;
            brackets = 0;
            compared = false;
            into.from[kind] = into.size;
            int where = BEFORE;
            for (int i = 0; i <= MOST_TAPE && where != OVER; i++) {
                boolean ends = token == ')' || token == ',' || token == ';';
                where = where == BEFORE ? readOne() : ends ? readEnd() : readBehind();
            }
            into.to[kind] = into.size;
        }

        /** Where a ONE or an ASK can begin. */
        private int readOne() {
            if (token == NUMBER) {
                if (value > MOST_NUMBER) {
                    return fail(2);
                }
                into.emit(value);
                step();
                return BEHIND;
            }
            int word = token - WORD;
            if (word == WORD_DAY || word >= WORD_LEFT && word <= WORD_ROWS) {
                int name = word == WORD_DAY ? NAME_DAY : word - WORD_LEFT + NAME_LEFT;
                if (name != NAME_DAY && name >= NAME_FIGURE != (law == WORD_MOOD)) {
                    return fail(5);
                }
                into.emit(CODE_NAME + name);
                step();
                return BEHIND;
            }
            int opening = openingBy(word);
            if (opening == NONE) {
                return fail(1);
            }
            if (open >= MOST_OPEN) {
                return fail(3);
            }
            open++;
            brackets += opening >= OPEN_PLAIN ? 1 : 0;
            hold(opening);
            step();
            if (opening == OPEN_MORE || opening == OPEN_LESS) {
                if (token != '(') {
                    return fail(1);
                }
                step();
            }
            return BEFORE;
        }

        /** What this TOKEN opens where a ONE or an ASK can begin; NONE: nothing. */
        private int openingBy(int word) {
            if (token == '(') {
                return OPEN_PLAIN;
            }
            if (token == '-') {
                return DO_NEGATE;
            }
            if (word == WORD_MORE) {
                return OPEN_MORE;
            }
            if (word == WORD_LESS) {
                return OPEN_LESS;
            }
            int around = outer();
            boolean askBegins = around == NONE || around == DO_AND || around == DO_OR || around == DO_NOT;
            return word == WORD_NOT && law == WORD_GETS && askBegins ? DO_NOT : NONE;
        }

        /** Where a ONE has ended and something goes on with it. */
        private int readBehind() {
            int what = doneBy();
            if (what == NONE) {
                return fail(1);
            }
            boolean compares = what >= DO_BELOW && what <= DO_UNLIKE;
            boolean joins = what == DO_AND || what == DO_OR;
            if (compares || joins) {
                if (law != WORD_GETS || brackets > 0 || compared != joins) {
                    return fail(1);
                }
                compared = compares;
            }
            finish(rank(what));
            hold(what);
            step();
            return BEFORE;
        }

        /** Where a SUM or an EITHER has ended. */
        private int readEnd() {
            finish(1);
            int around = outer();
            if (token == ';' && around == NONE && (law != WORD_GETS || compared)) {
                step();
                return OVER;
            }
            if (token == ',' && (around == OPEN_MORE || around == OPEN_LESS)) {
                waiting[waits - 1] = around == OPEN_MORE ? OPEN_MORE_SECOND : OPEN_LESS_SECOND;
                step();
                return BEFORE;
            }
            if (token != ')' || around != OPEN_PLAIN && around < OPEN_MORE_SECOND) {
                return fail(1);
            }
            if (around != OPEN_PLAIN) {
                into.emit(around == OPEN_MORE_SECOND ? DO_MORE : DO_LESS);
            }
            waits--;
            open--;
            brackets--;
            step();
            return BEHIND;
        }

        /** What this TOKEN does with both its sides; NONE: nothing. */
        private int doneBy() {
            switch (token) {
                case '*': return DO_TIMES;
                case '/': return DO_OVER;
                case '%': return DO_REST;
                case '+': return DO_PLUS;
                case '-': return DO_MINUS;
                case '<': return DO_BELOW;
                case AT_MOST: return DO_AT_MOST;
                case '>': return DO_ABOVE;
                case AT_LEAST: return DO_AT_LEAST;
                case '=': return DO_LIKE;
                case '#': return DO_UNLIKE;
                case WORD + WORD_AND: return DO_AND;
                case WORD + WORD_OR: return DO_OR;
                default: return NONE;
            }
        }

        /** The higher, the sooner it is done; 0: brackets, which hold back what is outside. */
        private static int rank(int what) {
            switch (what) {
                case DO_NEGATE: return 7;
                case DO_TIMES: case DO_OVER: case DO_REST: return 6;
                case DO_PLUS: case DO_MINUS: return 5;
                case DO_NOT: return 3;
                case DO_AND: return 2;
                case DO_OR: return 1;
                default: return what >= DO_BELOW && what <= DO_UNLIKE ? 4 : 0;
            }
        }

        private void hold(int what) {
            if (waits < waiting.length) {
                waiting[waits] = what;
                waits++;
            }
        }

        private int outer() {
            return waits > 0 ? waiting[waits - 1] : NONE;
        }

        /** Does all that waits and has at least this rank. */
        private void finish(int least) {
            while (waits > 0 && rank(waiting[waits - 1]) >= least) {
                waits--;
                int what = waiting[waits];
                into.emit(what);
                open -= what == DO_NEGATE || what == DO_NOT ? 1 : 0;
            }
        }
    }

    /** What is looked for without anything being changed. */
    private static final class Search {
        private final House house;
        private final Judge judge;
        private final int[] within = new int[100];
        private final int[] outs = new int[144];
        private final int[] member = new int[6];
        private final boolean[] wins = new boolean[64 * 6];
        private final int[] rest = new int[32];
        private final int[] apart = new int[32 * 5];

        Search(House house) {
            this.house = house;
            this.judge = house.judge;
        }

        /** ORDERED: two bits for each place, the first place highest; or NONE. */
        int bestOrder(Row row) {
            judge.fresh();
            int inner = 0;
            for (int i = 0; i < row.count; i++) {
                inner += judge.within(row.number[i]);
            }
            int best = NONE;
            int fewest = MOST_DIGITS;
            for (int code = 0; code < 1 << 2 * row.count; code++) {
                int sides = sidesChanged(code, row.count);
                if (sides != NONE && sides < fewest && inner + betweenAll(row, code) == 0) {
                    best = code;
                    fewest = sides;
                }
            }
            return best;
        }

        /** How many twos have changed sides; NONE if the code is no order of so many. */
        static int sidesChanged(int code, int count) {
            int set = 0;
            int sides = 0;
            for (int i = count - 1; i >= 0; i--) {
                int which = code >> 2 * i & 3;
                if (which >= count || (set >> which & 1) == 1) {
                    return NONE;
                }
                sides += Integer.bitCount(set >> which);
                set |= 1 << which;
            }
            return sides;
        }

        private int betweenAll(Row row, int code) {
            int sum = 0;
            for (int i = row.count - 1; i > 0; i--) {
                int one = row.number[code >> 2 * i & 3];
                int next = row.number[code >> 2 * (i - 1) & 3];
                sum += judge.between(one, next);
            }
            return sum;
        }

        /** SPLIT: 10000 times the first, 100 times the second, once the third (0: none); or NONE. */
        int bestSplit(int number) {
            judge.fresh();
            for (int i = 0; i < 100; i++) {
                within[i] = judge.within(i);
            }
            if (within[number] == 0) {
                return number * 10000;
            }
            for (int a = 1; a < number; a++) {
                int b = number - a;
                if (within[a] + judge.between(a, b) + within[b] == 0) {
                    return a * 10000 + b * 100;
                }
            }
            for (int a = 1; a < number; a++) {
                for (int b = 1; b < number - a; b++) {
                    int c = number - a - b;
                    int off = within[a] + judge.between(a, b) + within[b] + judge.between(b, c) + within[c];
                    if (off == 0) {
                        return a * 10000 + b * 100 + c;
                    }
                }
            }
            return NONE;
        }

        int nearestTo(int number) {
            judge.fresh();
            for (int away = 0; away <= MOST_NUMBER; away++) {
                if (number - away >= 0 && judge.isQuiet(number - away)) {
                    return number - away;
                }
                if (number + away <= MOST_NUMBER && judge.isQuiet(number + away)) {
                    return number + away;
                }
            }
            return NONE;
        }

        /** CHANGED: 10000 times which one, and what it is then; or NONE. */
        int bestChange(Row row) {
            judge.fresh();
            if (judge.offOf(row) == 0) {
                return NONE;
            }
            for (int by = 1; by <= 50; by++) {
                for (int i = 0; i < row.count; i++) {
                    int less = row.number[i] - by;
                    if (less >= 0 && offWith(row, i, less) == 0) {
                        return i * 10000 + less;
                    }
                    int more = row.number[i] + by;
                    if (more <= MOST_NUMBER && offWith(row, i, more) == 0) {
                        return i * 10000 + more;
                    }
                }
            }
            return NONE;
        }

        private int offWith(Row row, int which, int value) {
            int sum = 0;
            int last = NONE;
            for (int i = 0; i < row.count; i++) {
                int number = i == which ? value : row.number[i];
                sum += judge.within(number) + (last == NONE ? 0 : judge.between(last, number));
                last = number;
            }
            return sum;
        }

        // Within each NUMBER nothing turns on the order, and the least two are in ascending order.
        int leastOrder(int m) {
            judge.fresh();
            for (int a = 0; a < m; a++) {
                for (int b = a + 1; b < m; b++) {
                    if (judge.between(a, b) != judge.between(b, a)) {
                        return 100 * a + b;
                    }
                }
            }
            return NONE;
        }

        int leastGrouping(int m) {
            judge.fresh();
            for (int i = 0; i < m * m; i++) {
                outs[i] = outOfTwo(i / m, i % m);
            }
            for (int a = 0; a < m; a++) {
                for (int b = 0; b < m; b++) {
                    for (int c = 0; c < m; c++) {
                        if (outOfTwo(outs[a * m + b], c) != outOfTwo(a, outs[b * m + c])) {
                            return 10000 * a + 100 * b + c;
                        }
                    }
                }
            }
            return NONE;
        }

        private int outOfTwo(int one, int other) {
            int a = Math.abs(one);
            int b = Math.abs(other);
            return one + other + judge.within(a) + judge.between(a, b) + judge.within(b);
        }

        int carriedOn(int one, int other, boolean gossip) {
            judge.fresh();
            int count = 0;
            int carry = 0;
            int a = one;
            int b = other;
            for (int place = 0; place < 4; place++) {
                boolean both = place == 0 || a > 0 && b > 0;
                carry = a % 10 + b % 10 + carry >= 10 ? 1 : 0;
                if (carry == 1 && (!gossip || both && judge.two(a % 10, b % 10, APART) != QUIET)) {
                    count++;
                }
                a /= 10;
                b /= 10;
            }
            return count;
        }

        /** THE GAME: the lowest FIGURE by which the one who begins wins, or NONE. */
        int bestBeginning(int figures) {
            judge.fresh();
            int size = listMembers(figures, FIGURES);
            for (int left = 0; left < 1 << size; left++) {
                for (int last = 0; last < size; last++) {
                    wins[left * 6 + last] = left == 0 || canWin(left, last, size);
                }
            }
            int all = (1 << size) - 1;
            for (int i = 0; i < size; i++) {
                if (!wins[(all ^ 1 << i) * 6 + i]) {
                    return member[i];
                }
            }
            return NONE;
        }

        private boolean canWin(int left, int last, int size) {
            for (int i = 0; i < size; i++) {
                if ((left >> i & 1) == 1 && !wins[(left ^ 1 << i) * 6 + i]
                        && judge.two(member[last], member[i], LAST) == QUIET) {
                    return true;
                }
            }
            return false;
        }

        private int listMembers(int set, int most) {
            int size = 0;
            for (int i = 0; i < most && size < member.length; i++) {
                if ((set >> i & 1) == 1) {
                    member[size] = i;
                    size++;
                }
            }
            return size;
        }

        /** LEDGER: how much (place NONE), the ROW at a place. */
        int bestLedger(int rows, int place) {
            int size = listMembers(rows, MOST_ROWS);
            if (size > 5) {
                return NONE;
            }
            int all = (1 << size) - 1;
            rest[all] = 0;
            for (int done = all - 1; done >= 0; done--) {
                askBehind(done, size);
                rest[done] = FAR;
                for (int i = 0; i < size; i++) {
                    if ((done >> i & 1) == 0) {
                        rest[done] = Math.min(rest[done], apart[done * 5 + i] + rest[done | 1 << i]);
                    }
                }
            }
            return place == NONE ? rest[0] : rowAt(place, size);
        }

        // What has been USED turns on which ROWS were RECKONED, not on their order.
        private void askBehind(int done, int size) {
            house.save();
            for (int i = 0; i < size; i++) {
                if ((done >> i & 1) == 1) {
                    house.use(house.rows[member[i]]);
                }
            }
            judge.fresh();
            for (int i = 0; i < size; i++) {
                if ((done >> i & 1) == 0) {
                    apart[done * 5 + i] = Math.abs(judge.offOf(house.rows[member[i]]));
                }
            }
            house.restore();
        }

        private int rowAt(int place, int size) {
            int done = 0;
            int row = NONE;
            for (int at = 0; at <= place; at++) {
                int next = NONE;
                for (int i = 0; i < size && next == NONE; i++) {
                    if ((done >> i & 1) == 0 && apart[done * 5 + i] + rest[done | 1 << i] == rest[done]) {
                        next = i;
                    }
                }
                if (next == NONE) {
                    return NONE;
                }
                row = member[next];
                done |= 1 << next;
            }
            return row;
        }
    }

    /** What was SEEN, and the TEMPERS by which it is so. */
    private static final class Fitting {
        private static final int MOST_TOGETHER = (MOST_DIGITS - 1) * MOST_OFF;
        final int[] seenRow = new int[MOST_SEEN];
        final int[] seenOut = new int[MOST_SEEN];
        int seen;
        private final House house;
        /** For each FIGURE: how many cases its TEMPER steps over; 0: it isn't of the set. */
        private final int[] stride = new int[FIGURES];
        private final boolean[] fit = new boolean[1000];
        private final int[] off = new int[1000];
        private final int[] table = new int[100];
        private final int[] tally = new int[2 * MOST_TOGETHER + 1];
        private int cases;

        Fitting(House house) {
            this.house = house;
        }

        /** FITS of a set: how many. */
        int find(int figures) {
            cases = 1;
            for (int figure = FIGURES - 1; figure >= 0; figure--) {
                boolean asked = (figures >> figure & 1) == 1;
                stride[figure] = asked ? cases : 0;
                cases *= asked ? 10 : 1;
            }
            for (int c = 0; c < cases; c++) {
                fit[c] = true;
            }
            for (int i = 0; i < seen; i++) {
                Row row = house.rows[seenRow[i]];
                spread(row);
                for (int c = 0; c < cases; c++) {
                    fit[c] = fit[c] && row.sum + off[c] == seenOut[i];
                }
            }
            int count = 0;
            for (int c = 0; c < cases; c++) {
                count += fit[c] ? 1 : 0;
            }
            return count;
        }

        int temperIn(int which, int figure) {
            int left = which;
            for (int c = 0; c < cases && stride[figure] > 0; c++) {
                if (fit[c]) {
                    if (left == 0) {
                        return c / stride[figure] % 10;
                    }
                    left--;
                }
            }
            return NONE;
        }

        /** The ROW that TELLS, after FITS were found. */
        int tellsMost() {
            int best = NONE;
            int fewest = FAR;
            for (int row = 0; row < house.count; row++) {
                spread(house.rows[row]);
                int most = mostAlike();
                if (most < fewest) {
                    fewest = most;
                    best = row;
                }
            }
            return best;
        }

        private int mostAlike() {
            Arrays.fill(tally, 0);
            int most = 0;
            for (int c = 0; c < cases; c++) {
                int at = off[c] + MOST_TOGETHER;
                if (fit[c] && at >= 0 && at < tally.length) {
                    tally[at]++;
                    most = Math.max(most, tally[at]);
                }
            }
            return most;
        }

        /** off of all that QUARREL in a ROW, for all TEMPERS of the set. */
        private void spread(Row row) {
            Arrays.fill(off, 0);
            for (int i = 1; i < row.digits; i++) {
                int left = row.digit[i - 1];
                int right = row.digit[i];
                if (!ask(left, right, row.kind[i])) {
                    continue;
                }
                int one = stride[left];
                int other = stride[right];
                for (int c = 0; c < cases; c++) {
                    int warm = one > 0 ? c / one % 10 : 0;
                    int cool = other > 0 ? c / other % 10 : 0;
                    off[c] += table[warm * 10 + cool];
                }
            }
        }

        /** off of TWO by their TEMPERS (0 of one that isn't of the set): whether it is ever other than 0. */
        private boolean ask(int left, int right, int kind) {
            int[] cell = house.cell;
            int leftWas = cell[TEMPER + left];
            int rightWas = cell[TEMPER + right];
            boolean any = false;
            for (int warm = 0; warm < (stride[left] > 0 ? 10 : 1); warm++) {
                for (int cool = 0; cool < (stride[right] > 0 ? 10 : 1); cool++) {
                    if (left == right && warm != cool) {
                        continue;
                    }
                    cell[TEMPER + left] = stride[left] > 0 ? warm : leftWas;
                    cell[TEMPER + right] = stride[right] > 0 ? cool : cell[TEMPER + right];
                    house.judge.fresh();
                    int answer = house.judge.two(left, right, kind);
                    table[warm * 10 + cool] = answer == QUIET ? 0 : answer;
                    any = any || table[warm * 10 + cool] != 0;
                }
            }
            cell[TEMPER + left] = leftWas;
            cell[TEMPER + right] = rightWas;
            return any;
        }
    }

    /** The DEBTS of six BANKS. */
    private static final class Banks {
        final int[] debt = new int[BANKS * BANKS];
        final int[] path = new int[BANKS];
        private final int[] owed = new int[BANKS * BANKS];
        private final Judge judge;

        Banks(Judge judge) {
            this.judge = judge;
        }

        private void reckonAll() {
            judge.fresh();
            for (int i = 0; i < owed.length; i++) {
                owed[i] = Math.max(0, debt[i] + judge.within(debt[i]));
            }
        }

        int worthOf(int bank) {
            reckonAll();
            int sum = 0;
            for (int other = 0; other < BANKS; other++) {
                sum += owed[other * BANKS + bank] - owed[bank * BANKS + other];
            }
            return sum;
        }

        /** RING, in path: how many BANKS, 0 without. */
        int shortestRing() {
            reckonAll();
            for (int size = 2; size <= BANKS; size++) {
                for (int first = 0; first < BANKS; first++) {
                    path[0] = first;
                    if (closes(owed, path, 1, size)) {
                        return size;
                    }
                }
            }
            return 0;
        }

        /** Whether so many of a path can go on to a ring of a size; the lowest BANKS are tried first. */
        private static boolean closes(int[] owed, int[] path, int set, int size) {
            int last = path[set - 1];
            if (set >= size) {
                return owed[last * BANKS + path[0]] > 0;
            }
            for (int next = path[0] + 1; next < BANKS; next++) {
                boolean fresh = true;
                for (int i = 0; i < set; i++) {
                    fresh = fresh && path[i] != next;
                }
                if (fresh && owed[last * BANKS + next] > 0) {
                    path[set] = next;
                    if (closes(owed, path, set + 1, size)) {
                        return true;
                    }
                }
            }
            return false;
        }

        int leastAround(int size) {
            int least = FAR;
            for (int i = 0; i < size; i++) {
                least = Math.min(least, owed[path[i] * BANKS + path[(i + 1) % size]]);
            }
            return least;
        }
    }
}
