import java.util.ArrayDeque;
import java.util.ArrayList;
import java.util.Arrays;
import java.util.Deque;
import java.util.HashMap;
import java.util.List;
import java.util.Map;

/** The document once more in its plainest form, slow and by other means than the class, to compare with. */
final class Model {
    static final int NONE = -1;

    /** What a STEP can change. */
    static final class Now {
        int[] temper = new int[10];
        int[] used = new int[10];
        int[] quarrels = new int[10];
        boolean[][] bad = new boolean[10][10];
        int day;
        int balance;
        int x = 53;
        List<int[]> book = new ArrayList<>();

        Now copy() {
            Now c = new Now();
            c.temper = temper.clone();
            c.used = used.clone();
            c.quarrels = quarrels.clone();
            for (int i = 0; i < 10; i++) c.bad[i] = bad[i].clone();
            c.day = day;
            c.balance = balance;
            c.x = x;
            c.book = new ArrayList<>(book);
            return c;
        }
    }

    interface Node { long of(Map<String, Integer> names); }

    static final class Clause {
        String kind;
        List<Integer> numbers = new ArrayList<>();
        int minus;
    }

    static final class Script {
        List<Clause> clauses = new ArrayList<>();
        Map<String, Node> laws = new HashMap<>();
    }

    static final class Fault extends RuntimeException {
        private static final long serialVersionUID = 1;
        final int what;
        final int place;
        Fault(int what, int place) { this.what = what; this.place = place; }
    }

    /** Everything that an image keeps. */
    static final class All {
        Now now = new Now();
        List<int[]> rows = new ArrayList<>();
        Deque<Now> steps = new ArrayDeque<>();
        List<Script> texts = new ArrayList<>();
        int ruling = NONE;
        List<int[]> seen = new ArrayList<>();
        int[][] debt = new int[6][6];

        All copy() {
            All c = new All();
            c.now = now.copy();
            c.rows = new ArrayList<>(rows);
            for (Now n : steps) c.steps.addLast(n.copy());
            c.texts = new ArrayList<>(texts);
            c.ruling = ruling;
            c.seen = new ArrayList<>(seen);
            for (int i = 0; i < 6; i++) c.debt[i] = debt[i].clone();
            return c;
        }
    }

    All all = new All();
    All kept;
    List<Integer> tape = new ArrayList<>();
    int fault = NONE;
    int place = NONE;

    Model() {
        Arrays.fill(all.now.temper, 5);
        kept = all.copy();
    }

    // A row: signed by a second half: {n, number.., sign..}
    static int[] rowOf(int[] numbers, int[] signs) {
        int[] r = new int[1 + 2 * numbers.length];
        r[0] = numbers.length;
        for (int i = 0; i < numbers.length; i++) { r[1 + i] = numbers[i]; r[1 + numbers.length + i] = signs[i]; }
        return r;
    }

    static int trueOf(int[] r) {
        int s = 0;
        for (int i = 0; i < r[0]; i++) s += r[1 + i] * r[1 + r[0] + i];
        return s;
    }

    /** left, right, apart, last of all that are BESIDE. */
    static List<int[]> twos(int[] r) {
        List<int[]> list = new ArrayList<>();
        String before = null;
        for (int i = 0; i < r[0]; i++) {
            String d = Integer.toString(r[1 + i]);
            if (before != null) list.add(new int[] {before.charAt(before.length() - 1) - '0', d.charAt(0) - '0', 1, d.length() == 1 ? 1 : 0});
            for (int k = 1; k < d.length(); k++) list.add(new int[] {d.charAt(k - 1) - '0', d.charAt(k) - '0', 0, k == d.length() - 1 ? 1 : 0});
            before = d;
        }
        return list;
    }

    Node law(String which) {
        return all.ruling == NONE ? null : all.texts.get(all.ruling).laws.get(which);
    }

    Map<String, Integer> names(int[] two) {
        Map<String, Integer> m = new HashMap<>();
        m.put("day", all.now.day);
        m.put("left", two[0]);
        m.put("right", two[1]);
        m.put("warm", all.now.temper[two[0]]);
        m.put("cool", all.now.temper[two[1]]);
        m.put("often", all.now.used[two[0]] + all.now.used[two[1]]);
        m.put("apart", two[2]);
        m.put("last", two[3]);
        m.put("bad", all.now.bad[two[0]][two[1]] ? 1 : 0);
        return m;
    }

    boolean quarrel(int[] two) {
        Node gets = law("gets");
        if (gets == null) return all.now.bad[two[0]][two[1]];
        return gets.of(names(two)) == 0;
    }

    int off(int[] two) {
        if (!quarrel(two)) return 0;
        Node off = law("off");
        if (off == null) return 1;
        return (int) Math.max(-99, Math.min(99, off.of(names(two))));
    }

    int out(int[] r) {
        int s = trueOf(r);
        for (int[] t : twos(r)) s += off(t);
        return s;
    }

    boolean has(int row) { return row >= 0 && row < all.rows.size(); }

    int row(int a, int b, int c, int d, int minus) {
        int[] given = {a, b, c, d};
        int n = 0;
        while (n < 4 && given[n] != NONE) n++;
        for (int i = n; i < 4; i++) if (given[i] != NONE) return NONE;
        if (n == 0 || all.rows.size() == 12 || minus < 0 || minus >= (1 << n)) return NONE;
        int[] signs = new int[n];
        for (int i = 0; i < n; i++) {
            if (given[i] < 0 || given[i] > 9999) return NONE;
            signs[i] = (minus & 1 << i) != 0 ? -1 : 1;
        }
        all.rows.add(rowOf(Arrays.copyOf(given, n), signs));
        return all.rows.size() - 1;
    }

    void step() {
        all.steps.addLast(all.now.copy());
        if (all.steps.size() > 30) all.steps.removeFirst();
    }

    int reckonIt(int row) {
        int[] r = all.rows.get(row);
        int out = out(r);
        List<int[]> quarrels = new ArrayList<>();
        for (int[] t : twos(r)) if (quarrel(t)) quarrels.add(t);
        all.now.balance = Math.max(-9999999, Math.min(9999999, all.now.balance + out));
        all.now.book.add(new int[] {row, all.now.day, out});
        if (all.now.book.size() > 40) all.now.book.remove(0);
        for (int[] t : quarrels) { all.now.quarrels[t[0]]++; all.now.quarrels[t[1]]++; }
        for (int i = 0; i < r[0]; i++)
            for (char ch : Integer.toString(r[1 + i]).toCharArray())
                all.now.used[ch - '0'] = Math.min(999, all.now.used[ch - '0'] + 1);
        return out;
    }

    List<Integer> dayIt() {
        List<Integer> off = new ArrayList<>();
        for (int i = 0; i < all.rows.size(); i++) if (reckonIt(i) != trueOf(all.rows.get(i))) off.add(i);
        Node mood = law("mood");
        int[] temper = all.now.temper.clone();
        if (mood != null) {
            for (int f = 0; f < 10; f++) {
                Map<String, Integer> m = new HashMap<>();
                m.put("day", all.now.day);
                m.put("figure", f);
                m.put("temper", all.now.temper[f]);
                m.put("used", all.now.used[f]);
                m.put("rows", all.now.quarrels[f]);
                temper[f] = (int) Math.max(0, Math.min(9, mood.of(m)));
            }
        }
        all.now.temper = temper;
        Arrays.fill(all.now.quarrels, 0);
        all.now.day++;
        return off;
    }

    int reckon(int row) {
        if (!has(row)) return -1000000;
        step();
        return reckonIt(row);
    }

    int day(int n) {
        if (n < 1 || n > 60 || all.now.day + n > 999) return -10000000;
        for (int i = 0; i < n; i++) { step(); dayIt(); }
        return all.now.balance;
    }

    static boolean fig(int f) { return f >= 0 && f <= 9; }

    void turnIt(int a, int b) {
        boolean v = !all.now.bad[a][b];
        all.now.bad[a][b] = v;
        all.now.bad[b][a] = v;
    }

    boolean turn(int a, int b) {
        if (!fig(a) || !fig(b)) return false;
        step();
        turnIt(a, b);
        return all.now.bad[a][b];
    }

    boolean soothe(int f, int t) {
        if (!fig(f) || !fig(t) || all.now.temper[f] == t) return false;
        step();
        all.now.temper[f] = t;
        return true;
    }

    int draw(int m) {
        int v = all.now.x % m;
        all.now.x = (all.now.x * 257 + 151) % 30241;
        return v;
    }

    int year(int seed, int n) {
        if (seed < 0 || seed > 9999 || n < 1 || n > 30) return NONE;
        step();
        all.now.x = seed * 3 + 53;
        int off = 0;
        while (n-- > 0) {
            int w = draw(6);
            if (w == 0) { int a = draw(10); int b = draw(10); turnIt(a, b); }
            else if (w == 1) { int a = draw(10); all.now.temper[a] = draw(10); }
            else if (w == 2) {
                if (!all.rows.isEmpty()) { int r = draw(all.rows.size()); if (reckonIt(r) != trueOf(all.rows.get(r))) off++; }
            } else if (all.now.day < 999) off += dayIt().size();
        }
        return off;
    }

    int feed(int a, int b, int c, int d, int e) {
        if (tape.size() > 280) return NONE;
        for (int v : new int[] {a, b, c, d, e}) for (int k = 3; k >= 0; k--) tape.add(v >> 8 * k & 255);
        return tape.size();
    }

    int end(int n) {
        if (n < 0 || n > tape.size()) return NONE;
        tape = new ArrayList<>(tape.subList(0, n));
        return n;
    }

    int text() {
        if (all.texts.size() == 4) return NONE;
        StringBuilder b = new StringBuilder();
        for (int v : tape) b.append((char) v);
        tape = new ArrayList<>();
        try {
            Script s = new ModelReader(b.toString()).read();
            all.texts.add(s);
            fault = 0;
            place = NONE;
            return all.texts.size() - 1;
        } catch (Fault f) {
            fault = f.what;
            place = f.place;
            return NONE;
        }
    }

    int fault(int what) { return what == 0 ? fault : what == 1 ? place : NONE; }

    boolean by(int t) {
        if (t < NONE || t >= all.texts.size()) return false;
        all.ruling = t;
        return true;
    }

    int played(int t) {
        if (t < 0 || t >= all.texts.size()) return -2;
        List<Clause> clauses = all.texts.get(t).clauses;
        for (int i = 0; i < clauses.size(); i++) {
            Clause c = clauses.get(i);
            List<Integer> n = new ArrayList<>(c.numbers);
            while (n.size() < 4) n.add(NONE);
            if (c.kind.equals("row") && row(n.get(0), n.get(1), n.get(2), n.get(3), c.minus) == NONE) return i;
            if (c.kind.equals("reckon") && reckon(n.get(0)) == -1000000) return i;
            if (c.kind.equals("turn")) turn(n.get(0), n.get(1));
            if (c.kind.equals("soothe") && !soothe(n.get(0), n.get(1))) return i;
            if (c.kind.equals("day")) for (int k = 0; k < n.get(0); k++) if (day(1) == -10000000) return i;
        }
        return NONE;
    }

    int undo() {
        if (all.steps.isEmpty()) return NONE;
        all.now = all.steps.removeLast();
        return all.steps.size();
    }

    int of(int f, int what) {
        if (!fig(f) || what < 0 || what > 3) return NONE;
        if (what == 0) return all.now.temper[f];
        if (what == 1) return all.now.used[f];
        if (what == 2) return all.now.quarrels[f];
        int bits = 0;
        for (int i = 0; i < 10; i++) if (all.now.bad[f][i]) bits |= 1 << i;
        return bits;
    }

    int ofRow(int row, int what) {
        if (!has(row)) return -1000000;
        int[] r = all.rows.get(row);
        if (what == 0) return r[0];
        if (what == 1) return trueOf(r);
        if (what == 2) return out(r);
        if (what == 3) { int n = 0; for (int[] t : twos(r)) if (quarrel(t)) n++; return n; }
        if (what == 4) return twos(r).size() + 1;
        if (what >= 10 && what < 10 + r[0]) return r[1 + what - 10];
        if (what >= 20 && what < 20 + r[0]) return r[1 + r[0] + what - 20] < 0 ? 1 : 0;
        return -1000000;
    }

    int beside(int row, int i) {
        if (!has(row)) return NONE;
        List<int[]> t = twos(all.rows.get(row));
        if (i < 0 || i >= t.size()) return NONE;
        return 10 * t.get(i)[0] + t.get(i)[1] + (quarrel(t.get(i)) ? 100 : 0);
    }

    int book(int i, int what) {
        if (i == NONE) return all.now.book.size();
        if (i < 0 || i >= all.now.book.size() || what < 0 || what > 2) return -1000000;
        return all.now.book.get(i)[what];
    }

    int foretold(int n, int f) {
        if (n < 1 || n > 30 || f < NONE || f > 9) return -10000000;
        Now was = all.now;
        all.now = was.copy();
        for (int i = 0; i < n; i++) dayIt();
        int answer = f == NONE ? all.now.balance : all.now.temper[f];
        all.now = was;
        return answer;
    }

    int firstOff(int n, int row) {
        if (n < 1 || n > 30 || !has(row)) return NONE;
        Now was = all.now;
        all.now = was.copy();
        int answer = NONE;
        for (int i = 1; i <= n && answer == NONE; i++) if (dayIt().contains(row)) answer = i;
        all.now = was;
        return answer;
    }

    static void orders(int[] items, int at, List<int[]> into) {
        if (at == items.length) { into.add(items.clone()); return; }
        for (int i = at; i < items.length; i++) {
            int[] c = items.clone();
            int v = c[i];
            for (int k = i; k > at; k--) c[k] = c[k - 1];
            c[at] = v;
            orders(c, at + 1, into);
        }
    }

    int ordered(int row, int i) {
        if (!has(row)) return NONE;
        int[] r = all.rows.get(row);
        int n = r[0];
        int[] items = new int[n];
        for (int k = 0; k < n; k++) items[k] = k;
        List<int[]> list = new ArrayList<>();
        orders(items, 0, list);
        int[] best = null;
        int fewest = 99;
        for (int[] p : list) {
            int[] numbers = new int[n];
            int[] signs = new int[n];
            for (int k = 0; k < n; k++) { numbers[k] = r[1 + p[k]]; signs[k] = r[1 + n + p[k]]; }
            int[] q = rowOf(numbers, signs);
            if (out(q) != trueOf(r)) continue;
            int sides = 0;
            for (int a = 0; a < n; a++) for (int b = a + 1; b < n; b++) if (p[a] > p[b]) sides++;
            if (sides < fewest || sides == fewest && Arrays.compare(p, best) < 0) { best = p; fewest = sides; }
        }
        if (best == null) return NONE;
        if (i == NONE) return fewest;
        return i >= 0 && i < n ? best[i] : NONE;
    }

    int plus(int... numbers) {
        int[] signs = new int[numbers.length];
        Arrays.fill(signs, 1);
        return out(rowOf(numbers, signs));
    }

    int split(int number, int i) {
        if (number < 1 || number > 99) return NONE;
        int[] best = null;
        if (plus(number) == number) best = new int[] {number};
        for (int a = 1; a < number && best == null; a++)
            if (plus(a, number - a) == number) best = new int[] {a, number - a};
        for (int a = 1; a < number && best == null; a++)
            for (int b = 1; a + b < number && best == null; b++)
                if (plus(a, b, number - a - b) == number) best = new int[] {a, b, number - a - b};
        if (best == null) return NONE;
        if (i == NONE) return best.length;
        return i >= 0 && i < best.length ? best[i] : NONE;
    }

    int nearest(int number) {
        if (number < 0 || number > 9999) return NONE;
        int best = NONE;
        for (int n = 0; n <= 9999; n++) {
            if (best != NONE && Math.abs(n - number) >= Math.abs(best - number)) continue;
            boolean ok = true;
            for (int[] t : twos(rowOf(new int[] {n}, new int[] {1}))) ok = ok && !quarrel(t);
            if (ok) best = n;
        }
        return best;
    }

    int changed(int row, int what) {
        if (!has(row) || what < 0 || what > 1) return NONE;
        int[] r = all.rows.get(row);
        if (out(r) == trueOf(r)) return NONE;
        for (int by = 1; by <= 50; by++)
            for (int k = 0; k < r[0]; k++)
                for (int s = -1; s <= 1; s += 2) {
                    int[] c = r.clone();
                    c[1 + k] += s * by;
                    if (c[1 + k] < 0 || c[1 + k] > 9999) continue;
                    if (out(c) == trueOf(c)) return what == 0 ? k : c[1 + k];
                }
        return NONE;
    }

    int seen(int row, int out) {
        if (row == NONE) { all.seen.clear(); return 0; }
        if (!has(row) || out < -99999 || out > 99999 || all.seen.size() == 6) return -2;
        all.seen.add(new int[] {row, out});
        return all.seen.size();
    }

    static List<Integer> members(int set, int below) {
        if (set < 0 || set >= 1 << below) return null;
        List<Integer> list = new ArrayList<>();
        for (int i = 0; i < below; i++) if ((set >> i & 1) == 1) list.add(i);
        return list;
    }

    /** The TEMPERS of all ten FIGURES in each of FITS. */
    List<int[]> fitting(List<Integer> set) {
        List<int[]> list = new ArrayList<>();
        int[] was = all.now.temper;
        int cases = 1;
        for (int i = 0; i < set.size(); i++) cases *= 10;
        for (int c = 0; c < cases; c++) {
            all.now.temper = was.clone();
            int rest = c;
            for (int k = set.size() - 1; k >= 0; k--) { all.now.temper[set.get(k)] = rest % 10; rest /= 10; }
            boolean ok = true;
            for (int[] s : all.seen) if (ok && out(all.rows.get(s[0])) != s[1]) ok = false;
            if (ok) list.add(all.now.temper);
        }
        all.now.temper = was;
        return list;
    }

    int fits(int figures, int i, int figure) {
        List<Integer> set = members(figures, 10);
        if (set == null || set.isEmpty() || set.size() > 3) return NONE;
        List<int[]> list = fitting(set);
        if (i == NONE) return list.size();
        if (i < 0 || i >= list.size() || !set.contains(figure)) return NONE;
        return list.get(i)[figure];
    }

    int tells(int figures) {
        List<Integer> set = members(figures, 10);
        if (set == null || set.isEmpty() || set.size() > 3) return NONE;
        List<int[]> list = fitting(set);
        if (list.isEmpty()) return NONE;
        int[] was = all.now.temper;
        int best = NONE;
        int fewest = 0;
        for (int r = 0; r < all.rows.size(); r++) {
            Map<Integer, Integer> counts = new HashMap<>();
            int most = 0;
            for (int[] t : list) {
                all.now.temper = t;
                most = Math.max(most, counts.merge(out(all.rows.get(r)), 1, Integer::sum));
            }
            if (best == NONE || most < fewest) { best = r; fewest = most; }
        }
        all.now.temper = was;
        return best;
    }

    int ledger(int rows, int i) {
        List<Integer> set = members(rows, all.rows.size());
        if (set == null || set.isEmpty() || set.size() > 5) return NONE;
        int[] items = new int[set.size()];
        for (int k = 0; k < items.length; k++) items[k] = set.get(k);
        List<int[]> list = new ArrayList<>();
        orders(items, 0, list);
        int[] best = null;
        int least = 0;
        for (int[] p : list) {
            Now was = all.now;
            all.now = was.copy();
            int sum = 0;
            for (int r : p) sum += Math.abs(reckonIt(r) - trueOf(all.rows.get(r)));
            all.now = was;
            if (best == null || sum < least || sum == least && Arrays.compare(p, best) < 0) { best = p; least = sum; }
        }
        if (i == NONE) return least;
        return i >= 0 && i < best.length ? best[i] : NONE;
    }

    int order(int m) {
        if (m < 1 || m > 100) return NONE;
        for (int a = 0; a < m; a++) for (int b = 0; b < m; b++) if (plus(a, b) != plus(b, a)) return 100 * a + b;
        return NONE;
    }

    int two(int a, int b) {
        return out(rowOf(new int[] {Math.abs(a), Math.abs(b)}, new int[] {a < 0 ? -1 : 1, b < 0 ? -1 : 1}));
    }

    int grouping(int m) {
        if (m < 1 || m > 12) return NONE;
        for (int a = 0; a < m; a++) for (int b = 0; b < m; b++) for (int c = 0; c < m; c++)
            if (two(two(a, b), c) != two(a, two(b, c))) return 10000 * a + 100 * b + c;
        return NONE;
    }

    int carried(int one, int other, boolean gossip) {
        if (one < 0 || one > 9999 || other < 0 || other > 9999) return NONE;
        String a = new StringBuilder(Integer.toString(one)).reverse().toString();
        String b = new StringBuilder(Integer.toString(other)).reverse().toString();
        int carry = 0;
        int often = 0;
        int talk = 0;
        for (int k = 0; k < Math.max(a.length(), b.length()); k++) {
            int x = k < a.length() ? a.charAt(k) - '0' : 0;
            int y = k < b.length() ? b.charAt(k) - '0' : 0;
            carry = (x + y + carry) / 10;
            if (carry == 0) continue;
            often++;
            if (k < a.length() && k < b.length() && quarrel(new int[] {x, y, 1, 0})) talk++;
        }
        return gossip ? talk : often;
    }

    /** Whether the one whose turn it is wins. */
    boolean wins(int last, List<Integer> left) {
        if (left.isEmpty()) return true;
        for (int f : left) {
            if (last != NONE && quarrel(new int[] {last, f, 0, 1})) continue;
            List<Integer> rest = new ArrayList<>(left);
            rest.remove(Integer.valueOf(f));
            if (!wins(f, rest)) return true;
        }
        return false;
    }

    int game(int figures, boolean first) {
        List<Integer> set = members(figures, 10);
        if (set == null || set.isEmpty() || set.size() > 6) return -2;
        if (!first) return wins(NONE, set) ? 1 : 0;
        for (int f : set) {
            List<Integer> rest = new ArrayList<>(set);
            rest.remove(Integer.valueOf(f));
            if (!wins(f, rest)) return f;
        }
        return NONE;
    }

    boolean debt(int from, int to, int number) {
        if (from < 0 || from > 5 || to < 0 || to > 5 || from == to || number < 0 || number > 9999) return false;
        all.debt[from][to] = number;
        return true;
    }

    int owed(int from, int to) { return from == to ? 0 : Math.max(0, plus(all.debt[from][to])); }

    int worth(int bank) {
        if (bank < 0 || bank > 5) return -1000000;
        int s = 0;
        for (int o = 0; o < 6; o++) s += owed(o, bank) - owed(bank, o);
        return s;
    }

    int ring(int i) {
        int[] best = null;
        int[][] owed = new int[6][6];
        for (int a = 0; a < 6; a++) for (int b = 0; b < 6; b++) owed[a][b] = owed(a, b);
        for (int set = 1; set < 64; set++) {
            List<Integer> m = members(set, 6);
            if (m.size() < 2) continue;
            int[] items = new int[m.size()];
            for (int k = 0; k < items.length; k++) items[k] = m.get(k);
            List<int[]> list = new ArrayList<>();
            orders(items, 0, list);
            for (int[] p : list) {
                boolean ok = p[0] == items[0];
                for (int k = 0; k < p.length && ok; k++) ok = owed[p[k]][p[(k + 1) % p.length]] > 0;
                if (!ok) continue;
                if (best == null || p.length < best.length || p.length == best.length && Arrays.compare(p, best) < 0) best = p;
            }
        }
        if (best == null) return NONE;
        if (i == NONE) return best.length;
        if (i == -2) {
            int least = Integer.MAX_VALUE;
            for (int k = 0; k < best.length; k++) least = Math.min(least, owed[best[k]][best[(k + 1) % best.length]]);
            return least;
        }
        return i >= 0 && i < best.length ? best[i] : NONE;
    }

    int image() {
        kept = all.copy();
        return all.now.day;
    }

    int back() {
        all = kept.copy();
        return all.now.day;
    }

    int about(int what) {
        switch (what) {
            case 0: return all.rows.size();
            case 1: return all.now.day;
            case 2: return all.now.balance;
            case 3: return all.now.x;
            case 4: return all.texts.size();
            case 5: return all.ruling;
            case 6: return all.steps.size();
            case 7: return all.seen.size();
            case 8: return tape.size();
            default: return -2;
        }
    }
}
