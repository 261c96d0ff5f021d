import java.util.Arrays;
import java.util.HashSet;
import java.util.List;
import java.util.Set;

/** Reads a TEXT by descent from CLAUSE to ONE, as the document tells its grammar. */
final class ModelReader {
    private static final Set<String> OF_TWO = new HashSet<>(Arrays.asList(
            "day", "left", "right", "warm", "cool", "often", "apart", "last", "bad"));
    private static final Set<String> OF_ONE = new HashSet<>(Arrays.asList("day", "figure", "temper", "used", "rows"));
    private static final List<String> LAWS = Arrays.asList("gets", "off", "mood");
    private static final List<String> ORDERS = Arrays.asList("row", "reckon", "turn", "soothe", "day");
    private static final List<String> COMPARE = Arrays.asList("<", "<=", ">", ">=", "=", "#");

    private final String text;
    private int at;
    private int start;
    private String token;
    private String law;

    ModelReader(String text) { this.text = text; }

    private boolean letter(int i) {
        return i < text.length() && (text.charAt(i) >= 'a' && text.charAt(i) <= 'z' || text.charAt(i) >= 'A' && text.charAt(i) <= 'Z');
    }

    private boolean digit(int i) { return i < text.length() && text.charAt(i) >= '0' && text.charAt(i) <= '9'; }

    private void next() {
        while (at < text.length() && (text.charAt(at) == 32 || text.charAt(at) == 10)) at++;
        start = at;
        if (at == text.length()) { token = ""; return; }
        if (letter(at)) while (letter(at)) at++;
        else if (digit(at)) while (digit(at)) at++;
        else if (text.startsWith("<=", at) || text.startsWith(">=", at)) at += 2;
        else at++;
        token = text.substring(start, at);
    }

    private Model.Fault fault(int what) { return new Model.Fault(what, start); }

    Model.Script read() {
        Model.Script s = new Model.Script();
        next();
        while (!token.isEmpty()) clause(s);
        return s;
    }

    private void clause(Model.Script s) {
        if (!LAWS.contains(token) && !ORDERS.contains(token)) throw fault(1);
        if (s.laws.containsKey(token)) throw fault(4);
        if (s.clauses.size() == 24) throw fault(6);
        Model.Clause c = new Model.Clause();
        c.kind = token;
        s.clauses.add(c);
        next();
        switch (c.kind) {
            case "gets": law = "gets"; s.laws.put("gets", either()); break;
            case "off": law = "off"; s.laws.put("off", sum(0)); break;
            case "mood": law = "mood"; s.laws.put("mood", sum(0)); break;
            case "row": row(c); break;
            case "reckon": c.numbers.add(number(0, 11)); break;
            case "turn": c.numbers.add(number(0, 9)); word("with"); c.numbers.add(number(0, 9)); break;
            case "soothe": c.numbers.add(number(0, 9)); word("to"); c.numbers.add(number(0, 9)); break;
            default: c.numbers.add(number(1, 60)); break;
        }
        word(";");
    }

    private void word(String wanted) {
        if (!token.equals(wanted)) throw fault(1);
        next();
    }

    private int number(int least, int most) {
        if (token.isEmpty() || !digit(start)) throw fault(1);
        java.math.BigInteger v = new java.math.BigInteger(token);
        if (v.bitLength() > 30 || v.intValue() < least || v.intValue() > most) throw fault(2);
        next();
        return v.intValue();
    }

    private void row(Model.Clause c) {
        if (token.equals("-")) { c.minus = 1; next(); }
        c.numbers.add(number(0, 9999));
        while (token.equals("+") || token.equals("-")) {
            if (token.equals("-")) c.minus |= 1 << c.numbers.size();
            next();
            int place = start;
            c.numbers.add(number(0, 9999));
            if (c.numbers.size() == 5) throw new Model.Fault(7, place);
        }
    }

    private Model.Node either() {
        Model.Node a = both();
        while (token.equals("or")) {
            next();
            Model.Node l = a;
            Model.Node r = both();
            a = n -> l.of(n) + r.of(n) > 0 ? 1 : 0;
        }
        return a;
    }

    private Model.Node both() {
        Model.Node a = ask(0);
        while (token.equals("and")) {
            next();
            Model.Node l = a;
            Model.Node r = ask(0);
            a = n -> l.of(n) * r.of(n);
        }
        return a;
    }

    private void open(int depth) { if (depth == 8) throw fault(3); }

    private Model.Node ask(int depth) {
        if (token.equals("not")) {
            open(depth);
            next();
            Model.Node a = ask(depth + 1);
            return n -> a.of(n) == 0 ? 1 : 0;
        }
        Model.Node l = sum(depth);
        String how = token;
        if (!COMPARE.contains(how)) throw fault(1);
        next();
        Model.Node r = sum(depth);
        return n -> {
            long x = l.of(n);
            long y = r.of(n);
            boolean so = how.equals("<") ? x < y : how.equals("<=") ? x <= y : how.equals(">") ? x > y
                    : how.equals(">=") ? x >= y : how.equals("=") ? x == y : x != y;
            return so ? 1 : 0;
        };
    }

    private static long bound(long v) { return v > 1000000 ? 1000000 : v < -1000000 ? -1000000 : v; }

    private Model.Node sum(int depth) {
        Model.Node a = product(depth);
        while (token.equals("+") || token.equals("-")) {
            int sign = token.equals("+") ? 1 : -1;
            next();
            Model.Node l = a;
            Model.Node r = product(depth);
            a = n -> bound(l.of(n) + sign * r.of(n));
        }
        return a;
    }

    private Model.Node product(int depth) {
        Model.Node a = one(depth);
        while (token.equals("*") || token.equals("/") || token.equals("%")) {
            String how = token;
            next();
            Model.Node l = a;
            Model.Node r = one(depth);
            a = n -> {
                long x = l.of(n);
                long y = r.of(n);
                if (how.equals("*")) return bound(x * y);
                if (y == 0) return 0;
                return how.equals("/") ? x / y : x % y;
            };
        }
        return a;
    }

    private Model.Node one(int depth) {
        if (!token.isEmpty() && digit(start)) {
            int v = number(0, 9999);
            return n -> v;
        }
        if (OF_TWO.contains(token) || OF_ONE.contains(token)) {
            if (!(law.equals("mood") ? OF_ONE : OF_TWO).contains(token)) throw fault(5);
            String name = token;
            next();
            return n -> n.get(name);
        }
        if (token.equals("(")) {
            open(depth);
            next();
            Model.Node a = sum(depth + 1);
            word(")");
            return a;
        }
        if (token.equals("-")) {
            open(depth);
            next();
            Model.Node a = one(depth + 1);
            return n -> -a.of(n);
        }
        if (token.equals("more") || token.equals("less")) {
            boolean more = token.equals("more");
            open(depth);
            next();
            word("(");
            Model.Node l = sum(depth + 1);
            word(",");
            Model.Node r = sum(depth + 1);
            word(")");
            return n -> more ? Math.max(l.of(n), r.of(n)) : Math.min(l.of(n), r.of(n));
        }
        throw fault(1);
    }
}
