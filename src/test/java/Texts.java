import java.util.Random;

/** Draws TEXTS, most of them without a FAULT. */
final class Texts {
    private final Random random;
    private String law;

    private Texts(Random random) { this.random = random; }

    static String draw(Random random) {
        if (random.nextInt(8) == 0) return deep(random);
        String s = "";
        for (int tries = 0; tries < 20; tries++) {
            s = new Texts(random).text();
            if (s.length() <= 300) break;
        }
        if (s.length() > 300) s = s.substring(0, 300);
        return random.nextInt(3) == 0 ? spoil(s, random) : s;
    }

    /** Seven to nine that are open around one another. */
    private static String deep(Random random) {
        int n = 7 + random.nextInt(3);
        boolean gets = random.nextBoolean();
        String before = gets ? "gets " : "off ";
        int nots = gets ? random.nextInt(5) : 0;
        for (int i = 0; i < nots; i++) before += "not ";
        String behind = gets ? "#3;" : ";";
        for (int i = nots; i < n; i++) {
            switch (random.nextInt(4)) {
                case 0: before += "("; behind = "-1)" + behind; break;
                case 1: before += "-"; break;
                case 2: before += "more("; behind = ",-left)" + behind; break;
                default: before += "less(7,"; behind = ")" + behind; break;
            }
        }
        return before + "right" + behind;
    }

    private static String spoil(String s, Random random) {
        String[] bits = {";", "(", ")", ",", "not ", " and ", " or ", "-", "+", "*", "=", "<=", "10000", "left ", "used ", "more(", "less(",
            "gets ", "row ", "day ", "0", "7", "61", " ", "\n", "A", "\t", "\u00e9", "#", "with", "to", "off ", "mood ", "rows"};
        for (int i = 1 + random.nextInt(3); i > 0; i--) {
            int at = random.nextInt(s.length() + 1);
            int cut = Math.min(s.length(), at + random.nextInt(3));
            s = s.substring(0, at) + (random.nextInt(4) == 0 ? "" : bits[random.nextInt(bits.length)]) + s.substring(cut);
        }
        return s.length() > 300 ? s.substring(0, 300) : s;
    }

    private int in(int least, int most) { return least + random.nextInt(most - least + 1); }

    private String blank() { return random.nextInt(6) == 0 ? (random.nextBoolean() ? " " : "\n") : ""; }

    private String text() {
        StringBuilder b = new StringBuilder();
        if (random.nextInt(4) != 0) { law = "gets"; b.append("gets ").append(either()).append(";"); }
        if (random.nextInt(3) != 0) { law = "off"; b.append("off ").append(sum(0)).append(";"); }
        if (random.nextInt(2) == 0) { law = "mood"; b.append("mood ").append(random.nextBoolean() ? "temper+" : "").append(sum(0)).append(";"); }
        int n = random.nextInt(30) == 0 ? 26 : random.nextInt(6);
        for (int i = 0; i < n; i++) b.append(order()).append(blank());
        return b.toString();
    }

    private String order() {
        switch (random.nextInt(5)) {
            case 0: {
                StringBuilder b = new StringBuilder("row ");
                if (random.nextInt(3) == 0) b.append("-");
                b.append(number());
                for (int k = random.nextInt(4); k > 0; k--) b.append(random.nextBoolean() ? "+" : "-").append(number());
                return b.append(";").toString();
            }
            case 1: return "reckon " + in(0, 4) + ";";
            case 2: return "turn " + in(0, 9) + " with " + in(0, 9) + ";";
            case 3: return "soothe " + in(0, 9) + " to " + in(0, 9) + ";";
            default: return "day " + (random.nextInt(6) == 0 ? in(1, 60) : in(1, 3)) + ";";
        }
    }

    private int number() { return random.nextInt(3) == 0 ? in(0, 9999) : in(0, 99); }

    private String either() {
        String s = both();
        while (random.nextInt(3) == 0) s += " or " + both();
        return s;
    }

    private String both() {
        String s = ask(0);
        while (random.nextInt(3) == 0) s += " and " + ask(0);
        return s;
    }

    private String ask(int depth) {
        if (random.nextInt(5) == 0) return "not " + ask(depth + 1);
        String[] how = {"<", "<=", ">", ">=", "=", "#"};
        return sum(depth) + blank() + how[random.nextInt(6)] + blank() + (random.nextInt(2) == 0 ? "" + in(0, 9) : sum(depth));
    }

    private String sum(int depth) {
        String s = product(depth);
        while (random.nextInt(3) == 0) s += (random.nextBoolean() ? "+" : "-") + blank() + product(depth);
        return s;
    }

    private String product(int depth) {
        String s = one(depth);
        while (random.nextInt(4) == 0) s += "*/%".charAt(random.nextInt(3)) + one(depth);
        return s;
    }

    private String one(int depth) {
        String[] two = {"left", "right", "warm", "cool", "often", "apart", "last", "bad", "day", "warm", "cool"};
        String[] single = {"figure", "temper", "used", "rows", "day"};
        int kind = random.nextInt(depth > 6 ? 7 : 10);
        if (kind < 3) return "" + (random.nextInt(8) == 0 ? in(0, 9999) : in(0, 9));
        if (kind < 7) return law.equals("mood") ? single[random.nextInt(single.length)] : two[random.nextInt(two.length)];
        if (kind == 7) return "(" + sum(depth + 1) + ")";
        if (kind == 8) return "-" + one(depth + 1);
        return (random.nextBoolean() ? "more(" : "less(") + sum(depth + 1) + blank() + "," + sum(depth + 1) + ")";
    }
}
