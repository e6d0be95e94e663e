import java.util.Random;

/** Random texts of RULES: mostly whole ones, some spoiled. */
final class Texts {
    private final Random dice;

    Texts(Random dice) {
        this.dice = dice;
    }

    String any() {
        String text = clauses();
        int tries = dice.nextInt(5);
        while (text.length() > 160 && tries-- > 0) {
            text = clauses();
        }
        if (text.length() > 160) {
            text = text.substring(0, 160);
        }
        return dice.nextInt(3) == 0 ? spoiled(text) : text;
    }

    private String spoiled(String text) {
        String signs = "wrgx;()[]!&|<>=+-*/%.0123456789sdkphton \u00ff";
        StringBuilder s = new StringBuilder(text);
        for (int n = dice.nextInt(3); n >= 0 && s.length() > 0; n--) {
            int at = dice.nextInt(s.length());
            char sign = signs.charAt(dice.nextInt(signs.length()));
            switch (dice.nextInt(5)) {
                case 0: s.deleteCharAt(at); break;
                case 1: s.setCharAt(at, sign); break;
                case 2: s.setLength(at); break;
                case 3: s.insert(at, s.substring(at, Math.min(s.length(), at + 7))); break;
                default: s.insert(at, sign);
            }
        }
        if (s.length() == 0) {
            s.append('w');
        }
        s.setLength(Math.min(160, s.length()));
        return s.toString();
    }

    private String clauses() {
        StringBuilder s = new StringBuilder(clause());
        int more = dice.nextInt(12) == 0 ? 9 + dice.nextInt(5) : dice.nextInt(4);
        for (int n = 0; n < more; n++) {
            s.append(';').append(more > 5 ? shortClause() : clause());
        }
        return s.toString();
    }

    private String shortClause() {
        return dice.nextInt(2) == 0 ? "x" + dice.nextInt(6) + ".0" : "r(s<" + dice.nextInt(9) + ")";
    }

    private String clause() {
        switch (dice.nextInt(8)) {
            case 0: return "r(" + condition(1) + ")";
            case 1: return "g(" + condition(1) + ")";
            case 2: return "x" + dice.nextInt(dice.nextInt(9) == 0 ? 21 : 8) + "."
                + dice.nextInt(dice.nextInt(9) == 0 ? 13 : 3);
            default: return "w" + dice.nextInt(dice.nextInt(40) == 0 ? 7 : 5)
                + "(" + condition(1) + ")";
        }
    }

    private String condition(int depth) {
        return dice.nextInt(4) == 0 ? part(depth) + "|" + condition(depth) : part(depth);
    }

    private String part(int depth) {
        return dice.nextInt(4) == 0 ? piece(depth) + "&" + part(depth) : piece(depth);
    }

    private String piece(int depth) {
        int limit = dice.nextInt(60) == 0 ? 9 : 6;
        int what = dice.nextInt(8);
        if (what == 0 && depth < limit) {
            return "!" + piece(depth + 1);
        }
        if (what < 3 && depth < limit) {
            return "(" + condition(depth + 1) + ")";
        }
        return sum(depth) + "<>=".charAt(dice.nextInt(3)) + sum(depth);
    }

    private String sum(int depth) {
        int what = dice.nextInt(6);
        return what > 1 ? term(depth) : sum(depth) + "+-".charAt(what) + term(depth);
    }

    private String term(int depth) {
        int what = dice.nextInt(8);
        return what > 2 ? factor(depth) : term(depth) + "*/%".charAt(what) + factor(depth);
    }

    private String factor(int depth) {
        int limit = dice.nextInt(60) == 0 ? 9 : 6;
        if (depth < limit && dice.nextInt(8) == 0) {
            return "[" + sum(depth + 1) + "]";
        }
        if (dice.nextInt(3) == 0) {
            int most = dice.nextInt(20) == 0 ? 3000000 : dice.nextInt(3) == 0 ? 100 : 13;
            return "" + dice.nextInt(most);
        }
        return "" + "sdkphton".charAt(dice.nextInt(8));
    }
}
