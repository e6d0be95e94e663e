import java.util.ArrayDeque;
import java.util.ArrayList;
import java.util.Arrays;
import java.util.Collections;
import java.util.Comparator;
import java.util.Deque;
import java.util.List;

/**
 * The document once more, told another way: a purse is a list of single coins, a text is read
 * by a table of states and asked again from its letters, an order is picked line by line.
 * It is slow and wants small sums.
 */
final class Model {
    static final int NONE = -1;

    static final class Line {
        int number, kind, p, other, sum, day, from, to, told;
        int struck = NONE;
        boolean gave;
    }

    static final class Rules {
        int number, land, from, to, told;
        String[] clauses;
    }

    static final class World {
        List<List<Integer>> purses = new ArrayList<>();
        int[][] shares = new int[10][10];
        int[][] lost = new int[10][10];
        int fails;
        int lastWay;
        boolean lastFailed;
        int[] lastGot;
    }

    static final class Refused extends RuntimeException {
        private static final long serialVersionUID = 1;
    }

    int now, persons, things;
    final List<int[]> purses = new ArrayList<>();
    final List<Line> lines = new ArrayList<>();
    final List<Rules> books = new ArrayList<>();
    final List<int[]> tellings = new ArrayList<>();
    final List<int[]> debts = new ArrayList<>();
    final List<int[]> bars = new ArrayList<>();
    final int[] choices = new int[10];
    final List<Integer> tape = new ArrayList<>();

    private boolean person_(int o) { return 0 <= o && o < persons; }
    private boolean purse_(int p) { return 0 <= p && p < purses.size(); }
    private boolean thing_(int k) { return 0 <= k && k < things; }
    private boolean line_(int i) { return 0 <= i && i < lines.size(); }
    private static boolean day_(int d) { return 0 <= d && d <= 3999; }
    private static boolean sum_(int s) { return 1 <= s && s <= 1000000; }
    private static boolean way_(int w) { return 0 <= w && w <= 4; }

    boolean now(int day) {
        if (!day_(day) || day < now) return false;
        now = day;
        return true;
    }

    int person() { return persons == 10 ? NONE : persons++; }

    int thing() { return things == 10 ? NONE : things++; }

    int purse(int holder, int land) {
        if (!person_(holder) || land < 0 || land > 3 || purses.size() == 10) return NONE;
        purses.add(new int[] {holder, land});
        return purses.size() - 1;
    }

    private int tell(int kind, int p, int other, int sum, boolean gave, int[] when) {
        boolean time = day_(when[0]) && when[0] <= now
            && when[1] >= 0 && when[2] >= when[1] && when[2] < 24;
        if (!purse_(p) || !sum_(sum) || !time || lines.size() == 100) return NONE;
        Line l = new Line();
        l.number = lines.size();
        l.kind = kind;
        l.p = p;
        l.other = other;
        l.sum = sum;
        l.gave = gave;
        l.day = when[0];
        l.from = when[1];
        l.to = when[2];
        l.told = now;
        lines.add(l);
        return l.number;
    }

    int line(int kind, int p, int other, int sum, int day, int from, int to) {
        boolean ok = kind == 2 ? other == NONE : (kind == 0 || kind == 5) && person_(other);
        return ok ? tell(kind, p, other, sum, false, new int[] {day, from, to}) : NONE;
    }

    int move(int p, int q, int sum, boolean gave, int day, int from, int to) {
        boolean ok = purse_(q) && p != q;
        return ok ? tell(1, p, q, sum, gave, new int[] {day, from, to}) : NONE;
    }

    int deal(boolean sell, int p, int k, int sum, int day, int from, int to) {
        return thing_(k) ? tell(sell ? 4 : 3, p, k, sum, false, new int[] {day, from, to}) : NONE;
    }

    boolean strike(int i) {
        if (!line_(i) || lines.get(i).struck != NONE) return false;
        lines.get(i).struck = now;
        return true;
    }

    int feed(int... words) {
        if (tape.size() + 20 > 400) return NONE;
        for (int word : words) {
            for (int k = 3; k >= 0; k--) tape.add(word >>> 8 * k & 255);
        }
        return tape.size();
    }

    int rules(int land, int from, int to, int n) {
        if (land < 0 || land > 3 || !day_(from) || !day_(to) || from > to) return NONE;
        if (n < 1 || n > 160 || n > tape.size() || books.size() == 20) return NONE;
        StringBuilder text = new StringBuilder();
        for (int i = 0; i < n; i++) text.append((char) (int) tape.get(i));
        tape.clear();
        int fault = fault(text.toString());
        if (fault != 0) return fault;
        Rules r = new Rules();
        r.number = books.size();
        r.land = land;
        r.from = from;
        r.to = to;
        r.told = now;
        r.clauses = text.toString().split(";");
        books.add(r);
        return r.number;
    }

    /** Reads by states: what may stand next is told by the state and what is open. */
    static int fault(String text) {
        Deque<Character> open = new ArrayDeque<>();
        String state = "clause";
        char letter = ' ';
        boolean compared = false;
        int clauses = 0, digits = 0, value = 0;
        for (int at = 0; at <= text.length(); at++) {
            char c = at < text.length() ? text.charAt(at) : (char) 999;
            boolean digit = c >= '0' && c <= '9';
            if (digit && (state.equals("number") || state.equals("index"))) {
                if (digits == 6) return -2000 - at;
                digits++;
                value = value * 10 + c - '0';
                continue;
            }
            if (state.equals("index")) {
                int limit = letter == 'w' ? 4 : letter == 'x' ? 19 : 11;
                if (value > limit) return -3000 - (at - digits);
                char want = letter == 'w' ? '(' : letter == 'x' ? '.' : ';';
                if (letter == 'j' && c == 999) return 0;
                if (c != want) return -1000 - at;
                if (letter == 'x') {
                    letter = 'j';
                    state = "first";
                } else if (letter == 'j') {
                    state = "clause";
                } else {
                    open.push('(');
                    state = "piece";
                }
                continue;
            }
            if (state.equals("number")) state = "behind";
            switch (state) {
                case "clause":
                    if ("wrgx".indexOf(c) < 0) return -1000 - at;
                    if (clauses == 12) return -4000 - at;
                    clauses++;
                    letter = c;
                    state = c == 'w' || c == 'x' ? "first" : "open";
                    break;
                case "first":
                    if (!digit) return -1000 - at;
                    digits = 1;
                    value = c - '0';
                    state = "index";
                    break;
                case "open":
                    if (c != '(') return -1000 - at;
                    open.push('(');
                    state = "piece";
                    break;
                case "piece":
                    if (c == '!' || c == '(') {
                        if (open.size() == 6) return -5000 - at;
                        open.push(c);
                        break;
                    }
                    compared = false;
                    state = "factor";
                    at--;
                    break;
                case "factor":
                    if (c == '[') {
                        if (open.size() == 6) return -5000 - at;
                        open.push(c);
                    } else if (digit) {
                        digits = 1;
                        value = c - '0';
                        state = "number";
                    } else if ("sdkphton".indexOf(c) >= 0) {
                        state = "behind";
                    } else {
                        return -1000 - at;
                    }
                    break;
                case "behind":
                    if ("*/%+-".indexOf(c) >= 0) {
                        state = "factor";
                    } else if (open.peek() == '[') {
                        if (c != ']') return -1000 - at;
                        open.pop();
                    } else if (!compared) {
                        if ("<>=".indexOf(c) < 0) return -1000 - at;
                        compared = true;
                        state = "factor";
                    } else {
                        state = "done";
                        at--;
                    }
                    break;
                case "done":
                    while (!open.isEmpty() && open.peek() == '!') open.pop();
                    if (c == '&' || c == '|') {
                        state = "piece";
                    } else if (c == ')') {
                        open.pop();
                        if (open.isEmpty()) state = "end";
                    } else {
                        return -1000 - at;
                    }
                    break;
                default:
                    if (c == 999) return 0;
                    if (c != ';') return -1000 - at;
                    state = "clause";
            }
        }
        throw new IllegalStateException(text);
    }

    boolean knows(int a, int b, int day) {
        if (!person_(a) || !person_(b) || a == b || !day_(day) || tellings.size() == 100) {
            return false;
        }
        tellings.add(new int[] {a, b, day, now});
        return true;
    }

    private List<Line> known(int d, int t) {
        List<Line> all = new ArrayList<>();
        for (Line l : lines) {
            boolean struck = l.struck != NONE && l.struck <= t;
            if (l.told <= t && !struck && l.day <= d) all.add(l);
        }
        all.sort(Comparator.<Line>comparingInt(l -> l.day).thenComparingInt(l -> l.from)
            .thenComparingInt(l -> l.number));
        return all;
    }

    private World play(List<Line> list, int t, int[] forced) {
        World w = new World();
        for (int p = 0; p < 10; p++) w.purses.add(new ArrayList<>());
        for (Line l : list) apply(w, l, t, forced);
        return w;
    }

    private World end(int d, int t) {
        return play(known(d, t), t, null);
    }

    private static int of(List<Integer> coins, int o) {
        return o == NONE ? coins.size() : Collections.frequency(coins, o);
    }

    private void apply(World w, Line l, int t, int[] forced) {
        List<Integer> purse = w.purses.get(l.p);
        int holder = purses.get(l.p)[0];
        int land = purses.get(l.p)[1];
        long[] letters = letters(l, purse, holder);
        w.lastFailed = false;
        w.lastWay = -3;
        w.lastGot = new int[10];
        List<Integer> taken = new ArrayList<>();
        if (l.kind >= 1 && l.kind <= 3) {
            String c = clause('w', land, l.day, t, letters);
            int way = c == null ? 0 : Integer.parseInt(c.substring(1, c.indexOf('(')));
            if (forced != null && forced[l.p] != NONE) way = forced[l.p];
            w.lastWay = way;
            boolean ends = l.kind == 1 && l.gave
                && clause('g', purses.get(l.other)[1], l.day, t, letters) != null;
            if (purse.size() < l.sum) {
                w.lastFailed = true;
                w.fails++;
                return;
            }
            taken = take(purse, l.sum, way, holder);
            for (int o : taken) {
                w.lastGot[o]++;
                if (l.kind == 1) {
                    int to = purses.get(l.other)[0];
                    w.purses.get(l.other).add(ends && !knew(to, o, l.day, t) ? to : o);
                } else if (l.kind == 2) {
                    if (o != holder) w.lost[l.p][o]++;
                } else {
                    w.shares[l.other][o]++;
                }
            }
            return;
        }
        int before = purse.size();
        if (l.kind == 0) {
            add(purse, l.other, l.sum);
        } else if (l.kind == 4) {
            boolean rises = clause('r', land, l.day, t, letters) != null;
            sell(w.shares[l.other], purse, l.sum, holder, rises);
        } else {
            for (int n = 0; n < l.sum; n++) {
                boolean back = w.lost[l.p][l.other] > 0;
                if (back) w.lost[l.p][l.other]--;
                purse.add(back ? l.other : holder);
            }
        }
        for (int o : purse.subList(before, purse.size())) w.lastGot[o]++;
    }

    private static long[] letters(Line l, List<Integer> purse, int holder) {
        long persons = purse.stream().distinct().count();
        return new long[] {l.sum, l.day, l.kind, l.p, holder, purse.size(), of(purse, holder),
            persons};
    }

    private static void add(List<Integer> purse, int o, int n) {
        for (int i = 0; i < n; i++) purse.add(o);
    }

    private static void sell(int[] shares, List<Integer> purse, int sum, int holder, boolean up) {
        int[] weights = shares.clone();
        Arrays.fill(shares, 0);
        int all = Arrays.stream(weights).sum();
        int[] gets = new int[10];
        int own = weights[holder];
        if (all == 0) {
            gets[holder] = sum;
        } else if (up) {
            gets = split(sum, weights);
        } else if (sum >= all - own) {
            gets = weights.clone();
            gets[holder] = sum - (all - own);
        } else {
            weights[holder] = 0;
            gets = split(sum, weights);
        }
        for (int o = 0; o < 10; o++) add(purse, o, gets[o]);
    }

    private static int[] split(int sum, int[] weights) {
        int all = Arrays.stream(weights).sum();
        int[] parts = new int[weights.length];
        int left = sum;
        for (int i = 0; i < weights.length; i++) {
            parts[i] = (int) Math.floorDiv((long) sum * weights[i], (long) all);
            left -= parts[i];
        }
        for (int i = 0; left > 0; i = (i + 1) % weights.length) {
            if (weights[i] > 0) {
                parts[i]++;
                left--;
            }
        }
        return parts;
    }

    private static List<Integer> take(List<Integer> purse, int sum, int way, int holder) {
        List<Integer> places = new ArrayList<>();
        for (int i = 0; i < purse.size(); i++) places.add(i);
        if (way == 1) Collections.reverse(places);
        if (way == 3) places.sort(Comparator.comparingInt(i -> purse.get(i) == holder ? 0 : 1));
        if (way == 4) places.sort(Comparator.comparingInt(i -> purse.get(i) == holder ? 1 : 0));
        List<Integer> picked = new ArrayList<>();
        if (way == 2) {
            int[] parts = new int[10];
            int still = sum;
            for (int o = 0; o < 10; o++) {
                parts[o] = (int) ((long) sum * of(purse, o) / purse.size());
                still -= parts[o];
            }
            while (still > 0) {
                for (int o = 0; o < 10; o++) {
                    if (still > 0 && of(purse, o) > parts[o]) {
                        parts[o]++;
                        still--;
                    }
                }
            }
            for (int o = 0; o < 10; o++) {
                for (int i : places) {
                    if (purse.get(i) == o && parts[o] > 0) {
                        picked.add(i);
                        parts[o]--;
                    }
                }
            }
        } else {
            picked.addAll(places.subList(0, sum));
        }
        List<Integer> taken = new ArrayList<>();
        for (int i : picked) taken.add(purse.get(i));
        List<Integer> rest = new ArrayList<>();
        for (int i = 0; i < purse.size(); i++) if (!picked.contains(i)) rest.add(purse.get(i));
        purse.clear();
        purse.addAll(rest);
        return taken;
    }

    private boolean knew(int a, int b, int day, int t) {
        for (int[] k : tellings) {
            if (k[0] == a && k[1] == b && k[2] <= day && k[3] <= t) return true;
        }
        return false;
    }

    private String clause(char letter, int land, int day, int t, long[] letters) {
        List<String> struck = new ArrayList<>();
        for (int r = books.size() - 1; r >= 0; r--) {
            Rules b = books.get(r);
            if (b.told > t || b.land != land || day < b.from || day > b.to) continue;
            List<String> strikes = new ArrayList<>();
            for (int j = 0; j < b.clauses.length; j++) {
                String c = b.clauses[j];
                if (struck.contains(r + "." + j)) continue;
                if (c.charAt(0) == 'x') {
                    String[] two = c.substring(1).split("\\.");
                    strikes.add(Integer.parseInt(two[0]) + "." + Integer.parseInt(two[1]));
                } else if (c.charAt(0) == letter && holds(c, letters)) {
                    return c;
                }
            }
            struck.addAll(strikes);
        }
        return null;
    }

    private boolean holds(String clause, long[] letters) {
        try {
            int start = clause.indexOf('(') + 1;
            return condition(clause.substring(start, clause.length() - 1), letters);
        } catch (Refused refused) {
            return false;
        }
    }

    /** Splits at signs that stand in no bracket. */
    private static List<String> cut(String text, String signs) {
        List<String> all = new ArrayList<>();
        int open = 0, from = 0;
        for (int i = 0; i < text.length(); i++) {
            char c = text.charAt(i);
            if (c == '(' || c == '[') open++;
            if (c == ')' || c == ']') open--;
            if (open == 0 && signs.indexOf(c) >= 0) {
                all.add(text.substring(from, i));
                all.add("" + c);
                from = i + 1;
            }
        }
        all.add(text.substring(from));
        return all;
    }

    private boolean condition(String text, long[] letters) {
        List<String> parts = cut(text, "|");
        for (int i = 0; i < parts.size(); i += 2) {
            if (all(parts.get(i), letters)) return true;
        }
        return false;
    }

    private boolean all(String text, long[] letters) {
        List<String> pieces = cut(text, "&");
        for (int i = 0; i < pieces.size(); i += 2) {
            if (!piece(pieces.get(i), letters)) return false;
        }
        return true;
    }

    private boolean piece(String text, long[] letters) {
        if (text.charAt(0) == '!') return !piece(text.substring(1), letters);
        if (text.charAt(0) == '(') {
            return condition(text.substring(1, text.length() - 1), letters);
        }
        List<String> sides = cut(text, "<>=");
        long a = reckon(sides.get(0), letters);
        long b = reckon(sides.get(2), letters);
        char sign = sides.get(1).charAt(0);
        return sign == '<' ? a < b : sign == '>' ? a > b : a == b;
    }

    private long reckon(String text, long[] letters) {
        List<String> terms = cut(text, "+-");
        long value = term(terms.get(0), letters);
        for (int i = 1; i < terms.size(); i += 2) {
            long next = term(terms.get(i + 1), letters);
            value = terms.get(i).equals("+") ? value + next : value - next;
        }
        return value;
    }

    private long term(String text, long[] letters) {
        List<String> factors = cut(text, "*/%");
        long value = factor(factors.get(0), letters);
        for (int i = 1; i < factors.size(); i += 2) {
            long next = factor(factors.get(i + 1), letters);
            if (!factors.get(i).equals("*") && next == 0) throw new Refused();
            value = factors.get(i).equals("*") ? value * next
                : factors.get(i).equals("/") ? value / next : value % next;
        }
        return value;
    }

    private long factor(String text, long[] letters) {
        char c = text.charAt(0);
        if (c == '[') return reckon(text.substring(1, text.length() - 1), letters);
        return c <= '9' ? Long.parseLong(text) : letters["sdkphton".indexOf(c)];
    }

    int left(int p, int o, int d, int t) {
        if (!purse_(p) || o != NONE && !person_(o) || !day_(d) || !day_(t)) return NONE;
        return of(end(d, t).purses.get(p), o);
    }

    int share(int k, int o, int d, int t) {
        if (!thing_(k) || o != NONE && !person_(o) || !day_(d) || !day_(t)) return NONE;
        int[] shares = end(d, t).shares[k];
        return o == NONE ? Arrays.stream(shares).sum() : shares[o];
    }

    int lost(int p, int o, int d, int t) {
        if (!purse_(p) || !person_(o) || !day_(d) || !day_(t)) return NONE;
        return end(d, t).lost[p][o];
    }

    int part(int p, int i, int what) {
        if (!purse_(p) || i < 0 || what != 0 && what != 1) return NONE;
        List<int[]> parts = new ArrayList<>();
        for (int o : end(now, now).purses.get(p)) {
            int last = parts.size() - 1;
            if (last >= 0 && parts.get(last)[0] == o) {
                parts.get(last)[1]++;
            } else {
                parts.add(new int[] {o, 1});
            }
        }
        return i < parts.size() ? parts.get(i)[what] : NONE;
    }

    private World through(int i, int t) {
        List<Line> list = new ArrayList<>();
        for (Line l : known(3999, t)) {
            list.add(l);
            if (l.number == i) return play(list, t, null);
        }
        return null;
    }

    int took(int i, int o, int t) {
        if (!line_(i) || !person_(o) || !day_(t)) return NONE;
        World w = through(i, t);
        return w == null ? -3 : w.lastFailed ? -2 : w.lastGot[o];
    }

    int way(int i, int t) {
        if (!line_(i) || !day_(t)) return NONE;
        World w = through(i, t);
        return w == null ? -3 : w.lastWay;
    }

    int fails(int t) {
        return day_(t) ? end(3999, t).fails : NONE;
    }

    int sure(int p, int o, int day, int what) {
        if (!purse_(p) || !person_(o) || !day_(day) || what < 0 || what > 2) return NONE;
        List<Line> ahead = new ArrayList<>(), those = new ArrayList<>(), behind = new ArrayList<>();
        for (Line l : known(3999, now)) {
            (l.day < day ? ahead : l.day == day ? those : behind).add(l);
        }
        if (those.size() > 6) return NONE;
        List<Integer> found = new ArrayList<>();
        pick(ahead, those, behind, found, p, o);
        return what == 0 ? Collections.min(found) : what == 1 ? Collections.max(found)
            : found.size();
    }

    private void pick(List<Line> done, List<Line> rest, List<Line> behind, List<Integer> found,
            int p, int o) {
        if (rest.isEmpty()) {
            List<Line> all = new ArrayList<>(done);
            all.addAll(behind);
            found.add(of(play(all, now, null).purses.get(p), o));
        }
        for (Line l : rest) {
            boolean free = true;
            for (Line m : rest) free &= m.to >= l.from;
            if (free) {
                List<Line> next = new ArrayList<>(done);
                next.add(l);
                List<Line> others = new ArrayList<>(rest);
                others.remove(l);
                pick(next, others, behind, found, p, o);
            }
        }
    }

    int beside(int p, int o, int q, int w) {
        if (!purse_(p) || !person_(o) || !purse_(q) || !way_(w)) return NONE;
        int[] forced = new int[10];
        Arrays.fill(forced, NONE);
        forced[q] = w;
        return of(play(known(now, now), now, forced).purses.get(p), o);
    }

    private List<Integer> choosing() {
        List<Integer> all = new ArrayList<>();
        for (int p = 0; p < 10; p++) if (choices[p] != 0) all.add(p);
        return all;
    }

    boolean choose(int p, int ways) {
        if (!purse_(p) || ways < 0 || ways > 31) return false;
        List<Integer> others = choosing();
        others.remove((Integer) p);
        if (ways != 0 && others.size() >= 4) return false;
        choices[p] = ways;
        return true;
    }

    private boolean barred(int p, int w, int q, int v) {
        for (int[] b : bars) {
            if (Arrays.equals(b, new int[] {p, w, q, v})) return true;
            if (Arrays.equals(b, new int[] {q, v, p, w})) return true;
        }
        return false;
    }

    boolean bar(int p, int w, int q, int v) {
        if (!purse_(p) || !purse_(q) || p == q || !way_(w) || !way_(v)) return false;
        if (barred(p, w, q, v) || bars.size() == 40) return false;
        bars.add(new int[] {p, w, q, v});
        return true;
    }

    private boolean lawful(List<Integer> row) {
        List<Integer> open = choosing();
        for (int i = 0; i < open.size(); i++) {
            if ((choices[open.get(i)] & 1 << row.get(i)) == 0) return false;
            for (int j = 0; j < i; j++) {
                if (barred(open.get(i), row.get(i), open.get(j), row.get(j))) return false;
            }
        }
        return true;
    }

    private int worth(int o, List<Integer> row) {
        int[] forced = new int[10];
        Arrays.fill(forced, NONE);
        for (int i = 0; i < row.size(); i++) forced[choosing().get(i)] = row.get(i);
        World w = play(known(now, now), now, forced);
        int all = 0;
        for (int p = 0; p < purses.size(); p++) {
            if (purses.get(p)[0] != o) all += of(w.purses.get(p), o);
        }
        for (int k = 0; k < 10; k++) all += w.shares[k][o];
        return all;
    }

    private List<Integer> bestRow;
    private int bestWorth;

    private void search(int o, List<Integer> row) {
        if (row.size() == choosing().size()) {
            if (lawful(row)) {
                int worth = worth(o, row);
                if (bestRow == null || worth > bestWorth) {
                    bestRow = row;
                    bestWorth = worth;
                }
            }
            return;
        }
        for (int w = 0; w < 5; w++) {
            List<Integer> next = new ArrayList<>(row);
            next.add(w);
            search(o, next);
        }
    }

    int best(int o) {
        if (!person_(o)) return NONE;
        bestRow = null;
        bestWorth = NONE;
        search(o, new ArrayList<>());
        return bestWorth;
    }

    int chosen(int o, int i) {
        if (best(o) == NONE || i < 0 || i >= bestRow.size()) return NONE;
        return bestRow.get(i);
    }

    int judge(int o, int row) {
        List<Integer> ways = new ArrayList<>();
        int rest = row;
        for (int i = 0; i < choosing().size(); i++) {
            ways.add(rest % 5);
            rest /= 5;
        }
        if (!person_(o) || row < 0 || rest != 0) return NONE;
        return lawful(ways) ? worth(o, ways) : -2;
    }

    int debt(int a, int b, int sum, int rank) {
        boolean ok = person_(a) && person_(b) && a != b && sum_(sum) && rank >= 0 && rank < 4;
        if (!ok || debts.size() == 40) return NONE;
        debts.add(new int[] {a, sum, rank});
        return debts.size() - 1;
    }

    int paid(int i) {
        if (i < 0 || i >= debts.size()) return NONE;
        int a = debts.get(i)[0], have = 0;
        World w = end(now, now);
        for (int p = 0; p < purses.size(); p++) {
            if (purses.get(p)[0] == a) have += of(w.purses.get(p), a);
        }
        int[] paid = new int[debts.size()];
        for (int rank = 0; rank < 4; rank++) {
            int[] sums = new int[debts.size()];
            for (int j = 0; j < sums.length; j++) {
                if (debts.get(j)[0] == a && debts.get(j)[2] == rank) sums[j] = debts.get(j)[1];
            }
            int all = Arrays.stream(sums).sum();
            if (all == 0) continue;
            int[] gets = have >= all ? sums : split(have, sums);
            for (int j = 0; j < sums.length; j++) paid[j] += gets[j];
            have = have >= all ? have - all : 0;
        }
        return paid[i];
    }

    int check(int n) {
        if (n < 0 || 12L * n > tape.size()) return -2;
        List<Integer> due = new ArrayList<>();
        World w = end(now, now);
        for (int p = 0; p < purses.size(); p++) {
            for (int o = 0; o < 10; o++) {
                if (of(w.purses.get(p), o) > 0) {
                    Collections.addAll(due, p, o, of(w.purses.get(p), o));
                }
            }
        }
        List<Integer> told = new ArrayList<>();
        for (int i = 0; i < 3 * n; i++) {
            int number = 0;
            for (int k = 0; k < 4; k++) number = number * 256 + tape.get(4 * i + k);
            told.add(number);
        }
        tape.clear();
        for (int i = 0; i < Math.max(due.size(), told.size()); i++) {
            if (i >= due.size() || i >= told.size()) return i;
            if (!due.get(i).equals(told.get(i))) return i;
        }
        return NONE;
    }

    int look(int i, int what) {
        if (!line_(i) || what < 0 || what > 9) return NONE;
        Line l = lines.get(i);
        return new int[] {l.kind, l.p, l.other, l.sum, l.day, l.from, l.to, l.told, l.struck,
            l.gave ? 1 : 0}[what];
    }

    int count(int what) {
        if (what >= 20 && what - 20 < books.size()) return books.get(what - 20).clauses.length;
        if (what < 0 || what > 10) return NONE;
        return new int[] {now, persons, purses.size(), things, lines.size(), books.size(),
            tellings.size(), debts.size(), tape.size(), choosing().size(), bars.size()}[what];
    }
}
