import java.util.Random;

/** Random runs of calls, each answer compared with the model's. The seeds are fixed. */
public final class ModelTest {
    private static final int RUNS = 120;
    private static final int CALLS = 512;
    private static final int TEXTS = 20000;

    private final Random dice;
    private final PurseTrace x = new PurseTrace();
    private final Model y = new Model();
    private final Due due;
    /** Whether orders and rows are asked: they are dear, so only in some runs. */
    private final boolean dear;

    private ModelTest(long seed, Due due) {
        this.dice = new Random(seed);
        this.due = due;
        this.dear = seed % 4 == 0;
    }

    public static void main(String[] args) {
        Due due = new Due("ModelTest");
        int runs = args.length > 0 ? Integer.parseInt(args[0]) : RUNS;
        for (int seed = 1; seed <= runs; seed++) {
            new ModelTest(seed, due).run();
        }
        readTexts(due);
        due.end();
    }

    /** Many more texts than the runs have room for, whole and spoiled ones. */
    private static void readTexts(Due due) {
        Texts texts = new Texts(new Random(7));
        for (int i = 0; i < TEXTS; i++) {
            String text = texts.any();
            int got = Due.rules(new PurseTrace(), 0, text);
            due.is("rules of " + text, got, Model.fault(text));
        }
    }

    private void run() {
        int persons = 2 + dice.nextInt(4);
        for (int i = 0; i < persons; i++) {
            due.is("person()", x.person(), y.person());
        }
        int purses = 2 + dice.nextInt(4);
        for (int i = 0; i < purses; i++) {
            int holder = dice.nextInt(persons);
            int land = dice.nextInt(2);
            due.is("purse()", x.purse(holder, land), y.purse(holder, land));
        }
        due.is("thing()", x.thing(), y.thing());
        due.is("thing()", x.thing(), y.thing());
        for (int i = 0; i < CALLS - 20; i++) {
            call();
        }
    }

    private int from(int low, int high) {
        return low + dice.nextInt(high - low + 1);
    }

    private int person() {
        return from(dice.nextInt(9) == 0 ? -1 : 0, y.persons - (dice.nextInt(9) == 0 ? 0 : 1));
    }

    private int purse() {
        int last = y.purses.size() - (dice.nextInt(15) == 0 ? 0 : 1);
        return from(dice.nextInt(15) == 0 ? -1 : 0, last);
    }

    private int thing() {
        return from(dice.nextInt(15) == 0 ? -1 : 0, y.things - (dice.nextInt(15) == 0 ? 0 : 1));
    }

    private int day() {
        return dice.nextInt(20) == 0 ? from(-1, 4000) : from(Math.max(0, y.now - 4), y.now + 1);
    }

    private int sum() {
        return dice.nextInt(25) == 0 ? 0 : from(1, 12);
    }

    private int lineOf() {
        return from(-1, y.lines.size());
    }

    private void call() {
        int kind = dice.nextInt(100);
        if (kind < 30) {
            tellLine();
        } else if (kind < 38) {
            tellRules();
        } else if (kind < 60) {
            askMoney();
        } else if (kind < 70) {
            askLine();
        } else if (kind < 76) {
            tellMore();
        } else if (kind < 84) {
            askRows();
        } else if (kind < 93) {
            debtsAndCheck();
        } else {
            int what = from(-1, 42);
            due.is("count(" + what + ")", x.count(what), y.count(what));
        }
    }

    private void tellLine() {
        int p = purse();
        int q = purse();
        int s = sum();
        int d = from(Math.max(0, y.now - 2), y.now + (dice.nextInt(12) == 0 ? 1 : 0));
        int a = from(dice.nextInt(30) == 0 ? -1 : 0, 10);
        int b = from(a - (dice.nextInt(30) == 0 ? 1 : 0), dice.nextInt(30) == 0 ? 24 : 23);
        int o = person();
        int k = thing();
        int what = dice.nextInt(10);
        if (what < 4) {
            due.is("come", x.line(0, p, o, s + 6, d, a, b), y.line(0, p, o, s + 6, d, a, b));
        } else if (what < 5) {
            int other = dice.nextInt(8) == 0 ? o : -1;
            due.is("spent", x.line(2, p, other, s, d, a, b), y.line(2, p, other, s, d, a, b));
        } else if (what < 6) {
            int which = dice.nextInt(9) == 0 ? from(-1, 6) : 5;
            due.is("good", x.line(which, p, o, s, d, a, b), y.line(which, p, o, s, d, a, b));
        } else if (what < 8) {
            boolean gave = dice.nextInt(3) > 0;
            due.is("move", x.move(p, q, s, gave, d, a, b), y.move(p, q, s, gave, d, a, b));
        } else {
            boolean sell = dice.nextBoolean();
            due.is("deal", x.deal(sell, p, k, s, d, a, b), y.deal(sell, p, k, s, d, a, b));
        }
    }

    private void feed(int a, int b, int c, int d, int e) {
        due.is("feed", x.feed(a, b, c, d, e), y.feed(a, b, c, d, e));
    }

    private void tellRules() {
        String text = new Texts(dice).any();
        for (int at = 0; at < text.length() && y.tape.size() < 400; at += 20) {
            int[] w = new int[5];
            for (int i = 0; i < 20; i++) {
                int sign = at + i < text.length() ? text.charAt(at + i) : 32;
                w[i / 4] = w[i / 4] << 8 | sign;
            }
            feed(w[0], w[1], w[2], w[3], w[4]);
        }
        int n = text.length() + (dice.nextInt(20) == 0 ? from(-2, 2) : 0);
        int land = from(dice.nextInt(20) == 0 ? -1 : 0, dice.nextInt(20) == 0 ? 4 : 1);
        int a = dice.nextInt(3) == 0 ? day() : 0;
        int b = dice.nextInt(3) == 0 ? day() : 3999;
        due.is("rules of " + text, x.rules(land, a, b, n), y.rules(land, a, b, n));
    }

    private void askMoney() {
        int p = purse();
        int k = thing();
        int o = person();
        int d = day();
        int t = day();
        int i = from(-1, 8);
        due.is("left", x.left(p, o, d, t), y.left(p, o, d, t));
        due.is("share", x.share(k, o, d, t), y.share(k, o, d, t));
        due.is("lost", x.lost(p, o, d, t), y.lost(p, o, d, t));
        due.is("part", x.part(p, i, 0), y.part(p, i, 0));
        due.is("part", x.part(p, i, 1), y.part(p, i, 1));
    }

    private void askLine() {
        int i = lineOf();
        int o = person();
        int t = day();
        int what = from(-1, 10);
        due.is("took", x.took(i, o, t), y.took(i, o, t));
        due.is("way", x.way(i, t), y.way(i, t));
        due.is("fails", x.fails(t), y.fails(t));
        due.is("look", x.look(i, what), y.look(i, what));
        int w = from(-1, 5);
        int p = purse();
        int q = purse();
        due.is("beside", x.beside(p, o, q, w), y.beside(p, o, q, w));
    }

    private void tellMore() {
        int what = dice.nextInt(8);
        int a = person();
        int b = person();
        if (what < 3) {
            int d = dice.nextInt(9) == 0 ? from(-1, 4000) : y.now + from(0, 2);
            due.is("now", x.now(d), y.now(d));
        } else if (what < 4) {
            int i = lineOf();
            due.is("strike", x.strike(i), y.strike(i));
        } else if (what < 6) {
            int d = day();
            due.is("knows", x.knows(a, b, d), y.knows(a, b, d));
        } else if (what < 7) {
            due.is("person", x.person(), y.person());
        } else {
            int land = from(-1, 4);
            due.is("purse", x.purse(a, land), y.purse(a, land));
            due.is("thing", x.thing(), y.thing());
        }
    }

    private void askRows() {
        int p = purse();
        int q = purse();
        int o = person();
        int w = from(dice.nextInt(20) == 0 ? -1 : 0, dice.nextInt(20) == 0 ? 5 : 4);
        int v = from(dice.nextInt(20) == 0 ? -1 : 0, dice.nextInt(20) == 0 ? 5 : 4);
        int what = dice.nextInt(10);
        if (what < 3) {
            int bits = dice.nextInt(3) == 0 ? 0 : 1 << w & 31 | 1 << v & 31;
            bits = dice.nextInt(20) == 0 ? from(-1, 32) : bits;
            due.is("choose", x.choose(p, bits), y.choose(p, bits));
        } else if (what < 6) {
            due.is("bar", x.bar(p, w, q, v), y.bar(p, w, q, v));
        } else if (what < 8 || !dear) {
            int row = dice.nextInt(5) == 0 ? from(-1, 700) : from(0, 24);
            due.is("judge", x.judge(o, row), y.judge(o, row));
        } else if (what < 9) {
            int i = from(-1, 4);
            due.is("best", x.best(o), y.best(o));
            due.is("chosen", x.chosen(o, i), y.chosen(o, i));
        } else {
            int d = day();
            for (int i = 0; i < 3; i++) {
                due.is("sure", x.sure(p, o, d, i), y.sure(p, o, d, i));
            }
        }
    }

    private void debtsAndCheck() {
        int what = dice.nextInt(4);
        int a = person();
        int b = person();
        int s = sum();
        int rank = from(dice.nextInt(9) == 0 ? -1 : 0, dice.nextInt(9) == 0 ? 4 : 3);
        int i = from(-1, y.debts.size());
        if (what == 0) {
            due.is("debt", x.debt(a, b, s, rank), y.debt(a, b, s, rank));
        } else if (what < 3) {
            due.is("paid", x.paid(i), y.paid(i));
        } else {
            check();
        }
    }

    /** Tells the right numbers, sometimes with one spoiled, or some too few or too many. */
    private void check() {
        int[] numbers = new int[35];
        int size = 0;
        for (int p = 0; p < y.purses.size(); p++) {
            for (int o = 0; o < y.persons && size < 30; o++) {
                int sum = y.left(p, o, y.now, y.now);
                if (sum > 0) {
                    numbers[size++] = p;
                    numbers[size++] = o;
                    numbers[size++] = sum;
                }
            }
        }
        if (dice.nextInt(3) == 0) {
            numbers[dice.nextInt(Math.max(1, size))] += from(-1, 1) << dice.nextInt(32);
        }
        if (y.tape.isEmpty() || dice.nextInt(5) == 0) {
            for (int k = 0; k < size; k += 5) {
                feed(numbers[k], numbers[k + 1], numbers[k + 2], numbers[k + 3], numbers[k + 4]);
            }
        }
        int n = size / 3 + (dice.nextInt(3) == 0 ? from(-1, 1) : 0);
        due.is("check(" + n + ")", x.check(n), y.check(n));
    }
}
