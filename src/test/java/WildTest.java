import java.util.Random;

/** Calls with any arguments in any state: none throws, and none that is refused changes a count. */
public final class WildTest {
    private static final int[] EDGES = {Integer.MIN_VALUE, -1000, -3, -2, -1, 0, 0, 0, 1, 1, 1, 2, 2,
        3, 4, 5, 6, 7, 9, 10, 11, 12, 19, 20, 23, 24, 31, 32, 33, 39, 40, 41, 99, 100, 160, 161, 400,
        624, 625, 3998, 3999, 4000, 999999, 1000000, 1000001, Integer.MAX_VALUE};

    private final Random dice;
    private final PurseTrace x = new PurseTrace();
    private final Due due;

    private WildTest(long seed, Due due) {
        this.dice = new Random(seed);
        this.due = due;
    }

    public static void main(String[] args) {
        Due due = new Due("WildTest");
        for (int seed = 0; seed < 300; seed++) {
            new WildTest(seed, due).run();
        }
        due.end();
    }

    private int any() {
        return dice.nextInt(3) == 0 ? dice.nextInt(3) : EDGES[dice.nextInt(EDGES.length)];
    }

    private boolean either() {
        return dice.nextBoolean();
    }

    private void run() {
        for (int i = 0; i < 470; i++) {
            int kind = dice.nextInt(40);
            long before = counts();
            try {
                long answer = kind < 20 ? tell(kind) : ask(kind);
                if (kind < 20 && answer == -1) {
                    due.is("counts behind a refused call of kind " + kind, counts(), before);
                }
            } catch (RuntimeException e) {
                due.is("a call of kind " + kind + " threw " + e, 1, 0);
            }
        }
    }

    private long counts() {
        long all = 0;
        for (int what = 0; what <= 10; what++) {
            all = all * 31 + x.count(what);
        }
        return all;
    }

    private long yes(boolean so) {
        return so ? 1 : -1;
    }

    private long tell(int kind) {
        switch (kind) {
            case 0: return yes(x.now(either() ? x.count(0) + dice.nextInt(3) : any()));
            case 1: return x.person();
            case 2: return x.purse(any(), any());
            case 3: return x.thing();
            case 4: case 5: case 6: return x.line(0, any(), any(), any(), any(), any(), any());
            case 7: return x.line(any(), any(), any(), any(), any(), any(), any());
            case 8: case 9: return x.move(any(), any(), any(), either(), any(), any(), any());
            case 10: case 11: return x.deal(either(), any(), any(), any(), any(), any(), any());
            case 12: return yes(x.strike(any()));
            case 13: return x.feed(any(), any(), any(), any(), any());
            case 14: case 15: return x.rules(any(), any(), any(), any());
            case 16: return yes(x.knows(any(), any(), any()));
            case 17: return yes(x.choose(any(), any()));
            case 18: return yes(x.bar(any(), any(), any(), any()));
            default: return x.debt(any(), any(), any(), any());
        }
    }

    private long ask(int kind) {
        switch (kind) {
            case 20: return x.left(any(), any(), any(), any());
            case 21: return x.share(any(), any(), any(), any());
            case 22: return x.lost(any(), any(), any(), any());
            case 23: return x.part(any(), any(), any());
            case 24: return x.took(any(), any(), any());
            case 25: return x.way(any(), any());
            case 26: return x.fails(any());
            case 27: return x.sure(any(), any(), any(), any());
            case 28: return x.beside(any(), any(), any(), any());
            case 29: return dice.nextInt(9) == 0 ? x.best(any()) : 0;
            case 30: return dice.nextInt(9) == 0 ? x.chosen(any(), any()) : 0;
            case 31: return x.judge(any(), any());
            case 32: return x.paid(any());
            case 33: return x.check(any());
            case 34: return x.look(any(), any());
            case 35: return Due.rules(x, dice.nextInt(4), new Texts(dice).any());
            case 36: return Due.feed(x, new Texts(dice).any());
            default: return x.count(any());
        }
    }
}
