/** Promises 21 to 26: BESIDE, CHOICES, what BARS what, THE BEST. */
public final class ChoicesTest {
    private static final int NONE = PurseTrace.NONE;

    public static void main(String[] args) {
        Due due = new Due("ChoicesTest");
        beside(due);
        choose(due);
        bar(due);
        best(due);
        rowsInOrder(due);
        fourPurses(due);
        sharesCount(due);
        refused(due);
        due.end();
    }

    /** Purse 0 of 0, purse 1 of 1; 1's 10 ahead of 0's 10 ahead of 2's 10; 10 moved on. */
    private static PurseTrace start() {
        PurseTrace x = Due.with(3);
        x.purse(0, 0);
        x.purse(1, 0);
        x.thing();
        x.line(0, 0, 1, 10, 0, 0, 0);
        x.line(0, 0, 0, 10, 0, 1, 1);
        x.line(0, 0, 2, 10, 0, 2, 2);
        x.move(0, 1, 12, true, 0, 3, 3);
        x.line(2, 1, NONE, 5, 0, 4, 4);
        return x;
    }

    private static void beside(Due due) {
        PurseTrace x = start();
        int[][] inFirst = {{8, 0, 10}, {8, 10, 0}, {6, 6, 6}, {0, 8, 10}, {10, 0, 8}};
        int[][] inSecond = {{2, 5, 0}, {2, 0, 5}, {0, 3, 4}, {5, 2, 0}, {0, 5, 2}};
        for (int w = 0; w < 5; w++) {
            for (int o = 0; o < 3; o++) {
                due.is("beside 0 " + w, x.beside(0, o, 0, w), inFirst[w][o]);
                due.is("beside 1 " + w, x.beside(1, o, 0, w), inSecond[w][o]);
            }
        }
        due.is("beside by the other purse", x.beside(1, 1, 1, 4), 10 - 3);
        due.is("beside by the other purse", x.beside(1, 0, 1, 4), 0);
        Due.rules(x, 0, "w1(1=1)");
        due.is("beside by rules", x.beside(1, 2, 1, 0), 5);
        due.is("left by rules", x.left(1, 2, 0, 0), 7);
        x.now(1);
        x.strike(3);
        due.is("beside as known now", x.beside(1, 0, 0, 0), 0);
        due.is("beside no person", x.beside(0, 3, 0, 0), NONE);
        due.is("beside all", x.beside(0, NONE, 0, 0), NONE);
        due.is("beside no purse", x.beside(2, 0, 0, 0), NONE);
        due.is("beside purse -1", x.beside(-1, 0, 0, 0), NONE);
        due.is("beside by no purse", x.beside(0, 0, 2, 0), NONE);
        due.is("beside by purse -1", x.beside(0, 0, -1, 0), NONE);
        due.is("beside by way 5", x.beside(0, 0, 0, 5), NONE);
        due.is("beside by way -1", x.beside(0, 0, 0, -1), NONE);
    }

    private static void choose(Due due) {
        PurseTrace x = Due.with(1);
        for (int p = 0; p < 6; p++) {
            x.purse(0, 0);
        }
        due.is("choose of no purse", x.choose(6, 1), false);
        due.is("choose of purse -1", x.choose(-1, 1), false);
        due.is("choose 32", x.choose(0, 32), false);
        due.is("choose -1", x.choose(0, -1), false);
        due.is("choose none", x.choose(5, 0), true);
        due.is("none has", x.count(9), 0);
        for (int p = 0; p < 4; p++) {
            due.is("choose " + p, x.choose(p, 31 - p), true);
        }
        due.is("four have", x.count(9), 4);
        due.is("a fifth", x.choose(4, 1), false);
        due.is("none for a fifth", x.choose(4, 0), true);
        due.is("again for the fourth", x.choose(3, 1), true);
        due.is("four have", x.count(9), 4);
        due.is("none for the second", x.choose(1, 0), true);
        due.is("three have", x.count(9), 3);
        due.is("the fifth then", x.choose(4, 1), true);
        due.is("the second no more", x.choose(1, 1), false);
    }

    private static void bar(Due due) {
        PurseTrace x = Due.with(1);
        x.purse(0, 0);
        x.purse(0, 0);
        x.purse(0, 0);
        due.is("bar of no purse", x.bar(3, 0, 0, 0), false);
        due.is("bar of purse -1", x.bar(-1, 0, 0, 0), false);
        due.is("bar to no purse", x.bar(0, 0, 3, 0), false);
        due.is("bar to purse -1", x.bar(0, 0, -1, 0), false);
        due.is("bar of way 5", x.bar(0, 5, 1, 0), false);
        due.is("bar of way -1", x.bar(0, -1, 1, 0), false);
        due.is("bar to way 5", x.bar(0, 0, 1, 5), false);
        due.is("bar to way -1", x.bar(0, 0, 1, -1), false);
        due.is("bar in one purse", x.bar(1, 0, 1, 2), false);
        for (int i = 0; i < 25; i++) {
            due.is("bar " + i, x.bar(0, i / 5, 1, i % 5), true);
            due.is("bar it is so", x.bar(0, i / 5, 1, i % 5), false);
            due.is("bar it is so", x.bar(1, i % 5, 0, i / 5), false);
        }
        for (int i = 0; i < 15; i++) {
            due.is("bar of 2 " + i, x.bar(2, i / 5, 1, i % 5), true);
        }
        due.is("bar 41", x.bar(2, 4, 1, 4), false);
        due.is("count(10)", x.count(10), 40);
    }

    private static void best(Due due) {
        PurseTrace x = start();
        due.is("the empty row", x.best(1), 0);
        due.is("the empty row", x.best(2), 10);
        due.is("the empty row", x.judge(2, 0), 10);
        due.is("no way of the empty row", x.chosen(2, 0), NONE);
        due.is("no other row", x.judge(2, 1), NONE);
        x.choose(0, 2 + 4 + 16);
        int[] worths = {-2, 0 + 5, 6 + 4, -2, 8 + 2};
        for (int w = 0; w < 5; w++) {
            due.is("judge(2, " + w + ")", x.judge(2, w), worths[w]);
        }
        due.is("best(2)", x.best(2), 10);
        due.is("of like ones the least", x.chosen(2, 0), 2);
        due.is("chosen(2, 1)", x.chosen(2, 1), NONE);
        due.is("chosen(2, -1)", x.chosen(2, -1), NONE);
        due.is("best(1)", x.best(1), 10);
        due.is("chosen(1, 0)", x.chosen(1, 0), 1);
        due.is("best(0)", x.best(0), 2);
        due.is("chosen(0, 0)", x.chosen(0, 0), 1);
        x.choose(1, 1 + 2);
        x.bar(1, 0, 0, 4);
        due.is("two ways, the first lowest", x.judge(2, 4 + 5 * 1), 8 + 0);
        due.is("barred", x.judge(2, 4), -2);
        due.is("not chosen", x.judge(2, 2 + 5 * 2), -2);
        due.is("no row", x.judge(2, 25), NONE);
        due.is("best of two", x.best(2), 10);
        due.is("its first", x.chosen(2, 0), 2);
        due.is("its second", x.chosen(2, 1), 0);
        x.choose(0, 16);
        x.choose(1, 1);
        due.is("none is lawful", x.best(2), NONE);
        due.is("none is lawful", x.chosen(2, 0), NONE);
        due.is("none is lawful", x.judge(2, 4), -2);
    }

    /** Of like rows the least, the first purse ahead. */
    private static void rowsInOrder(Due due) {
        PurseTrace x = Due.with(2);
        for (int p = 0; p < 3; p++) {
            x.purse(0, 0);
        }
        x.choose(2, 31);
        x.choose(0, 31);
        due.is("all alike", x.best(1), 0);
        due.is("all alike", x.chosen(1, 0), 0);
        due.is("all alike", x.chosen(1, 1), 0);
        x.bar(0, 0, 2, 0);
        due.is("the last gives way", x.chosen(1, 0), 0);
        due.is("the last gives way", x.chosen(1, 1), 1);
        for (int v = 1; v < 5; v++) {
            x.bar(2, v, 0, 0);
        }
        due.is("then the first", x.chosen(1, 0), 1);
        due.is("then the first", x.chosen(1, 1), 0);
        due.is("the first in the lowest place", x.judge(1, 20), -2);
        due.is("the first in the lowest place", x.judge(1, 4), 0);
        x.bar(1, 0, 0, 1);
        due.is("a purse without choices bars none", x.chosen(1, 0), 1);
    }

    private static void fourPurses(Due due) {
        PurseTrace x = Due.with(2);
        for (int p = 0; p < 5; p++) {
            x.purse(0, 0);
            x.line(0, p, 1, 8, 0, 0, 0);
            x.line(0, p, 0, 8, 0, 1, 1);
            x.line(2, p, NONE, 8, 0, 2, 2);
        }
        for (int p = 0; p < 4; p++) {
            x.choose(p, 31);
        }
        due.is("the best of 625", x.best(1), 32);
        for (int i = 0; i < 4; i++) {
            due.is("its ways", x.chosen(1, i), 1);
        }
        due.is("no fifth", x.chosen(1, 4), NONE);
        for (int p = 0; p < 3; p++) {
            x.bar(p, 1, p + 1, 1);
        }
        int[] want = {1, 3, 1, 3};
        due.is("still the best", x.best(1), 32);
        for (int i = 0; i < 4; i++) {
            due.is("other ways", x.chosen(1, i), want[i]);
        }
        x.bar(0, 1, 3, 3);
        due.is("again the best", x.best(1), 32);
        for (int i = 0; i < 4; i++) {
            due.is("ways again", x.chosen(1, i), i == 1 || i == 2 ? 3 : 1);
        }
        due.is("the last row", x.judge(1, 624), 0);
        due.is("no row", x.judge(1, 625), NONE);
        due.is("as told", x.left(0, 1, 0, 0), 0);
    }

    private static void sharesCount(Due due) {
        PurseTrace x = start();
        x.deal(false, 0, 0, 6, 0, 5, 5);
        due.is("a share is worth", x.best(0), 2 + 6);
        due.is("shares of a thing", x.share(0, 0, 0, 0), 6);
        x.choose(0, 1 + 8);
        due.is("of ways", x.judge(0, 0), 8);
        due.is("of ways", x.judge(0, 3), 5 + 0);
        x.now(1);
        x.deal(true, 1, 0, 6, 1, 0, 0);
        due.is("the sold is in the other's purse", x.best(0), 8);
        x.deal(true, 0, 0, 6, 1, 1, 1);
        due.is("one's own purse is worth nothing", x.best(0), 8);
    }

    private static void refused(Due due) {
        PurseTrace x = Due.with(1);
        due.is("best of no one", x.best(1), NONE);
        due.is("best of -1", x.best(-1), NONE);
        due.is("chosen of no one", x.chosen(1, 0), NONE);
        due.is("chosen of -1", x.chosen(-1, 0), NONE);
        due.is("judge of no one", x.judge(1, 0), NONE);
        due.is("judge of -1", x.judge(-1, 0), NONE);
        due.is("judge of row -1", x.judge(0, -1), NONE);
        due.is("judge of the empty row", x.judge(0, 0), 0);
    }
}
