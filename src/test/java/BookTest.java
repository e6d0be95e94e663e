/** Promises 1 to 9, 12, 27, 30 and 31: what is told, and what is refused. */
public final class BookTest {
    private static final int NONE = PurseTrace.NONE;

    public static void main(String[] args) {
        Due due = new Due("BookTest");
        newObject(due);
        days(due);
        personsPursesThings(due);
        lines(due);
        moves(due);
        deals(due);
        hundredLines(due);
        strikes(due);
        knowings(due);
        debts(due);
        counts(due);
        due.end();
    }

    private static void newObject(Due due) {
        PurseTrace x = new PurseTrace();
        due.is("NONE", NONE, -1);
        for (int what = 0; what <= 10; what++) {
            due.is("new count(" + what + ")", x.count(what), 0);
        }
        due.is("new count(20)", x.count(20), NONE);
        due.is("new purse(0, 0)", x.purse(0, 0), NONE);
        due.is("new left(0, -1, 0, 0)", x.left(0, -1, 0, 0), NONE);
        due.is("new look(0, 0)", x.look(0, 0), NONE);
        due.is("new paid(0)", x.paid(0), NONE);
        due.is("new strike(0)", x.strike(0), false);
        due.is("new check(0)", x.check(0), NONE);
    }

    private static void days(Due due) {
        PurseTrace x = new PurseTrace();
        due.is("now(-1)", x.now(-1), false);
        due.is("now(0)", x.now(0), true);
        due.is("now(7)", x.now(7), true);
        due.is("now(6)", x.now(6), false);
        due.is("now(7) again", x.now(7), true);
        due.is("now(4000)", x.now(4000), false);
        due.is("count(0)", x.count(0), 7);
        due.is("now(3999)", x.now(3999), true);
        due.is("count(0) at the end", x.count(0), 3999);
        due.is("now(MAX)", x.now(Integer.MAX_VALUE), false);
        due.is("now(MIN)", x.now(Integer.MIN_VALUE), false);
    }

    private static void personsPursesThings(Due due) {
        PurseTrace x = new PurseTrace();
        for (int i = 0; i < 10; i++) {
            due.is("person()", x.person(), i);
            due.is("thing()", x.thing(), i);
        }
        due.is("person() 11", x.person(), NONE);
        due.is("thing() 11", x.thing(), NONE);
        due.is("purse(10, 0)", x.purse(10, 0), NONE);
        due.is("purse(-1, 0)", x.purse(-1, 0), NONE);
        due.is("purse(0, -1)", x.purse(0, -1), NONE);
        due.is("purse(0, 4)", x.purse(0, 4), NONE);
        due.is("count(2)", x.count(2), 0);
        for (int i = 0; i < 10; i++) {
            due.is("purse()", x.purse(9 - i, i % 4), i);
        }
        due.is("purse() 11", x.purse(0, 0), NONE);
        due.is("count(1)", x.count(1), 10);
        due.is("count(2)", x.count(2), 10);
        due.is("count(3)", x.count(3), 10);
    }

    private static void lines(Due due) {
        PurseTrace x = Due.with(2);
        x.purse(0, 0);
        x.now(4);
        due.is("line of no purse", x.line(0, 1, 0, 5, 4, 0, 0), NONE);
        due.is("line of purse -1", x.line(0, -1, 0, 5, 4, 0, 0), NONE);
        due.is("line of no person", x.line(0, 0, 2, 5, 4, 0, 0), NONE);
        due.is("line of person -1", x.line(0, 0, -1, 5, 4, 0, 0), NONE);
        due.is("good of person -1", x.line(5, 0, -1, 5, 4, 0, 0), NONE);
        due.is("spent with a person", x.line(2, 0, 0, 5, 4, 0, 0), NONE);
        due.is("spent with -2", x.line(2, 0, -2, 5, 4, 0, 0), NONE);
        for (int kind : new int[] {-1, 1, 3, 4, 6, 7}) {
            due.is("line of kind " + kind, x.line(kind, 0, 0, 5, 4, 0, 0), NONE);
            due.is("line of kind " + kind, x.line(kind, 0, -1, 5, 4, 0, 0), NONE);
        }
        due.is("line of 0", x.line(0, 0, 0, 0, 4, 0, 0), NONE);
        due.is("line of 1000001", x.line(0, 0, 0, 1000001, 4, 0, 0), NONE);
        due.is("line of tomorrow", x.line(0, 0, 0, 5, 5, 0, 0), NONE);
        due.is("line of day -1", x.line(0, 0, 0, 5, -1, 0, 0), NONE);
        due.is("line of hour -1", x.line(0, 0, 0, 5, 4, -1, 0), NONE);
        due.is("line of hour 24", x.line(0, 0, 0, 5, 4, 0, 24), NONE);
        due.is("line of hours back", x.line(0, 0, 0, 5, 4, 2, 1), NONE);
        due.is("count(4)", x.count(4), 0);
        due.is("a line of today", x.line(0, 0, 1, 1, 4, 0, 23), 0);
        due.is("a line of an earlier day", x.line(5, 0, 0, 1000000, 0, 23, 23), 1);
        due.is("a line spent", x.line(2, 0, -1, 7, 2, 3, 5), 2);
        int[][] want = {{0, 0, 1, 1, 4, 0, 23, 4, NONE, 0}, {5, 0, 0, 1000000, 0, 23, 23, 4, NONE, 0},
            {2, 0, NONE, 7, 2, 3, 5, 4, NONE, 0}};
        looks(due, x, want);
    }

    private static void looks(Due due, PurseTrace x, int[][] want) {
        for (int i = 0; i < want.length; i++) {
            for (int what = 0; what < want[i].length; what++) {
                due.is("look(" + i + ", " + what + ")", x.look(i, what), want[i][what]);
            }
            due.is("look(" + i + ", 10)", x.look(i, 10), NONE);
            due.is("look(" + i + ", -1)", x.look(i, -1), NONE);
        }
        due.is("look behind the last", x.look(want.length, 0), NONE);
        due.is("look(-1, 0)", x.look(-1, 0), NONE);
        due.is("count(4)", x.count(4), want.length);
    }

    private static void moves(Due due) {
        PurseTrace x = Due.with(2);
        x.purse(0, 0);
        x.purse(1, 0);
        x.now(1);
        due.is("move within one purse", x.move(0, 0, 5, true, 1, 0, 0), NONE);
        due.is("move to no purse", x.move(0, 2, 5, true, 1, 0, 0), NONE);
        due.is("move from no purse", x.move(2, 0, 5, true, 1, 0, 0), NONE);
        due.is("move to -1", x.move(0, -1, 5, true, 1, 0, 0), NONE);
        due.is("move from -1", x.move(-1, 0, 5, true, 1, 0, 0), NONE);
        due.is("move of 0", x.move(0, 1, 0, true, 1, 0, 0), NONE);
        due.is("move of tomorrow", x.move(0, 1, 5, true, 2, 0, 0), NONE);
        due.is("move of hour 24", x.move(0, 1, 5, true, 1, 24, 24), NONE);
        due.is("move", x.move(1, 0, 5, true, 1, 2, 3), 0);
        due.is("move of nothing given", x.move(0, 1, 6, false, 0, 0, 0), 1);
        looks(due, x, new int[][] {{1, 1, 0, 5, 1, 2, 3, 1, NONE, 1}, {1, 0, 1, 6, 0, 0, 0, 1, NONE, 0}});
    }

    private static void deals(Due due) {
        PurseTrace x = Due.with(1);
        x.purse(0, 0);
        x.thing();
        x.thing();
        due.is("buy by no purse", x.deal(false, 1, 0, 5, 0, 0, 0), NONE);
        due.is("buy by purse -1", x.deal(false, -1, 0, 5, 0, 0, 0), NONE);
        due.is("buy no thing", x.deal(false, 0, 2, 5, 0, 0, 0), NONE);
        due.is("sell thing -1", x.deal(true, 0, -1, 5, 0, 0, 0), NONE);
        due.is("sell for 0", x.deal(true, 0, 0, 0, 0, 0, 0), NONE);
        due.is("sell tomorrow", x.deal(true, 0, 0, 5, 1, 0, 0), NONE);
        due.is("sell at hours back", x.deal(true, 0, 0, 5, 0, 5, 4), NONE);
        due.is("buy", x.deal(false, 0, 1, 5, 0, 1, 2), 0);
        due.is("sell", x.deal(true, 0, 0, 6, 0, 3, 4), 1);
        looks(due, x, new int[][] {{3, 0, 1, 5, 0, 1, 2, 0, NONE, 0}, {4, 0, 0, 6, 0, 3, 4, 0, NONE, 0}});
    }

    private static void hundredLines(Due due) {
        PurseTrace x = Due.with(1);
        x.purse(0, 0);
        x.purse(0, 0);
        x.thing();
        for (int i = 0; i < 100; i++) {
            due.is("line " + i, x.line(0, 0, 0, 1000000, 0, 0, 0), i);
        }
        due.is("line 100", x.line(0, 0, 0, 5, 0, 0, 0), NONE);
        due.is("move 100", x.move(0, 1, 5, true, 0, 0, 0), NONE);
        due.is("deal 100", x.deal(true, 0, 0, 5, 0, 0, 0), NONE);
        due.is("count(4)", x.count(4), 100);
        due.is("left of all", x.left(0, 0, 0, 0), 100000000);
        due.is("strike(99)", x.strike(99), true);
        due.is("struck lines stay told", x.line(0, 0, 0, 5, 0, 0, 0), NONE);
        due.is("left of 99", x.left(0, 0, 0, 0), 99000000);
    }

    private static void strikes(Due due) {
        PurseTrace x = Due.with(1);
        x.purse(0, 0);
        due.is("strike(-1)", x.strike(-1), false);
        x.line(0, 0, 0, 5, 0, 0, 0);
        due.is("strike(1)", x.strike(1), false);
        x.now(3);
        due.is("look(0, 8) ahead", x.look(0, 8), NONE);
        due.is("strike(0)", x.strike(0), true);
        due.is("strike(0) again", x.strike(0), false);
        due.is("look(0, 8)", x.look(0, 8), 3);
        due.is("left as known ahead", x.left(0, 0, 0, 2), 5);
        due.is("left as known then", x.left(0, 0, 0, 3), 0);
        due.is("left as known behind", x.left(0, 0, 3999, 3999), 0);
    }

    private static void knowings(Due due) {
        PurseTrace x = Due.with(3);
        due.is("knows(0, 0, 0)", x.knows(0, 0, 0), false);
        due.is("knows(3, 0, 0)", x.knows(3, 0, 0), false);
        due.is("knows(0, 3, 0)", x.knows(0, 3, 0), false);
        due.is("knows(-1, 0, 0)", x.knows(-1, 0, 0), false);
        due.is("knows(0, -1, 0)", x.knows(0, -1, 0), false);
        due.is("knows(0, 1, -1)", x.knows(0, 1, -1), false);
        due.is("knows(0, 1, 4000)", x.knows(0, 1, 4000), false);
        due.is("count(6)", x.count(6), 0);
        for (int i = 0; i < 100; i++) {
            due.is("knows " + i, x.knows(i % 2, 2, i % 3 == 0 ? 3999 : 0), true);
        }
        due.is("knows 100", x.knows(0, 1, 0), false);
        due.is("count(6)", x.count(6), 100);
    }

    private static void debts(Due due) {
        PurseTrace x = Due.with(3);
        due.is("debt to oneself", x.debt(1, 1, 5, 0), NONE);
        due.is("debt of no one", x.debt(3, 1, 5, 0), NONE);
        due.is("debt of -1", x.debt(-1, 1, 5, 0), NONE);
        due.is("debt to no one", x.debt(1, 3, 5, 0), NONE);
        due.is("debt to -1", x.debt(1, -1, 5, 0), NONE);
        due.is("debt of 0", x.debt(1, 0, 0, 0), NONE);
        due.is("debt of 1000001", x.debt(1, 0, 1000001, 0), NONE);
        due.is("debt of rank -1", x.debt(1, 0, 5, -1), NONE);
        due.is("debt of rank 4", x.debt(1, 0, 5, 4), NONE);
        for (int i = 0; i < 40; i++) {
            due.is("debt " + i, x.debt(i % 2, 2, i == 0 ? 1000000 : 1, i % 4), i);
        }
        due.is("debt 40", x.debt(0, 1, 1, 0), NONE);
        due.is("count(7)", x.count(7), 40);
        due.is("paid(40)", x.paid(40), NONE);
        due.is("paid(-1)", x.paid(-1), NONE);
        due.is("paid without a purse", x.paid(0), 0);
    }

    private static void counts(Due due) {
        PurseTrace x = Due.with(2);
        x.purse(0, 3);
        x.purse(1, 3);
        x.thing();
        x.now(9);
        x.line(0, 0, 0, 5, 9, 0, 0);
        x.knows(0, 1, 0);
        x.debt(0, 1, 5, 2);
        x.debt(0, 1, 5, 2);
        x.choose(0, 3);
        x.choose(1, 16);
        x.bar(0, 0, 1, 0);
        x.bar(0, 1, 1, 0);
        x.bar(0, 2, 1, 0);
        Due.rules(x, 3, "w1(1=1);r(1=1)");
        Due.rules(x, 3, "x0.0;x0.1;x0.2");
        Due.rules(x, 3, "x0.0;;");
        Due.feed(x, "12345678901234567890x");
        int[] want = {9, 2, 2, 1, 1, 2, 1, 2, 40, 2, 3};
        for (int what = 0; what < want.length; what++) {
            due.is("count(" + what + ")", x.count(what), want[what]);
        }
        due.is("count(20)", x.count(20), 2);
        due.is("count(21)", x.count(21), 3);
        for (int what : new int[] {-1, 11, 19, 22, 39, 40, Integer.MAX_VALUE, Integer.MIN_VALUE}) {
            due.is("count(" + what + ")", x.count(what), NONE);
        }
    }
}
