/** Promise 20: what is SURE by the ORDERS of a DAY. */
public final class OrdersTest {
    private static final int NONE = PurseTrace.NONE;

    public static void main(String[] args) {
        Due due = new Due("OrdersTest");
        noLines(due);
        twoLines(due);
        sixLines(due);
        touchingHours(due);
        linesBehind(due);
        reverseNumbers(due);
        refused(due);
        due.end();
    }

    private static PurseTrace start() {
        PurseTrace x = Due.with(2);
        x.purse(0, 0);
        x.purse(1, 0);
        x.now(3);
        return x;
    }

    private static void noLines(Due due) {
        PurseTrace x = start();
        due.sure(x, 0, 1, 0, 0, 0, 1);
        x.line(0, 0, 1, 9, 2, 0, 23);
        due.sure(x, 0, 1, 0, 9, 9, 1);
        due.sure(x, 0, 1, 3, 9, 9, 1);
        due.sure(x, 0, 1, 3999, 9, 9, 1);
        due.sure(x, 0, 1, 2, 9, 9, 1);
        due.sure(x, 0, 0, 2, 0, 0, 1);
        due.sure(x, 1, 1, 2, 0, 0, 1);
    }

    /** First in, first out: who comes first is spent first. */
    private static void twoLines(Due due) {
        PurseTrace x = start();
        x.line(0, 0, 1, 9, 3, 0, 5);
        x.line(0, 0, 0, 9, 3, 3, 8);
        x.line(2, 0, NONE, 7, 3, 9, 9);
        due.sure(x, 0, 1, 3, 2, 9, 2);
        due.sure(x, 0, 0, 3, 2, 9, 2);
        due.is("left as told", x.left(0, 1, 3, 3), 2);
        x.strike(2);
        due.sure(x, 0, 1, 3, 9, 9, 2);
    }

    private static void sixLines(Due due) {
        PurseTrace x = start();
        for (int i = 0; i < 5; i++) {
            x.line(0, 0, i % 2, 1 << i, 3, 0, 23);
        }
        x.line(2, 0, NONE, 1, 3, 0, 23);
        due.sure(x, 0, 0, 3, 20, 21, 720);
        due.sure(x, 0, 1, 3, 9, 10, 720);
        x.line(0, 0, 0, 1, 2, 0, 23);
        x.line(0, 0, 0, 1, 2, 0, 23);
        due.sure(x, 0, 0, 2, 22, 22, 2);
        x.line(0, 0, 0, 1, 3, 0, 0);
        due.sure(x, 0, 0, 3, NONE, NONE, NONE);
        due.sure(x, 0, 0, 2, 23, 23, 2);
        x.strike(0);
        due.sure(x, 0, 0, 3, 22, 22, 720);
        due.is("left", x.left(0, 0, 3, 3), 22);
    }

    /** Hours that touch leave both orders; hours all earlier leave one. */
    private static void touchingHours(Due due) {
        int[][] hours = {{4, 4, 2}, {0, 4, 2}, {0, 3, 1}, {5, 5, 2}, {6, 6, 2}, {7, 7, 1}};
        for (int[] h : hours) {
            PurseTrace x = start();
            x.line(0, 0, 0, 1, 3, 4, 6);
            x.line(0, 0, 0, 1, 3, h[0], h[1]);
            due.is("orders by " + h[0] + " to " + h[1], x.sure(0, 0, 3, 2), h[2]);
        }
        PurseTrace x = start();
        x.line(0, 0, 0, 1, 3, 0, 1);
        x.line(0, 0, 0, 1, 3, 1, 2);
        x.line(0, 0, 0, 1, 3, 2, 3);
        due.is("orders of a chain", x.sure(0, 0, 3, 2), 3);
        x.line(0, 0, 0, 1, 3, 4, 5);
        due.is("orders of a longer chain", x.sure(0, 0, 3, 2), 3);
    }

    private static void linesBehind(Due due) {
        PurseTrace x = start();
        x.line(0, 0, 1, 10, 1, 0, 0);
        x.line(2, 0, NONE, 10, 2, 0, 9);
        x.line(0, 0, 0, 10, 2, 5, 12);
        x.move(0, 1, 10, true, 3, 0, 0);
        due.sure(x, 1, 0, 2, 10, 10, 2);
        x.line(0, 0, 1, 5, 2, 0, 12);
        due.sure(x, 1, 1, 2, 0, 5, 6);
        due.sure(x, 1, 0, 2, 5, 10, 6);
        due.sure(x, 1, 1, 3, 5, 5, 1);
        due.is("left as told", x.left(1, 1, 3, 3), 5);
        due.sure(x, 0, 1, 1, 0, 0, 1);
    }

    /** The later numbers have the earlier hours. */
    private static void reverseNumbers(Due due) {
        PurseTrace x = start();
        x.line(2, 0, NONE, 4, 3, 20, 20);
        x.line(0, 0, 0, 4, 3, 10, 20);
        x.line(0, 0, 1, 4, 3, 5, 10);
        due.sure(x, 0, 1, 3, 0, 4, 3);
        due.is("left as told", x.left(0, 1, 3, 3), 0);
        due.sure(x, 0, 0, 3, 0, 4, 3);
    }

    private static void refused(Due due) {
        PurseTrace x = start();
        due.is("sure of no purse", x.sure(2, 0, 0, 0), NONE);
        due.is("sure of purse -1", x.sure(-1, 0, 0, 0), NONE);
        due.is("sure of no one", x.sure(0, 2, 0, 0), NONE);
        due.is("sure of all", x.sure(0, NONE, 0, 0), NONE);
        due.is("sure on no day", x.sure(0, 0, 4000, 0), NONE);
        due.is("sure on day -1", x.sure(0, 0, -1, 0), NONE);
        due.is("sure what 3", x.sure(0, 0, 0, 3), NONE);
        due.is("sure what -1", x.sure(0, 0, 0, -1), NONE);
    }
}
