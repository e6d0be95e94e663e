/** Promise 28: what of a DEBT is PAID. */
public final class DebtsTest {
    public static void main(String[] args) {
        Due due = new Due("DebtsTest");
        ranks(due);
        ownPursesOnly(due);
        oneEach(due);
        bigOnes(due);
        asAllIsNow(due);
        due.end();
    }

    private static void ranks(Due due) {
        PurseTrace x = Due.with(3);
        x.purse(0, 0);
        x.debt(0, 1, 10, 3);
        x.debt(0, 2, 20, 1);
        x.debt(0, 1, 30, 1);
        x.debt(1, 0, 40, 0);
        x.debt(0, 2, 5, 0);
        due.paid(x, "nothing is there", 0, 0, 0, 0, 0);
        x.line(0, 0, 0, 4, 0, 0, 0);
        due.paid(x, "less than the first rank", 0, 0, 0, 0, 4);
        x.line(0, 0, 0, 1, 0, 1, 1);
        due.paid(x, "the first rank", 0, 0, 0, 0, 5);
        x.line(0, 0, 0, 1, 0, 2, 2);
        due.paid(x, "one more", 0, 1, 0, 0, 5);
        x.line(0, 0, 0, 48, 0, 3, 3);
        due.paid(x, "one too few", 0, 20, 29, 0, 5);
        x.line(0, 0, 0, 1, 0, 4, 4);
        due.paid(x, "two ranks", 0, 20, 30, 0, 5);
        x.line(0, 0, 0, 9, 0, 5, 5);
        due.paid(x, "an empty rank between", 9, 20, 30, 0, 5);
        x.line(0, 0, 0, 9, 0, 6, 6);
        due.paid(x, "all", 10, 20, 30, 0, 5);
        x.debt(0, 1, 100, 0);
        due.paid(x, "the next ones nothing", 0, 0, 0, 0, 4, 69);
    }

    private static void ownPursesOnly(Due due) {
        PurseTrace x = Due.with(2);
        x.purse(0, 0);
        x.purse(1, 0);
        x.purse(0, 1);
        x.debt(0, 1, 100, 2);
        x.line(0, 0, 0, 1, 0, 0, 0);
        x.line(0, 0, 1, 2, 0, 0, 0);
        x.line(0, 1, 0, 4, 0, 0, 0);
        x.line(0, 2, 0, 8, 0, 0, 0);
        x.line(0, 2, 1, 16, 0, 0, 0);
        due.is("own money in own purses", x.paid(0), 9);
    }

    private static void oneEach(Due due) {
        PurseTrace x = Due.with(3);
        x.purse(0, 0);
        for (int i = 0; i < 6; i++) {
            x.debt(i % 2, 2, 3, 1);
        }
        x.line(0, 0, 0, 5, 0, 0, 0);
        due.paid(x, "one each by numbers", 2, 0, 2, 0, 1, 0);
    }

    private static void bigOnes(Due due) {
        PurseTrace x = Due.with(2);
        x.purse(0, 0);
        for (int i = 0; i < 39; i++) {
            x.line(0, 0, 0, 1000000, 0, 0, 0);
            x.debt(0, 1, 1000000, 0);
        }
        x.debt(0, 1, 999999, 0);
        due.is("a big part", x.paid(39), 974999);
        due.is("a big part", x.paid(0), 975001);
        due.is("a big part", x.paid(38), 975000);
        x.line(0, 0, 0, 1000000, 0, 0, 0);
        due.is("all", x.paid(39), 999999);
    }

    private static void asAllIsNow(Due due) {
        PurseTrace x = Due.with(2);
        x.purse(0, 0);
        x.debt(0, 1, 10, 0);
        x.now(3);
        x.line(0, 0, 0, 7, 1, 0, 0);
        due.is("paid", x.paid(0), 7);
        x.line(2, 0, PurseTrace.NONE, 2, 2, 0, 0);
        due.is("paid of what is left", x.paid(0), 5);
        x.strike(1);
        due.is("paid again", x.paid(0), 7);
    }
}
