/** Part 3 of the terms, by promises 11, 13 and 18: which CLAUSE is THE CLAUSE. */
public final class RulesTest {
    private static final int NONE = PurseTrace.NONE;

    public static void main(String[] args) {
        Due due = new Due("RulesTest");
        conditions(due);
        arithmetic(due);
        refusedDivision(due);
        letters(due);
        highestAndFirst(due);
        strikes(due);
        forceAndLand(due);
        asKnown(due);
        giving(due);
        selling(due);
        due.end();
    }

    /** A LINE of 12 of person 0's purse 1, in which are 30 of 1, 8 of 0, 4 of 2; day 5. */
    private static PurseTrace spent() {
        PurseTrace x = Due.with(4);
        x.purse(3, 0);
        x.purse(0, 1);
        x.purse(2, 2);
        x.thing();
        x.now(6);
        x.line(0, 1, 1, 30, 2, 0, 0);
        x.line(0, 1, 0, 8, 2, 1, 1);
        x.line(0, 1, 2, 4, 2, 2, 2);
        x.line(2, 1, NONE, 12, 5, 0, 0);
        return x;
    }

    private static void holds(Due due, String condition, boolean want) {
        PurseTrace x = spent();
        due.is("rules of " + condition, Due.rules(x, 1, "w3(" + condition + ")"), 0);
        due.is(condition, x.way(3, 6), want ? 3 : 0);
    }

    private static void conditions(Due due) {
        holds(due, "1=1", true);
        holds(due, "1=2", false);
        holds(due, "1<2", true);
        holds(due, "2<2", false);
        holds(due, "2>1", true);
        holds(due, "2>2", false);
        holds(due, "!1=2", true);
        holds(due, "!!1=1", true);
        holds(due, "!!!1=1", false);
        holds(due, "!(1=1&1=2)", true);
        holds(due, "1=2&1=1|1=1", true);
        holds(due, "1=1|1=1&1=2", true);
        holds(due, "(1=1|1=1)&1=2", false);
        holds(due, "1=2|1=2|1=1", true);
        holds(due, "1=2|1=2|1=2", false);
        holds(due, "1=1&1=1&1=1", true);
        holds(due, "1=1&1=1&1=2", false);
        holds(due, "!1=1|1=1", true);
        holds(due, "!1=2&1=2", false);
        holds(due, "1=1&(1=2|(1=1&!(1=2)))", true);
        holds(due, "1=2&1=1&1=1|1=2", false);
    }

    private static void arithmetic(Due due) {
        holds(due, "10-3-2=5", true);
        holds(due, "10-[3-2]=9", true);
        holds(due, "2+3*4=14", true);
        holds(due, "[2+3]*4=20", true);
        holds(due, "100/7/2=7", true);
        holds(due, "100/[7/2]=33", true);
        holds(due, "7%4*2=6", true);
        holds(due, "7*2%4=2", true);
        holds(due, "17/5*5+17%5=17", true);
        holds(due, "[0-7]/2=0-3", true);
        holds(due, "[0-7]%4=0-3", true);
        holds(due, "7%[0-4]=3", true);
        holds(due, "7/[0-2]=0-3", true);
        holds(due, "1-2<0", true);
        holds(due, "000012=s", true);
        holds(due, "999999*999999*999999<999999*999999*999998", false);
        holds(due, "999999*999999*999999>0", true);
        holds(due, "999999*999999*999999*10>0", false);
        holds(due, "65536*65536*65536*65536=0", true);
        holds(due, "65536*65536*65536*32768<0", true);
        holds(due, "65536*65536*65536*32768/[0-1]<0", true);
        holds(due, "65536*65536*65536*32768%[0-1]=0", true);
        holds(due, "65536*65536*65536*32768-1>0", true);
        holds(due, "65536*32768*2=65536*65536", true);
        holds(due, "65536*32768>0", true);
    }

    private static void refusedDivision(Due due) {
        holds(due, "1/0=0", false);
        holds(due, "!1/0=0", false);
        holds(due, "!1%0=0", false);
        holds(due, "0%5=0", true);
        holds(due, "1=1|1/0=0", true);
        holds(due, "1/0=0|1=1", false);
        holds(due, "1=2&1/0=0|1=1", true);
        holds(due, "1=1&1/0=0|1=1", false);
        holds(due, "!(1=2&1/0=0)", true);
        holds(due, "!(1=1&1/0=0)", false);
        holds(due, "!(1=1|1/0=0)|1=1", true);
        holds(due, "(1=1|1/0=0)&1=1", true);
        holds(due, "0*[1/0]=0", false);
        holds(due, "1=2&(1=1|1/0=0)|1=1", true);
        holds(due, "1/[p-1]=0", false);
        holds(due, "1=1&1=1|1/0=0", true);
        holds(due, "1=1|1=1&1/0=0", true);
        PurseTrace x = spent();
        Due.rules(x, 1, "w2(1=1)");
        Due.rules(x, 1, "w3(1/0=0);w4(1=1)");
        due.is("the next one holds", x.way(3, 6), 4);
    }

    private static void letters(Due due) {
        holds(due, "s=12", true);
        holds(due, "d=5", true);
        holds(due, "k=2", true);
        holds(due, "p=1", true);
        holds(due, "h=0", true);
        holds(due, "t=42", true);
        holds(due, "o=8", true);
        holds(due, "n=3", true);
        PurseTrace x = spent();
        Due.rules(x, 2, "g(s=9&d=6&k=1&p=1&h=0&t=30&o=8&n=3)");
        x.move(1, 2, 9, true, 6, 3, 4);
        due.is("letters of a move", x.left(2, 2, 6, 6), 9);
        x = spent();
        Due.rules(x, 1, "w1(k=3&s=7)");
        Due.rules(x, 1, "r(k=4&s=5&p=1&t=23&h=0&n=2)");
        x.deal(false, 1, 0, 7, 6, 0, 0);
        x.deal(true, 1, 0, 5, 6, 1, 1);
        due.is("letters of buy", x.way(4, 6), 1);
        due.is("letters of sell", x.took(5, 0, 6), 3);
    }

    private static void highestAndFirst(Due due) {
        PurseTrace x = spent();
        Due.rules(x, 1, "w1(1=1);w2(1=1)");
        due.is("the first of one", x.way(3, 6), 1);
        Due.rules(x, 1, "w3(1=2);w4(1=1);w3(1=1)");
        due.is("the highest, its first that holds", x.way(3, 6), 4);
        Due.rules(x, 1, "w3(1=2);r(1=1);g(1=1)");
        due.is("a higher one that has none", x.way(3, 6), 4);
        Due.rules(x, 1, "w0(1=1)");
        due.is("way 0 by a clause", x.way(3, 6), 0);
    }

    private static void strikes(Due due) {
        PurseTrace x = spent();
        Due.rules(x, 1, "w1(1=1);w2(1=1)");
        Due.rules(x, 1, "x0.0;w3(1=2);x0.11;x0.5");
        due.is("struck by a higher one", x.way(3, 6), 2);
        Due.rules(x, 1, "x1.0");
        due.is("the strike is struck", x.way(3, 6), 1);
        Due.rules(x, 1, "x2.0");
        due.is("and that one too", x.way(3, 6), 2);
        PurseTrace y = spent();
        Due.rules(y, 1, "x0.1;w1(1=1);x1.0;x19.0");
        due.is("not of its own rules", y.way(3, 6), 1);
        Due.rules(y, 1, "w3(1=1)");
        due.is("not of higher rules", y.way(3, 6), 3);
        Due.rules(y, 1, "x1.0;x2.2;w4(1=1)");
        due.is("not of its own behind", y.way(3, 6), 4);
        PurseTrace z = spent();
        Due.rules(z, 1, "w1(1=1)");
        Due.rules(z, 2, "x0.0");
        due.is("a strike of another land", z.way(3, 6), 1);
        Due.rules(z, 1, 6, 9, "x0.0");
        due.is("a strike not in force", z.way(3, 6), 1);
        Due.rules(z, 1, 5, 5, "x0.0");
        due.is("a strike in force", z.way(3, 6), 0);
    }

    private static void forceAndLand(Due due) {
        int[][] days = {{5, 5, 1}, {6, 9, 0}, {0, 4, 0}, {0, 5, 1}, {5, 3999, 1}};
        for (int[] d : days) {
            PurseTrace x = spent();
            Due.rules(x, 1, d[0], d[1], "w1(1=1)");
            due.is("in force from " + d[0] + " to " + d[1], x.way(3, 6), d[2]);
        }
        for (int land = 0; land < 4; land++) {
            PurseTrace x = spent();
            Due.rules(x, land, "w1(1=1)");
            due.is("of land " + land, x.way(3, 6), land == 1 ? 1 : 0);
        }
    }

    private static void asKnown(Due due) {
        PurseTrace x = spent();
        x.now(8);
        Due.rules(x, 1, "w1(1=1)");
        x.now(9);
        Due.rules(x, 1, "x0.0");
        due.is("ahead of its telling", x.way(3, 7), 0);
        due.is("as told", x.way(3, 8), 1);
        due.is("as struck", x.way(3, 9), 0);
        due.is("money as told", x.left(1, 2, 9, 8), 0);
        due.is("money as struck", x.left(1, 2, 9, 9), 4);
    }

    private static void giving(Due due) {
        PurseTrace x = spent();
        Due.rules(x, 1, "g(1=1)");
        x.move(1, 2, 20, true, 6, 0, 0);
        due.is("g of the land from which", x.left(2, 1, 6, 6), 18);
        Due.rules(x, 2, "w1(1=1)");
        due.is("w of the land into which", x.way(4, 6), 0);
        Due.rules(x, 2, 0, 5, "g(1=1)");
        due.is("g not in force", x.left(2, 1, 6, 6), 18);
        Due.rules(x, 2, "g(1=2)");
        due.is("g that does not hold", x.left(2, 1, 6, 6), 18);
        Due.rules(x, 2, "g(s=20)");
        due.is("g", x.left(2, 1, 6, 6), 0);
        due.is("g", x.left(2, 2, 6, 6), 20);
        x.knows(2, 1, 6);
        due.is("g of whom one knows", x.left(2, 1, 6, 6), 18);
        x.strike(4);
        x.move(1, 2, 20, false, 6, 0, 0);
        due.is("g of nothing given", x.left(2, 0, 6, 6), 2);
    }

    private static void selling(Due due) {
        PurseTrace x = spent();
        x.deal(false, 1, 0, 20, 6, 0, 0);
        x.deal(true, 1, 0, 40, 6, 1, 1);
        Due.rules(x, 0, "r(1=1)");
        due.is("r of another land", x.took(5, 1, 6), 18);
        Due.rules(x, 1, "r(1=1)");
        due.is("r", x.took(5, 1, 6), 36);
        Due.rules(x, 1, "x1.0");
        due.is("r struck", x.took(5, 1, 6), 18);
    }
}
