/** Promises 10, 11 and 29: the tape, the FAULTS of a TEXT, CHECK. */
public final class TapeTest {
    private static final int NONE = PurseTrace.NONE;

    public static void main(String[] args) {
        Due due = new Due("TapeTest");
        feeds(due);
        refusedRules(due);
        twentyRules(due);
        wholeTexts(due);
        misplaced(due);
        numbers(due);
        manyClauses(due);
        deepOnes(due);
        checks(due);
        bigChecks(due);
        due.end();
    }

    private static void feeds(Due due) {
        PurseTrace x = new PurseTrace();
        for (int i = 1; i <= 20; i++) {
            due.is("feed " + i, x.feed(-1, 0, 1, Integer.MIN_VALUE, Integer.MAX_VALUE), 20 * i);
        }
        due.is("feed 21", x.feed(0, 0, 0, 0, 0), NONE);
        due.is("count(8)", x.count(8), 400);
        due.is("check(33)", x.check(33), 0);
        due.is("count(8) then", x.count(8), 0);
        due.is("feed then", x.feed(0, 0, 0, 0, 0), 20);
    }

    private static void refusedRules(Due due) {
        PurseTrace x = new PurseTrace();
        String text = "w1(1=1);x19.11";
        Due.feed(x, text);
        due.is("land -1", x.rules(-1, 0, 0, 14), NONE);
        due.is("land 4", x.rules(4, 0, 0, 14), NONE);
        due.is("from -1", x.rules(0, -1, 0, 14), NONE);
        due.is("to 4000", x.rules(0, 0, 4000, 14), NONE);
        due.is("days back", x.rules(0, 2, 1, 14), NONE);
        due.is("n 0", x.rules(0, 0, 0, 0), NONE);
        due.is("n -1", x.rules(0, 0, 0, -1), NONE);
        due.is("n 21", x.rules(0, 0, 0, 21), NONE);
        due.is("the tape stays", x.count(8), 20);
        due.is("no rules", x.count(5), 0);
        due.is("rules", x.rules(3, 3999, 3999, 14), 0);
        due.is("the tape is empty", x.count(8), 0);
        due.is("clauses", x.count(20), 2);
        Due.feed(x, "w1(1=1)");
        due.is("a fault", x.rules(0, 0, 0, 6), -1006);
        due.is("the tape is empty behind a fault", x.count(8), 0);
        due.is("no rules behind a fault", x.count(5), 1);
        for (int i = 0; i < 9; i++) {
            Due.feed(x, "w1(1=1)&((1=1))&(1=1)");
        }
        due.is("n 161", x.rules(0, 0, 0, 161), NONE);
        due.is("n 160", x.rules(0, 0, 0, 160), -1007);
    }

    private static void twentyRules(Due due) {
        PurseTrace x = new PurseTrace();
        for (int i = 0; i < 20; i++) {
            due.is("rules " + i, Due.rules(x, i % 4, "x0.0"), i);
        }
        due.is("rules 20", Due.rules(x, 0, "x0.0"), NONE);
        due.is("rules 20 at fault", x.rules(0, 0, 0, 5), NONE);
        due.is("the tape stays", x.count(8), 20);
        due.is("count(5)", x.count(5), 20);
        due.is("count(39)", x.count(39), 1);
    }

    private static void text(Due due, String text, int want) {
        due.is("rules of " + text, Due.rules(new PurseTrace(), 0, text), want);
    }

    private static void wholeTexts(Due due) {
        text(due, "w0(1=1)", 0);
        text(due, "w4(1<1);r(s>999999);g(d=k);x0.0;x19.11", 0);
        text(due, "w000004(1=1)", 0);
        text(due, "x000019.000011", 0);
        text(due, "r(s+d-k*p/h%t=o+n)", 0);
        text(due, "r([1]=[[[[2]]]])", 0);
        text(due, "r(!1=1&!(2=2|3<4)|((5>6)))", 0);
        text(due, "r(!!!!!1=1)", 0);
        text(due, "r((((((1=1))))))", 0);
        text(due, "r(([1]+[2]*3=4)&!(1=1)&[1]=1)", 0);
        StringBuilder longest = new StringBuilder("r(s");
        while (longest.length() < 157) {
            longest.append("+s");
        }
        text(due, longest + "=1)", 0);
    }

    private static void misplaced(Due due) {
        text(due, "w", -1001);
        text(due, "W0(1=1)", -1000);
        text(due, " w0(1=1)", -1000);
        text(due, "w0(1=1) ", -1007);
        text(due, "w0(1 =1)", -1004);
        text(due, "w0(1=1);", -1008);
        text(due, "w0(1=1);;r(1=1)", -1008);
        text(due, "w(1=1)", -1001);
        text(due, "r1(1=1)", -1001);
        text(due, "r()", -1002);
        text(due, "r(1)", -1003);
        text(due, "r(1=)", -1004);
        text(due, "r(=1)", -1002);
        text(due, "r(-1=1)", -1002);
        text(due, "r(1==1)", -1004);
        text(due, "r(1=1=1)", -1005);
        text(due, "r(1=1&)", -1006);
        text(due, "r(1=1|)", -1006);
        text(due, "r(1=1|&1=1)", -1006);
        text(due, "r(&1=1)", -1002);
        text(due, "r(!)", -1003);
        text(due, "r(1!=1)", -1003);
        text(due, "r(s1=1)", -1003);
        text(due, "r(1s=1)", -1003);
        text(due, "r(a=1)", -1002);
        text(due, "r(w=1)", -1002);
        text(due, "r([1=1])", -1004);
        text(due, "r([1)=1)", -1004);
        text(due, "r([(1)]=1)", -1003);
        text(due, "r((1)=1)", -1004);
        text(due, "r((1=1)=1)", -1007);
        text(due, "r((1=1)1=1)", -1007);
        text(due, "r(1+(1)=2)", -1004);
        text(due, "r(1=1", -1005);
        text(due, "r(1=1))", -1006);
        text(due, "r(1=1]", -1005);
        text(due, "r(1=1;r(1=1)", -1005);
        text(due, "r1=1", -1001);
        text(due, "x", -1001);
        text(due, "x1", -1002);
        text(due, "x1.", -1003);
        text(due, "x1,2", -1002);
        text(due, "x.1", -1001);
        text(due, "x1.2.3", -1004);
        text(due, "x1.2(1=1)", -1004);
        text(due, "\u00ff", -1000);
        text(due, "r(1=\u00b9)", -1004);
        text(due, "r(1=\0)", -1004);
        text(due, "r(1/=1)", -1004);
        text(due, "r(1*/1=1)", -1004);
        text(due, "r([]=1)", -1003);
        text(due, "r([1+]=1)", -1005);
    }

    private static void numbers(Due due) {
        text(due, "r(0000000=1)", -2008);
        text(due, "r(1=1234567)", -2010);
        text(due, "r(999999=1)", 0);
        text(due, "w0000000(1=1)", -2007);
        text(due, "w1234567(1=1)", -2007);
        text(due, "x0000000.1", -2007);
        text(due, "x0.0000000", -2009);
        text(due, "w5(1=1)", -3001);
        text(due, "w5", -3001);
        text(due, "w10(1=1)", -3001);
        text(due, "w999999!", -3001);
        text(due, "w5)", -3001);
        text(due, "x20.0", -3001);
        text(due, "x20", -3001);
        text(due, "x20.12", -3001);
        text(due, "x0.12", -3003);
        text(due, "x0.12;w9(1=1)", -3003);
        text(due, "x19.012", -3004);
        text(due, "x0.0;x0.99z", -3008);
    }

    private static void manyClauses(Due due) {
        String twelve = "r(1=1);x0.0;x0.0;x0.0;x0.0;x0.0;x0.0;x0.0;x0.0;x0.0;x0.0;x0.0";
        text(due, twelve, 0);
        int at = twelve.length() + 1;
        text(due, twelve + ";x0.0", -4000 - at);
        text(due, twelve + ";w", -4000 - at);
        text(due, twelve + ";r9", -4000 - at);
        text(due, twelve + ";g", -4000 - at);
        text(due, twelve + ";", -1000 - at);
        text(due, twelve + ";;", -1000 - at);
        text(due, twelve + ";y", -1000 - at);
        text(due, twelve + "y", -1000 - at + 1);
    }

    private static void deepOnes(Due due) {
        text(due, "r(((((((1=1)))))))", -5007);
        text(due, "r(!!!!!!1=1)", -5007);
        text(due, "r(!(!(!1=1)))", 0);
        text(due, "r(!(!(!(1=1))))", -5007);
        text(due, "r(!(!(![1]=1)))", -5007);
        text(due, "r(1=1&!(!(!(!1=1))))", -5011);
        text(due, "r([[[[[[1]]]]]]=1)", -5007);
        text(due, "r([[[[[1]]]]]=1)", 0);
        text(due, "r(1=[[[[[[", -5009);
        text(due, "r(!!!!![1]=1)", -5007);
        text(due, "r(!!!!1=[1])", 0);
        text(due, "r(!!!!!1=[1])", -5009);
        text(due, "r(!!!!!1=1&!!!!!1=1|(((((1=1)))))&[[[[[1]]]]]=1)", 0);
        text(due, "r((((((1=1)))&(((((", -5017);
        text(due, "r((((((1=1)))&(((x", -1017);
        text(due, "r([[[[[1(", -1008);
    }

    private static void checks(Due due) {
        PurseTrace x = Due.with(3);
        x.purse(0, 0);
        x.purse(1, 0);
        due.is("nothing is there", x.check(0), NONE);
        Due.feedNumbers(x, 0, 0, 0);
        due.is("told where nothing is", x.check(1), 0);
        x.line(0, 1, 2, 1000000, 0, 0, 0);
        x.line(0, 1, 0, 300, 0, 1, 1);
        x.line(0, 1, 2, 70000, 0, 2, 2);
        x.line(0, 0, 1, 258, 0, 2, 2);
        int[] right = {0, 1, 258, 1, 0, 300, 1, 2, 1070000};
        Due.feedNumbers(x, right);
        due.is("four are not there", x.check(4), -2);
        due.is("so many are not there", x.check(Integer.MAX_VALUE), -2);
        due.is("-1 are not there", x.check(-1), -2);
        due.is("the tape stays", x.count(8), 40);
        due.is("right", x.check(3), NONE);
        due.is("the tape is empty", x.count(8), 0);
        due.is("one is not there", x.check(1), -2);
        due.is("some are lacking", x.check(0), 0);
        for (int i = 0; i < 9; i++) {
            int[] wrong = right.clone();
            wrong[i] ^= 1 << 3 * i;
            Due.feedNumbers(x, wrong);
            due.is("wrong number " + i, x.check(3), i);
        }
        for (int n = 0; n < 3; n++) {
            Due.feedNumbers(x, right);
            due.is("lacking behind " + n, x.check(n), 3 * n);
        }
        Due.feedNumbers(x, 0, 1, 258, 1, 0, 300, 1, 2, 1070000, 1, 2, 1070000);
        due.is("one too many", x.check(4), 9);
        Due.feedNumbers(x, right);
        due.is("empty by none", x.check(0), 0);
        due.is("empty by none", x.count(8), 0);
        x.now(1);
        x.line(2, 0, -1, 258, 1, 0, 0);
        Due.feedNumbers(x, 1, 0, 300, 1, 2, 1070000);
        due.is("as all is now", x.check(2), NONE);
    }

    /** Sums with something in each of their four bytes. */
    private static void bigChecks(Due due) {
        PurseTrace x = Due.with(1);
        x.purse(0, 0);
        for (int i = 0; i < 20; i++) {
            x.line(0, 0, 0, 1000000 - 1, 0, 0, 0);
        }
        int sum = 19999980;
        for (int shift = 0; shift < 32; shift++) {
            Due.feedNumbers(x, 0, 0, sum ^ 1 << shift);
            due.is("a sum wrong in bit " + shift, x.check(1), 2);
        }
        Due.feedNumbers(x, 0, 0, sum);
        due.is("a big sum", x.check(1), NONE);
    }
}
