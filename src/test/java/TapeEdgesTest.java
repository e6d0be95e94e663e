import java.util.List;

/**
 * The edges of the tape (promises 10, 11 and 29) and of a TEXT (the clauses and FAULTS of part 3
 * of the terms), a test for each sentence that names one.
 */
public final class TapeEdgesTest {
    private static final int NONE = PurseTrace.NONE;
    private static final int MIN = Integer.MIN_VALUE;
    private static final int MAX = Integer.MAX_VALUE;

    private final Due due = new Due("TapeEdgesTest");
    private final Edges edges = new Edges(due, Worlds::small);

    public static void main(String[] args) {
        TapeEdgesTest test = new TapeEdgesTest();
        test.theTapeHas400Bytes();
        test.theHighestByteIsFirst();
        test.rulesOfALand();
        test.rulesFromADayToADay();
        test.rulesByOneTo160Bytes();
        test.theTapeIsEmptyThen();
        test.aFaultEmptiesTheTapeAlone();
        test.rulesAreTwenty();
        test.aTextHasNoBlanks();
        test.clausesAreTwelve();
        test.aSemicolonBetweenTwo();
        test.waysAreZeroToFour();
        test.clausesOfRulesAreStruck();
        test.numbersHaveOneToSixDigits();
        test.sixMayBeOpen();
        test.aFactor();
        test.termsAndPieces();
        test.signsBeforeAndBehind();
        test.theEnd();
        test.theFirstFaultFromTheLeft();
        test.theLongestTexts();
        test.checkWantsSoMany();
        test.checkOfNothing();
        test.theFirstWrongNumber();
        test.someAreLacking();
        test.someAreTooMany();
        test.somethingIsOne();
        test.checkOfTenPersons();
        test.checkAsAllIsNow();
        test.due.end();
    }

    /** "how many it has; NONE if that would be more than 400" */
    private void theTapeHas400Bytes() {
        edges.taken("feed behind 20", 40, x -> x.feed(MIN, MAX, 0, -1, 1));
        new Edges(due, () -> Worlds.withTape(360)).taken("feed behind 360", 380,
            x -> x.feed(0, 0, 0, 0, 0));
        due.is("bytes", new Edges(due, () -> Worlds.withTape(380)).taken("feed behind 380", 400,
            x -> x.feed(0, 0, 0, 0, 0)).count(8), 400);
        new Edges(due, () -> Worlds.withTape(400)).refused("feed behind 400",
            x -> x.feed(-1, -1, -1, -1, -1));
    }

    /** "Twenty bytes come behind the tape, the highest of each int first" */
    private void theHighestByteIsFirst() {
        PurseTrace x = new PurseTrace();
        x.feed(0x72283131, 0x3131313c, 0x32323232, 0x32322926, 0x3d3d3d3d);
        due.is("a fault at byte 15", x.rules(0, 0, 0, 20), -1015);
        x.feed(0x72283131, 0x3131313c, 0x32323232, 0x3232293b, 0x78302e31);
        x.feed(0x313b7831, 0x392e3131, 0, 0, 0);
        due.is("a text over two feeds", x.rules(0, 0, 0, 28), 0);
        due.is("its clauses", x.count(20), 3);
        x.feed(0x72ff283d, 0, 0, 0, 0);
        due.is("a byte of 255", x.rules(0, 0, 0, 4), -1001);
    }

    private void rulesOfALand() {
        for (int land : new int[] {0, 3}) {
            edges.taken("rules of land " + land, 1, x -> x.rules(land, 0, 9, 7));
        }
        for (int land : new int[] {-1, 4, MIN, MAX}) {
            edges.refused("rules of land " + land, x -> x.rules(land, 0, 9, 7));
        }
    }

    /** "from a DAY to a DAY (both too; the second not ahead of the first)" */
    private void rulesFromADayToADay() {
        for (int[] d : new int[][] {{0, 0}, {3999, 3999}, {0, 3999}, {4, 4}, {4, 5}, {7, 9}}) {
            edges.taken("rules from " + d[0] + " to " + d[1], 1, x -> x.rules(0, d[0], d[1], 7));
        }
        int[][] wrong = {{-1, 0}, {-1, -1}, {0, 4000}, {4000, 4000}, {1, 0}, {3999, 3998}, {5, 4},
            {MIN, MAX}, {MIN, 0}, {0, MAX}};
        for (int[] d : wrong) {
            edges.refused("rules from " + d[0] + " to " + d[1], x -> x.rules(0, d[0], d[1], 7));
        }
    }

    /** "the first n bytes of the tape (1 to 160", "NONE (the tape stays)", "not so many" */
    private void rulesByOneTo160Bytes() {
        for (int n : new int[] {0, -1, 21, 160, 161, 400, MIN, MAX}) {
            edges.refused("rules by " + n + " of 20 bytes", x -> x.rules(0, 0, 9, n));
        }
        edges.taken("rules by 1 byte", -1001, x -> x.rules(0, 0, 9, 1));
        edges.taken("rules by all 20 bytes", -1007, x -> x.rules(0, 0, 9, 20));
        Edges long180 = new Edges(due, () -> Worlds.withTape(180));
        long180.taken("rules by 160 bytes", -1007, x -> x.rules(0, 0, 9, 160));
        long180.refused("rules by 161 bytes", x -> x.rules(0, 0, 9, 161));
        long180.refused("rules by 180 bytes", x -> x.rules(0, 0, 9, 180));
        PurseTrace empty = new PurseTrace();
        due.is("rules by 1 of no bytes", empty.rules(0, 0, 9, 1), NONE);
        due.is("rules by none of no bytes", empty.rules(0, 0, 9, 0), NONE);
    }

    /** "(1 to 160; empty then)": all of it, also what is behind the first n */
    private void theTapeIsEmptyThen() {
        PurseTrace x = new Edges(due, () -> Worlds.withTape(400)).taken("rules of a full tape", 1,
            y -> y.rules(0, 0, 9, 7));
        due.is("bytes", x.count(8), 0);
        due.is("feed behind it", x.feed(0x77322831, 0x3d312900, 0, 0, 0), 20);
        due.is("the new text", x.rules(0, 0, 9, 7), 2);
        due.is("is its own", x.way(5, 5), 2);
    }

    /** "a FAULT: -1000 times its number, less its place": no RULES, and the tape is empty. */
    private void aFaultEmptiesTheTapeAlone() {
        PurseTrace x = edges.taken("a fault", -1003, y -> y.rules(0, 0, 9, 3));
        due.is("bytes", x.count(8), 0);
        due.is("rules", x.count(5), 1);
        due.is("clauses", x.count(20), 2);
        due.is("clauses of no rules", x.count(21), NONE);
        Due.feed(x, "w1(1=1)");
        List<String> behind = Portrait.of(x);
        List<String> before = Portrait.of(Worlds.small());
        for (int i = 0; i < before.size(); i++) {
            due.is(before.get(i) + ", but " + behind.get(i), behind.get(i).equals(before.get(i)),
                true);
        }
    }

    /** "RULES 0 to 19", "20 are there" */
    private void rulesAreTwenty() {
        PurseTrace x = new Edges(due, () -> Worlds.withRules(19)).taken("rules 19", 19,
            y -> y.rules(0, 0, 9, 7));
        due.is("rules", x.count(5), 20);
        due.is("the last's clauses", x.count(39), 1);
        due.is("there are no more", x.count(40), NONE);
        due.is("the last count first", x.way(5, 5), 1);
        Edges full = new Edges(due, () -> Worlds.withRules(20));
        full.refused("rules 20", y -> y.rules(0, 0, 9, 7));
        full.refused("rules 20 at fault", y -> y.rules(0, 0, 9, 6));
    }

    private void text(String text, int want) {
        due.is("rules of " + text, Due.rules(new PurseTrace(), 0, text), want);
    }

    /** "without blanks" */
    private void aTextHasNoBlanks() {
        text("r( 1=1)", -1002);
        text("r(1= 1)", -1004);
        text("r(1=1) ;x0.0", -1006);
        text("r(1=1); x0.0", -1007);
        text("x 0.0", -1001);
        text("w 0(1=1)", -1001);
        text("w0 (1=1)", -1002);
        text("\tr(1=1)", -1000);
        text("r(1=1)\n", -1006);
    }

    /** "CLAUSES (12 at most)"; "4 a 13th CLAUSE, at its letter (if that can stand there)" */
    private void clausesAreTwelve() {
        for (String clause : new String[] {"x0.0", "r(1=1)", "g(1=1)", "w0(1=1)"}) {
            StringBuilder twelve = new StringBuilder(clause);
            for (int i = 1; i < 12; i++) {
                twelve.append(';').append(clause);
            }
            text(twelve.toString(), 0);
            PurseTrace x = new PurseTrace();
            Due.rules(x, 0, twelve.toString());
            due.is("clauses", x.count(20), 12);
            int at = twelve.length();
            for (String letter : new String[] {"w", "r", "g", "x"}) {
                text(twelve + ";" + letter, -4000 - at - 1);
            }
            text(twelve + ";" + clause, -4000 - at - 1);
            text(twelve + ";", -1000 - at - 1);
            text(twelve + ";(", -1000 - at - 1);
            text(twelve + clause, -1000 - at);
        }
        PurseTrace one = new PurseTrace();
        Due.rules(one, 0, "x0.0");
        due.is("one clause", one.count(20), 1);
    }

    /** "with a ; (59) between two" */
    private void aSemicolonBetweenTwo() {
        text("x0.0;x0.0", 0);
        text("x0.0x0.0", -1004);
        text("x0.0:x0.0", -1004);
        text("x0.0;;x0.0", -1005);
        text(";x0.0", -1000);
        text("x0.0;", -1005);
        text("r(1=1)w0(1=1)", -1006);
        text("r(1=1),w0(1=1)", -1006);
        due.is("the sign", ';', 59);
    }

    /** "wN(C) the WAY is N (0 to 4)"; "an N ... that it can't be, at its first digit" */
    private void waysAreZeroToFour() {
        for (int n = 0; n < 5; n++) {
            text("w" + n + "(1=1)", 0);
        }
        text("w5(1=1)", -3001);
        text("w9", -3001);
        text("w44(1=1)", -3001);
        text("w-1(1=1)", -1001);
        text("w(1=1)", -1001);
        text("ww(1=1)", -1001);
        text("w1", -1002);
        text("w1;", -1002);
        text("w1.", -1002);
        text("w999999(", -3001);
        text("w9999999", -2007);
    }

    /** "xI.J strikes CLAUSE J (0 to 11) of RULES I (0 to 19)" */
    private void clausesOfRulesAreStruck() {
        text("x0.0", 0);
        text("x19.11", 0);
        text("x20.11", -3001);
        text("x19.12", -3004);
        text("x99.99", -3001);
        text("x100.0", -3001);
        text("x0.100", -3003);
        text("x19.", -1004);
        text("x19.;", -1004);
        text("x19;", -1003);
        text("x19", -1003);
        text("x.0", -1001);
        text("x0..0", -1003);
        text("x-1.0", -1001);
        text("x0.-1", -1003);
        text("x20", -3001);
        text("x0.12", -3003);
    }

    /** "a number of one to six digits"; "2 a seventh digit, at it" */
    private void numbersHaveOneToSixDigits() {
        text("r(9=1)", 0);
        text("r(999999=999999)", 0);
        text("r(000000=000000)", 0);
        text("r(1000000=1)", -2008);
        text("r(0000001=1)", -2008);
        text("r(1=1000000)", -2010);
        text("r(1=12345678)", -2010);
        text("r(1=[123456+1234567])", -2018);
        text("w000001(1=1)", 0);
        text("w0000001(1=1)", -2007);
        text("x000000.000000", 0);
        text("x0000000.0", -2007);
        text("x0.0000000", -2009);
        text("x99999999.0", -2007);
        text("r(/=1)", -1002);
        text("r(:=1)", -1002);
    }

    /** "a seventh of ( [ ! that are open in one another, at it (the ( of the CLAUSE counts" */
    private void sixMayBeOpen() {
        text("r(" + "(".repeat(5) + "1=1" + ")".repeat(6), 0);
        text("r(" + "(".repeat(6) + "1=1" + ")".repeat(7), -5007);
        text("r(" + "[".repeat(5) + "1" + "]".repeat(5) + "=1)", 0);
        text("r(" + "[".repeat(6) + "1" + "]".repeat(6) + "=1)", -5007);
        text("r(" + "!".repeat(5) + "1=1)", 0);
        text("r(" + "!".repeat(6) + "1=1)", -5007);
        text("w1(" + "(".repeat(6), -5008);
        text("x0.0;g(" + "!".repeat(6), -5012);
        text("r(([(", -1004);
        text("r(([!", -1004);
        text("r((![[[1]]]=1))", 0);
        text("r((![[[[1]]]]=1))", -5007);
        text("r((!(!([1]=1))))", -5007);
        text("r((!(!(1=1))))", 0);
        text("r(!!!!!1=1&!!!!!1=1)", 0);
        text("r(!!!!!1=1|(!!!!1=[1]))", -5018);
        text("r(!!!!(1=1|!1=1))", -5011);
        text("r(!!!(1=1|!1=1))", 0);
        text("r(!!!(1=1|!1=1&!1=1))", 0);
        text("r([[[[[1]]]]]+[[[[[1]]]]]=[[[[[1]]]]])", 0);
        text("r(1=[[[[[[", -5009);
        text("r(!!!!!)", -1007);
        text("r(((((()", -1007);
        text("r([[[[[]", -1007);
    }

    /** "a FACTOR: [E], a number of one to six digits, or a letter" */
    private void aFactor() {
        for (char sign = 0; sign < 256; sign++) {
            boolean letter = "sdkphton".indexOf(sign) >= 0;
            boolean digit = sign >= '0' && sign <= '9';
            text("r(1=" + sign + ")", letter || digit ? 0 : sign == '[' ? -1005 : -1004);
        }
        text("r([s]=[1])", 0);
        text("r([]=1)", -1003);
        text("r([s=1)", -1004);
        text("r(s]=1)", -1003);
        text("r(ss=1)", -1003);
        text("r(1s=1)", -1003);
        text("r(s[1]=1)", -1003);
        text("r(S=1)", -1002);
    }

    /** What can stand between two FACTORS, TERMS, PIECES and PARTS, and nothing else. */
    private void termsAndPieces() {
        for (char sign = 1; sign < 256; sign++) {
            boolean between = "+-*/%".indexOf(sign) >= 0;
            text("r(s" + sign + "s=1)", between ? 0 : "<>=".indexOf(sign) >= 0 ? -1005 : -1003);
        }
        for (char sign = 1; sign < 256; sign++) {
            boolean compares = "<>=".indexOf(sign) >= 0;
            text("r(s" + sign + "1)", compares ? 0 : "+-*/%".indexOf(sign) >= 0 ? -1005 : -1003);
        }
        for (char sign = 1; sign < 256; sign++) {
            boolean joins = sign == '&' || sign == '|';
            boolean reckons = "+-*/%".indexOf(sign) >= 0;
            int want = joins ? 0 : reckons ? -1007 : sign == ')' ? -1006 : -1005;
            text("r(s=s" + sign + "s=s)", want);
        }
        text("r(s=s&&s=s)", -1006);
        text("r(s=s||s=s)", -1006);
        text("r(s+=s)", -1004);
        text("r(s+-s=s)", -1004);
        text("r(!&s=s)", -1003);
    }

    /** A PIECE begins with ! ( [ a digit or a letter; a CLAUSE with w r g or x. */
    private void signsBeforeAndBehind() {
        for (char sign = 0; sign < 256; sign++) {
            boolean begins = "wrgx".indexOf(sign) >= 0;
            text(sign + "", begins ? -1001 : -1000);
            text("x0.0;" + sign, begins ? -1006 : -1005);
            if (sign != ';') {
                text("r(1=1)" + sign, -1006);
            }
            if (sign != '.' && (sign < '0' || sign > '9')) {
                text("x1" + sign + "1", -1002);
            }
            if (sign != '(') {
                text("r" + sign, -1001);
            }
        }
        text("r(1=1))", -1006);
        text("r(1=1)(1=1)", -1006);
        text("r((1=1)(1=1))", -1007);
        text("r(1=1!1=1)", -1005);
    }

    /** "1 what can't stand there (the end, too)": each shortening of a text that is whole. */
    private void theEnd() {
        String whole = "w0([s+1]*2<12&!(d=1|k>0));x1.2;g(p=h%3)";
        text(whole, 0);
        for (int n = 1; n < whole.length(); n++) {
            boolean ends = n == 25 || n == 30;
            text(whole.substring(0, n), ends ? 0 : -1000 - n);
        }
    }

    /** "FAULTS, the first from the left" */
    private void theFirstFaultFromTheLeft() {
        text("r(a=1234567)", -1002);
        text("r(1234567=a)", -2008);
        text("w5(a=1)", -3001);
        text("w1(a=1);w5(1=1)", -1003);
        text("x20.12", -3001);
        text("x0.12;x20.0", -3003);
        text("r(((((((a", -5007);
        text("r(a(((((((", -1002);
        text("w7(((((((", -3001);
        text("w12345678(((((((", -2007);
        text("q;x20.0", -1000);
    }

    /** "a TEXT of at most 160 bytes": whole ones of 160, and what they do. */
    private void theLongestTexts() {
        String sums = "w3(s" + "+0".repeat(74) + "=000003)";
        String pieces = "w4(" + "s<0|".repeat(37) + "s=0|s=03)";
        due.is("the length of the longest sum", sums.length(), 160);
        due.is("the length of the longest or", pieces.length(), 160);
        PurseTrace x = Worlds.small();
        x.check(0);
        due.is("the longest sum", Due.rules(x, 0, sums), 1);
        due.is("its way", x.way(5, 5), 3);
        due.is("the longest or", Due.rules(x, 0, pieces), 2);
        due.is("its way", x.way(5, 5), 4);
        due.is("not of another sum", x.way(4, 5), 0);
        for (int i = 3; i < 20; i++) {
            String text = i % 2 == 0 ? sums : pieces.replace("w4", "w2");
            due.is("twenty longest", Due.rules(x, 0, text), i);
        }
        due.is("the highest one's way", x.way(5, 5), 2);
        x = new PurseTrace();
        Due.feed(x, sums.replace("+0=", "+00="));
        due.is("a whole text of 161 bytes", x.rules(0, 0, 9, 161), NONE);
    }

    /** "-2: it has not so many (the tape stays)" */
    private void checkWantsSoMany() {
        for (int n : new int[] {2, 3, 34, MAX, MAX / 3, MAX / 12 + 1, 1 << 30, 1 << 28}) {
            edges.refused("check(" + n + ") of 20 bytes", -2, x -> x.check(n));
        }
        for (int n : new int[] {-1, MIN, MIN / 3, -(1 << 30)}) {
            edges.refused("check(" + n + ")", -2, x -> x.check(n));
        }
        edges.taken("check(1) of 20 bytes", 0, x -> x.check(1));
        new Edges(due, () -> Worlds.withTape(400)).refused("check(34) of 400 bytes", -2,
            x -> x.check(34));
        new Edges(due, () -> Worlds.withTape(400)).taken("check(33) of 400 bytes", 0,
            x -> x.check(33));
        new Edges(due, () -> Worlds.withTape(60)).taken("check(5) of 60 bytes", 0,
            x -> x.check(5));
        new Edges(due, () -> Worlds.withTape(60)).refused("check(6) of 60 bytes", -2,
            x -> x.check(6));
    }

    /** What is right where nothing is: no numbers. */
    private void checkOfNothing() {
        PurseTrace x = new PurseTrace();
        due.is("check(0) of a new object", x.check(0), NONE);
        due.is("check(1) of no bytes", x.check(1), -2);
        x.feed(0, 0, 0, 0, 0);
        due.is("check(1) where nothing is", x.check(1), 0);
        due.is("bytes", x.count(8), 0);
        x.feed(0, 0, 0, 0, 0);
        due.is("check(0) by a tape", x.check(0), NONE);
        due.is("bytes behind check(0)", x.count(8), 0);
    }

    /** PURSE 0: 5 of 0 and 6 of 2; PURSE 2: 7 of 1. */
    private static PurseTrace threeThrees() {
        PurseTrace x = Due.with(3);
        x.purse(0, 0);
        x.purse(1, 0);
        x.purse(2, 0);
        x.line(0, 2, 1, 7, 0, 0, 0);
        x.line(0, 0, 2, 6, 0, 1, 1);
        x.line(0, 0, 0, 5, 0, 2, 2);
        return x;
    }

    private static final int[] RIGHT = {0, 0, 5, 0, 2, 6, 2, 1, 7};

    private void check(String name, int n, int want, int... numbers) {
        PurseTrace x = threeThrees();
        Due.feedNumbers(x, numbers);
        due.is(name, x.check(n), want);
        due.is("bytes behind " + name, x.count(8), 0);
    }

    /** "the place of the first number that is not so" */
    private void theFirstWrongNumber() {
        check("right", 3, NONE, RIGHT);
        for (int i = 0; i < 9; i++) {
            for (int bit = 0; bit < 32; bit++) {
                int[] wrong = RIGHT.clone();
                wrong[i] ^= 1 << bit;
                for (int j = i + 1; j < 9; j += 2) {
                    wrong[j]++;
                }
                check("number " + i + " wrong in bit " + bit, 3, i, wrong);
            }
        }
        check("a person without anything", 3, 1, 0, 1, 0, 0, 0, 5, 0, 2, 6, 2, 1, 7);
        check("persons turned", 3, 1, 0, 2, 6, 0, 0, 5, 2, 1, 7);
        check("purses turned", 3, 0, 2, 1, 7, 0, 0, 5, 0, 2, 6);
    }

    /** "(3 n: some are lacking)" */
    private void someAreLacking() {
        check("two of three", 2, 6, RIGHT);
        check("one of three", 1, 3, RIGHT);
        check("none of three", 0, 0, RIGHT);
        check("two of three, one wrong", 2, 5, 0, 0, 5, 0, 2, 7);
    }

    /** What is told beyond what is there is not so, whatever it is. */
    private void someAreTooMany() {
        check("four of three", 4, 9, 0, 0, 5, 0, 2, 6, 2, 1, 7, 0, 0, 0);
        check("twice the last", 4, 9, 0, 0, 5, 0, 2, 6, 2, 1, 7, 2, 1, 7);
        check("four of three, one wrong", 4, 8, 0, 0, 5, 0, 2, 6, 2, 1, 8, 0, 0, 0);
        check("six of three", 6, 9, 0, 0, 5, 0, 2, 6, 2, 1, 7, 0, 0, 0, 0, 0, 0, 0, 0, 0);
    }

    /** "all PERSONS of whom something is in it": one is something */
    private void somethingIsOne() {
        PurseTrace x = threeThrees();
        x.line(0, 1, 0, 1, 0, 0, 0);
        Due.feedNumbers(x, 0, 0, 5, 0, 2, 6, 1, 0, 1, 2, 1, 7);
        due.is("one of 0 in purse 1", x.check(4), NONE);
        Due.feedNumbers(x, RIGHT);
        due.is("without that one", x.check(3), 6);
        x.line(2, 1, NONE, 1, 0, 1, 1);
        Due.feedNumbers(x, RIGHT);
        due.is("none of 0 in purse 1", x.check(3), NONE);
    }

    /** The last PURSE and PERSON are asked too, and none behind them. */
    private void checkOfTenPersons() {
        PurseTrace x = Due.with(10);
        for (int p = 0; p < 10; p++) {
            x.purse(0, 0);
        }
        x.line(0, 9, 9, 4, 0, 0, 0);
        x.line(0, 0, 9, 3, 0, 0, 0);
        Due.feedNumbers(x, 0, 9, 3, 9, 9, 4);
        due.is("the last person in the first and the last purse", x.check(2), NONE);
        Due.feedNumbers(x, 0, 9, 3);
        due.is("without the last", x.check(1), 3);
        for (int i = 0; i < 98; i++) {
            x.line(0, i % 10, i / 10, 5 + i, 0, 0, 0);
        }
        int[] numbers = new int[99];
        int size = 0;
        for (int o = 0; o < 10; o++) {
            int more = o == 9 ? 3 : 0;
            numbers[size++] = 0;
            numbers[size++] = o;
            numbers[size++] = 5 + 10 * o + more;
        }
        for (int p = 1; p < 3; p++) {
            for (int o = 0; o < 10; o++) {
                numbers[size++] = p;
                numbers[size++] = o;
                numbers[size++] = 5 + 10 * o + p;
            }
        }
        for (int o = 0; o < 3; o++) {
            numbers[size++] = 3;
            numbers[size++] = o;
            numbers[size++] = 8 + 10 * o;
        }
        Due.feedNumbers(x, numbers);
        due.is("33 of a hundred", x.check(33), 99);
    }

    /** "AT THE END of NOW as KNOWN now"; what is less than all is what is left. */
    private void checkAsAllIsNow() {
        PurseTrace x = threeThrees();
        x.now(4);
        x.line(2, 0, NONE, 6, 4, 0, 0);
        Due.feedNumbers(x, 0, 0, 5, 2, 1, 7);
        due.is("all of one is spent", x.check(2), NONE);
        x.strike(3);
        Due.feedNumbers(x, RIGHT);
        due.is("that is struck", x.check(3), NONE);
        x.strike(0);
        Due.feedNumbers(x, RIGHT);
        due.is("and a come too", x.check(2), NONE);
    }
}
