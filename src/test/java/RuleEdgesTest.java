/**
 * The edges of part 3 of the terms beside its FAULTS (see TapeEdgesTest): which RULES and CLAUSES
 * count for a LINE, and what a C asks of it. A test for each sentence that names an edge.
 */
public final class RuleEdgesTest {
    private static final int NONE = PurseTrace.NONE;

    private final Due due = new Due("RuleEdgesTest");

    public static void main(String[] args) {
        RuleEdgesTest test = new RuleEdgesTest();
        test.toldByThen();
        test.ofTheLandOfItsPurse();
        test.inForceOnItsDay();
        test.fromTheHighestDown();
        test.theFirstSuch();
        test.aStruckOneDoesNotCount();
        test.strikesOfTheFirstAndLastClause();
        test.strikesOfWhatIsNotThere();
        test.strikesOfLowerRulesAlone();
        test.strikesAmongThese();
        test.aStruckStrike();
        test.struckTwice();
        test.noWayWithoutOne();
        test.eachLetterForItself();
        test.comparisons();
        test.fromTheLeftOn();
        test.sixtyFourBits();
        test.dividedByZero();
        test.asMuchAsMatters();
        test.lettersOfEachKind();
        test.lettersAheadOfTheLine();
        test.lettersOfAnEmptyPurse();
        test.lettersOfTenPersons();
        test.lettersOfTheLargest();
        test.due.end();
    }

    /**
     * PURSE 4 of LAND 2 is PERSON 3's: 20 of 1, 7 of 3, 5 of 0. PURSE 5 of LAND 3 is 2's. NOW is
     * 8. LINE 3: 9 SPENT, on DAY 6.
     */
    private static PurseTrace start() {
        PurseTrace x = Due.with(10);
        for (int p = 0; p < 4; p++) {
            x.purse(p, 0);
        }
        x.purse(3, 2);
        x.purse(2, 3);
        x.thing();
        x.now(8);
        x.line(0, 4, 1, 20, 3, 0, 0);
        x.line(0, 4, 3, 7, 3, 1, 1);
        x.line(0, 4, 0, 5, 3, 2, 2);
        x.line(2, 4, NONE, 9, 6, 0, 0);
        return x;
    }

    private void way(PurseTrace x, String what, int want) {
        due.is(what, x.way(3, x.count(0)), want);
    }

    private static PurseTrace by(String... texts) {
        PurseTrace x = start();
        for (String text : texts) {
            Due.rules(x, 2, text);
        }
        return x;
    }

    private void holds(String c, boolean want) {
        way(by("w1(" + c + ")"), c, want ? 1 : 0);
    }

    /** "of RULES told by t" */
    private void toldByThen() {
        PurseTrace x = start();
        x.now(10);
        Due.rules(x, 2, "w1(1=1)");
        x.now(11);
        due.is("a day ahead of their telling", x.way(3, 9), 0);
        due.is("on the day of their telling", x.way(3, 10), 1);
        due.is("a day later", x.way(3, 11), 1);
        due.is("lost as known ahead", x.lost(4, 1, 8, 9), 9);
        due.is("lost as known then", x.lost(4, 1, 8, 10), 0);
    }

    /** "of the LAND of its PURSE (of a MOVE for g: of the PURSE into which)" */
    private void ofTheLandOfItsPurse() {
        for (int land = 0; land < 4; land++) {
            PurseTrace x = start();
            Due.rules(x, land, "w1(1=1);g(1=1);r(1=1)");
            int move = x.move(4, 5, 9, true, 6, 1, 1);
            int buy = x.deal(false, 4, 0, 4, 6, 2, 2);
            x.deal(true, 5, 0, 8, 6, 3, 3);
            way(x, "spent by rules of land " + land, land == 2 ? 1 : 0);
            due.is("move by rules of land " + land, x.way(move, 8), land == 2 ? 1 : 0);
            due.is("buy by rules of land " + land, x.way(buy, 8), land == 2 ? 1 : 0);
            due.is("leading ends by rules of land " + land, x.left(5, 2, 6, 8),
                land == 3 ? 9 : 4);
        }
    }

    /** "in FORCE on its DAY", "(both too" */
    private void inForceOnItsDay() {
        int[][] days = {{6, 6, 1}, {5, 6, 1}, {6, 7, 1}, {0, 3999, 1}, {7, 7, 0}, {7, 3999, 0},
            {0, 5, 0}, {5, 5, 0}};
        for (int[] d : days) {
            PurseTrace x = start();
            Due.rules(x, 2, d[0], d[1], "w1(1=1)");
            way(x, "in force from " + d[0] + " to " + d[1], d[2]);
            x = start();
            Due.rules(x, 3, d[0], d[1], "g(1=1)");
            x.move(4, 5, 9, true, 6, 1, 1);
            due.is("g from " + d[0] + " to " + d[1], x.left(5, 2, 6, 8), d[2] * 9);
            x = start();
            Due.rules(x, 2, d[0], d[1], "r(1=1)");
            x.deal(false, 4, 0, 4, 6, 1, 1);
            int sell = x.deal(true, 4, 0, 8, 6, 2, 2);
            due.is("r from " + d[0] + " to " + d[1], x.took(sell, 3, 8), d[2] == 1 ? 0 : 4);
        }
    }

    /** "from the highest number down" */
    private void fromTheHighestDown() {
        way(by("w1(1=1)", "w2(1=1)", "w3(1=1)"), "the highest", 3);
        way(by("w1(1=1)", "w2(1=1)", "w3(1=2)"), "the highest that holds", 2);
        way(by("w1(1=1)", "w0(1=1)"), "the highest, of way 0", 0);
        way(by("w4(1=1)", "r(1=1)", "g(1=1)", "x0.5"), "the highest that has one", 4);
        PurseTrace x = start();
        for (int i = 0; i < 19; i++) {
            Due.rules(x, 2, "w4(1=1)");
        }
        Due.rules(x, 2, "w3(1=1)");
        way(x, "the twentieth", 3);
    }

    /** "the first such" */
    private void theFirstSuch() {
        way(by("w1(1=1);w2(1=1)"), "the first", 1);
        way(by("w1(1=2);w2(1=1);w3(1=1)"), "the first that holds", 2);
        way(by("r(1=1);g(1=1);x0.0;w3(1=1)"), "the first of its letter", 3);
        way(by("x0.0;x0.0;x0.0;x0.0;x0.0;x0.0;x0.0;x0.0;x0.0;x0.0;x0.0;w4(1=1)"),
            "the twelfth", 4);
    }

    /** "each CLAUSE that is not STRUCK by then counts" */
    private void aStruckOneDoesNotCount() {
        way(by("w1(1=1)", "x0.0"), "the only one struck", 0);
        way(by("w1(1=1);w2(1=1)", "x0.0"), "the first of two struck", 2);
        way(by("w1(1=1);w2(1=1)", "x0.1"), "the second of two struck", 1);
        way(by("w1(1=1);w2(1=1)", "x0.0;x0.1"), "both struck", 0);
        way(by("w1(1=1)", "w2(1=1)", "x1.0"), "the higher one struck", 1);
        way(by("w1(1=1)", "x0.0;w2(1=1)"), "one in its place", 2);
        way(by("w1(1=1)", "w2(1=2);x0.0"), "no one in its place", 0);
    }

    /** "xI.J strikes CLAUSE J (0 to 11) of RULES I (0 to 19)" */
    private void strikesOfTheFirstAndLastClause() {
        String twelve = "r(1=2);".repeat(11) + "w4(1=1)";
        way(by(twelve), "the twelfth clause", 4);
        way(by(twelve, "x0.11"), "the twelfth struck", 0);
        way(by(twelve, "x0.10;x0.0"), "others struck", 4);
        for (int i = 0; i < 19; i++) {
            PurseTrace x = start();
            for (int j = 0; j < 19; j++) {
                Due.rules(x, 2, j == i ? "w3(1=1)" : "g(1=1)");
            }
            Due.rules(x, 2, "x" + i + ".0");
            way(x, "a clause of rules " + i + " struck", 0);
        }
    }

    private void strikesOfWhatIsNotThere() {
        way(by("w1(1=1)", "x0.1;x0.11"), "clauses that are not there", 1);
        way(by("w1(1=1)", "x2.0;x19.0;x19.11"), "rules that are not there", 1);
        way(by("w1(1=1)", "x2.0;x2.1", "w2(1=1);w3(1=1)"), "rules that come later", 2);
    }

    /** "if that is of lower RULES": not of its own, not of higher ones */
    private void strikesOfLowerRulesAlone() {
        way(by("x0.1;w1(1=1)"), "its own, behind it", 1);
        way(by("w1(1=1);x0.0"), "its own, ahead of it", 1);
        way(by("x0.0;w1(1=1)"), "itself", 1);
        way(by("x1.0", "w1(1=1)"), "a higher one", 1);
        way(by("w1(1=1)", "x1.1;w2(1=1);x0.0"), "its own above others", 2);
    }

    /** "among these": of the LAND, in FORCE, told by then */
    private void strikesAmongThese() {
        PurseTrace x = by("w1(1=1)");
        Due.rules(x, 1, "x0.0");
        way(x, "a strike of another land", 1);
        Due.rules(x, 2, 7, 3999, "x0.0");
        way(x, "a strike that is not yet in force", 1);
        Due.rules(x, 2, 0, 5, "x0.0");
        way(x, "a strike that is not in force any more", 1);
        x.now(9);
        Due.rules(x, 2, 6, 6, "x0.0");
        way(x, "a strike in force", 0);
        due.is("a strike not told by then", x.way(3, 8), 1);
        x = start();
        Due.rules(x, 3, "g(1=1)");
        Due.rules(x, 2, "x0.0");
        x.move(4, 5, 9, true, 6, 1, 1);
        due.is("g is not struck by the land from which", x.left(5, 2, 6, 8), 9);
        Due.rules(x, 3, "x0.0");
        due.is("but by its own land", x.left(5, 2, 6, 8), 0);
    }

    /** "an x that counts" */
    private void aStruckStrike() {
        way(by("w1(1=1)", "x0.0", "x1.0"), "a struck strike", 1);
        way(by("w1(1=1)", "x0.0", "x1.0", "x2.0"), "its strike struck", 0);
        way(by("w1(1=1)", "x0.0;x0.0", "x1.0"), "one of two strikes struck", 0);
        way(by("w1(1=1)", "x0.0;x0.0", "x1.0;x1.1"), "both strikes struck", 1);
        way(by("w1(1=1)", "x0.0", "x1.0;x0.0"), "struck by a higher one too", 0);
    }

    private void struckTwice() {
        way(by("w1(1=1)", "x0.0;x0.0"), "struck twice by one", 0);
        way(by("w1(1=1)", "x0.0", "x0.0"), "struck by two", 0);
        way(by("w2(1=1);w1(1=1)", "x0.1;x0.1;x0.0"), "each struck", 0);
    }

    /** "THE WAY: of THE CLAUSE w; 0 without one." */
    private void noWayWithoutOne() {
        way(start(), "no rules", 0);
        way(by("r(1=1);g(1=1);x0.0"), "no such clause", 0);
        way(by("w4(1=2)"), "none that holds", 0);
        way(by("w4(1/0=0)"), "none that is not refused", 0);
        way(by("w4(1=1)"), "one", 4);
    }

    /** w, r and g do not stand for one another. */
    private void eachLetterForItself() {
        for (String letter : new String[] {"w1", "r", "g"}) {
            PurseTrace x = start();
            Due.rules(x, 2, letter + "(1=1)");
            Due.rules(x, 3, letter + "(1=1)");
            x.deal(false, 4, 0, 4, 6, 1, 1);
            int sell = x.deal(true, 4, 0, 8, 6, 2, 2);
            x.move(4, 5, 1, true, 6, 3, 3);
            way(x, letter, letter.equals("w1") ? 1 : 0);
            due.is("rises by " + letter, x.took(sell, 3, 8) == 0, letter.equals("r"));
            due.is("ends by " + letter, x.left(5, 2, 6, 8), letter.equals("g") ? 1 : 0);
        }
    }

    private void comparisons() {
        for (int a = 1; a <= 3; a++) {
            holds(a + "<2", a < 2);
            holds(a + ">2", a > 2);
            holds(a + "=2", a == 2);
            holds("!" + a + "<2", a >= 2);
            holds("!" + a + ">2", a <= 2);
            holds("!" + a + "=2", a != 2);
            holds("s-9-" + a + "<0-2", -a < -2);
            holds("s-9-" + a + ">0-2", -a > -2);
        }
    }

    /** "from the left on" */
    private void fromTheLeftOn() {
        holds("20-5-3=12", true);
        holds("20-5+3=18", true);
        holds("20/5*3=12", true);
        holds("20/3/2=3", true);
        holds("20%7%4=2", true);
        holds("2*20%7=5", true);
        holds("20-2*5=10", true);
        holds("[20-2]*5=90", true);
        holds("1=2|1=1&1=1", true);
        holds("1=1|1=2&1=2", true);
        holds("(1=1|1=2)&1=2", false);
        holds("!1=1&1=2", false);
        holds("!1=2&1=1", true);
        holds("!(1=1&1=2)", true);
        holds("!!1=1", true);
        holds("!1=2|1=2", true);
        holds("0-7/2=0-3", true);
        holds("[0-7]/2=0-3", true);
        holds("[0-7]%2=0-1", true);
        holds("7%[0-2]=1", true);
    }

    /** "All is reckoned with 64 bits, as the machine does" */
    private void sixtyFourBits() {
        String most = "[65536*65536*65536*32767+65536*65536*65535+65536*65535+65535]";
        holds("65536*65536*65536*32768<0", true);
        holds("65536*65536*65536*32768-1=" + most, true);
        holds(most + ">0", true);
        holds(most + "+1<0", true);
        holds("0-" + most + "-1<0", true);
        holds("0-" + most + "-2>0", true);
        holds("65536*65536>65536*65535", true);
        holds("65536*32768*2*65536*65536*0=0", true);
        holds("65536*65536*65536*65536=0", true);
        holds("65536*65536*65536*65536+1=1", true);
        holds("[65536*65536*65536*32768]/[0-1]=65536*65536*65536*32768", true);
        holds("[65536*65536*65536*32768]%[0-1]=0", true);
        holds("2147483*1000+647+1>0", false);
        holds("214748*10000+3647+1>0", true);
    }

    /** "what is divided by 0 is REFUSED: then the CLAUSE's whole C does not hold" */
    private void dividedByZero() {
        holds("1/0=0", false);
        holds("1%0=0", false);
        holds("0/0=0", false);
        holds("0%0=0", false);
        holds("1/1=1", true);
        holds("1/[0-1]=0-1", true);
        holds("1/[s-9]=0", false);
        holds("1/[s-8]=1", true);
        holds("!1/0=0", false);
        holds("!(1/0=0)", false);
        holds("!1/0=1", false);
        holds("1/0=0|1=1", false);
        holds("1=2|1/0=0|1=1", false);
        holds("1=1&(1/0=0|1=1)", false);
        holds("!(1=1&1%0=0)", false);
        holds("0*[1/0]=0", false);
        holds("1=1/0", false);
        way(by("w1(1/0=0);w2(1=1)"), "the next one is asked", 2);
        way(by("w3(1=1)", "w1(1/0=0|1=1)"), "the lower ones are asked", 3);
    }

    /** "Of a C as much is asked, from the left, as matters." */
    private void asMuchAsMatters() {
        holds("1=1|1/0=0", true);
        holds("1=2&1/0=0|1=1", true);
        holds("1=2&1/0=0", false);
        holds("1=1|1=1|1/0=0", true);
        holds("1=2|1=1|1/0=0", true);
        holds("1=1|1=2&1/0=0", true);
        holds("!(1=2&1/0=0)", true);
        holds("!(1=1|1/0=0)", false);
        holds("(1=1|1/0=0)&1=1", true);
        holds("(1=1|1/0=0)&1/0=0", false);
        holds("(1=2&1/0=0)|1=1", true);
        holds("1=2&(1/0=0|1/0=0)|1=1", true);
        holds("1=2&1=1&1/0=0|1=1", true);
        holds("1=1&1=2&1/0=0|1=1", true);
        holds("!1=1&1/0=0|1=1", true);
        holds("!1=2|1/0=0", true);
    }

    /** "of the LINE, ahead of it: s its SUM, d its DAY, k its KIND, p the PURSE, h its HOLDER" */
    private void lettersOfEachKind() {
        String common = "p=4&h=3&";
        way(by("w1(" + common + "s=9&d=6&k=2&t=32&o=7&n=3)"), "letters of spent", 1);
        PurseTrace x = by("w1(" + common + "s=2&d=7&k=1&t=23&o=7&n=3)");
        Due.rules(x, 3, "g(" + common + "s=2&d=7&k=1&t=23&o=7&n=3)");
        x.line(0, 5, 6, 50, 0, 0, 0);
        x.line(0, 5, 2, 60, 0, 1, 1);
        int i = x.move(4, 5, 2, true, 7, 1, 1);
        due.is("letters of a move for w", x.way(i, 8), 1);
        due.is("letters of a move for g", x.left(5, 2, 8, 8), 62);
        x = by("w1(" + common + "s=3&d=7&k=3&t=23&o=7&n=3)");
        i = x.deal(false, 4, 0, 3, 7, 1, 1);
        due.is("letters of buy", x.way(i, 8), 1);
        x = by("r(" + common + "s=6&d=7&k=4&t=20&o=7&n=3)");
        x.deal(false, 4, 0, 3, 7, 1, 1);
        i = x.deal(true, 4, 0, 6, 7, 2, 2);
        due.is("letters of sell", x.took(i, 1, 8), 6);
    }

    private void lettersAheadOfTheLine() {
        PurseTrace x = by("w1(t=32);w2(t=23);w3(t=13);w4(1=1)");
        int i = x.line(2, 4, NONE, 10, 6, 1, 1);
        int j = x.line(2, 4, NONE, 13, 6, 2, 2);
        int k = x.line(2, 4, NONE, 1, 6, 3, 3);
        way(x, "all is there", 1);
        due.is("less is there", x.way(i, 8), 2);
        due.is("just so much is there", x.way(j, 8), 3);
        due.is("nothing is there", x.way(k, 8), 4);
        due.is("it fails", x.took(k, 0, 8), -2);
    }

    private void lettersOfAnEmptyPurse() {
        PurseTrace x = start();
        Due.rules(x, 3, "w1(t=0&o=0&n=0&h=2&p=5)");
        int i = x.line(2, 5, NONE, 1, 6, 3, 3);
        due.is("letters of an empty purse", x.way(i, 8), 1);
        x.line(0, 5, 2, 1, 6, 2, 2);
        Due.rules(x, 3, "w2(t=1&o=1&n=1)");
        due.is("letters of the holder's one", x.way(i, 8), 2);
        x.line(0, 5, 9, 1, 6, 2, 2);
        Due.rules(x, 3, "w3(t=2&o=1&n=2)");
        due.is("letters of one more", x.way(i, 8), 3);
        x.line(0, 5, 2, 1, 6, 2, 2);
        Due.rules(x, 3, "w4(t=3&o=2&n=2)");
        due.is("letters of two parts of one", x.way(i, 8), 4);
    }

    private void lettersOfTenPersons() {
        PurseTrace x = start();
        for (int o = 0; o < 10; o++) {
            x.line(0, 5, o, o + 1, 6, 0, 0);
        }
        Due.rules(x, 3, "w1(n=10&t=55&o=3)");
        int i = x.line(2, 5, NONE, 1, 6, 3, 3);
        due.is("letters of ten persons", x.way(i, 8), 1);
    }

    private void lettersOfTheLargest() {
        PurseTrace x = Due.with(10);
        for (int p = 0; p < 10; p++) {
            x.purse(9, 3);
        }
        x.now(3999);
        for (int i = 0; i < 97; i++) {
            x.line(0, 9, 9, 1000000, 3999, 0, 0);
        }
        Due.rules(x, 3, "w1(s=999999+1&d=3999&p=9&h=9&t=97*[s]&o=t&n=1)");
        int i = x.line(2, 9, NONE, 1000000, 3999, 23, 23);
        due.is("letters of the largest", x.way(i, 3999), 1);
        Due.rules(x, 3, "w2(t*t/t=t&t*t>999999*999999)");
        due.is("their product", x.way(i, 3999), 2);
    }
}
