/**
 * The edges of what is told (promises 1 to 9, 12, 22, 23 and 27): each sentence of the document
 * that names one has a test here, with what is just inside, what is just outside, and that a
 * refused call changes nothing.
 */
public final class TellingEdgesTest {
    private static final int NONE = PurseTrace.NONE;
    private static final int MIN = Integer.MIN_VALUE;
    private static final int MAX = Integer.MAX_VALUE;
    private static final int[] NO_SUMS = {0, -1, 1000001, MIN, MAX};
    private static final int[] NO_WAYS = {-1, 5, 31, MIN, MAX};
    private static final int[] TELLING_KINDS = {0, 2, 5};

    private final Due due = new Due("TellingEdgesTest");
    private final Edges edges = new Edges(due, Worlds::small);

    public static void main(String[] args) {
        TellingEdgesTest test = new TellingEdgesTest();
        test.aNewObjectHasNothing();
        test.aNewObjectRefusesWhatNeedsSomething();
        test.nowGoesFromZeroTo3999();
        test.nowIsNeverBack();
        test.personsAreTen();
        test.aPurseHasAPersonAndALand();
        test.pursesAreTen();
        test.thingsAreTen();
        test.linesWithoutSuchOnes();
        test.sumsAreOneToAMillion();
        test.aLinesDayIsNotBehindNow();
        test.hoursAreZeroTo23();
        test.linesAreAHundred();
        test.aMoveHasTwoPurses();
        test.aDealHasAThing();
        test.strikesOnce();
        test.knowsOfAnother();
        test.tellingsAreAHundred();
        test.debtsOfTwo();
        test.debtsAreForty();
        test.choicesAreBits();
        test.fourPursesHaveChoices();
        test.barsOfTwoPurses();
        test.barsAreForty();
        test.allStoresFull();
        test.theLastCall();
        test.due.end();
    }

    private static int other(int kind) {
        return kind == 2 ? NONE : 0;
    }

    /** "DAY 0; no PERSONS, PURSES, LINES, RULES." */
    private void aNewObjectHasNothing() {
        PurseTrace x = new PurseTrace();
        for (int what = 0; what <= 10; what++) {
            due.is("count(" + what + ") of a new object", x.count(what), 0);
        }
        for (int i = 0; i < 20; i++) {
            due.is("count(" + (20 + i) + ") of a new object", x.count(20 + i), NONE);
        }
        due.is("fails of a new object", x.fails(0), 0);
        due.is("the first person", x.person(), 0);
        due.is("the first purse", x.purse(0, 0), 0);
        due.is("the first thing", x.thing(), 0);
        due.is("the first line", x.line(0, 0, 0, 1, 0, 0, 0), 0);
        due.is("the first rules", Due.rules(x, 0, "x0.0"), 0);
    }

    private void aNewObjectRefusesWhatNeedsSomething() {
        PurseTrace x = new PurseTrace();
        due.is("purse of no one", x.purse(0, 0), NONE);
        due.is("line of no purse", x.line(0, 0, 0, 1, 0, 0, 0), NONE);
        due.is("spent of no purse", x.line(2, 0, NONE, 1, 0, 0, 0), NONE);
        due.is("move of no purse", x.move(0, 1, 1, true, 0, 0, 0), NONE);
        due.is("deal of no purse", x.deal(true, 0, 0, 1, 0, 0, 0), NONE);
        due.is("strike of no line", x.strike(0), false);
        due.is("knows of no one", x.knows(0, 1, 0), false);
        due.is("choose of no purse", x.choose(0, 0), false);
        due.is("bar of no purse", x.bar(0, 0, 1, 0), false);
        due.is("debt of no one", x.debt(0, 1, 1, 0), NONE);
        due.is("rules of no bytes", x.rules(0, 0, 0, 1), NONE);
        for (int what = 0; what <= 10; what++) {
            due.is("count(" + what + ") behind all that", x.count(what), 0);
        }
    }

    /** "NOW is a DAY (0 at first, to 3999)" */
    private void nowGoesFromZeroTo3999() {
        PurseTrace x = new PurseTrace();
        due.is("now(0) at first", x.now(0), true);
        due.is("now(-1) at first", x.now(-1), false);
        due.is("now(4000) at first", x.now(4000), false);
        due.is("NOW", x.count(0), 0);
        due.is("now(3999)", x.now(3999), true);
        due.is("NOW", x.count(0), 3999);
        due.is("now(4000) at the last", x.now(4000), false);
        due.is("now(3999) at the last", x.now(3999), true);
        due.is("now(3998) at the last", x.now(3998), false);
        due.is("NOW", x.count(0), 3999);
        for (int day : new int[] {-1, 4000, MIN, MAX}) {
            edges.refusedTelling("now(" + day + ")", y -> y.now(day));
        }
    }

    /** "never back": "it is past" */
    private void nowIsNeverBack() {
        due.is("NOW behind now(5)", edges.taken("now(5) on 5", x -> x.now(5)).count(0), 5);
        due.is("NOW behind now(6)", edges.taken("now(6) on 5", x -> x.now(6)).count(0), 6);
        edges.refusedTelling("now(4) on 5", x -> x.now(4));
        edges.refusedTelling("now(0) on 5", x -> x.now(0));
    }

    /** "PERSONS 0 to 9", "NONE: 10 are there" */
    private void personsAreTen() {
        due.is("persons", edges.taken("person()", 3, x -> x.person()).count(1), 4);
        PurseTrace x = new PurseTrace();
        for (int i = 0; i < 10; i++) {
            due.is("person " + i, x.person(), i);
        }
        due.is("the tenth holds a purse", x.purse(9, 0), 0);
        new Edges(due, Worlds::withTenPersons).refused("an eleventh person", y -> y.person());
    }

    /** "a HOLDER (a PERSON) and a LAND", "LANDS 0 to 3" */
    private void aPurseHasAPersonAndALand() {
        edges.taken("purse(0, 0)", 3, x -> x.purse(0, 0));
        edges.taken("purse(2, 3)", 3, x -> x.purse(2, 3));
        for (int holder : new int[] {-1, 3, 9, 10, MIN, MAX}) {
            edges.refused("purse(" + holder + ", 0)", x -> x.purse(holder, 0));
        }
        for (int land : new int[] {-1, 4, MIN, MAX}) {
            edges.refused("purse(0, " + land + ")", x -> x.purse(0, land));
        }
    }

    /** "PURSES 0 to 9", "10 are there" */
    private void pursesAreTen() {
        PurseTrace x = Due.with(1);
        for (int i = 0; i < 10; i++) {
            due.is("purse " + i, x.purse(0, 3), i);
        }
        due.is("the tenth takes a line", x.line(0, 9, 0, 5, 0, 0, 0), 0);
        due.is("and holds it", x.left(9, 0, 0, 0), 5);
        due.is("and the ninth does not", x.left(8, 0, 0, 0), 0);
        new Edges(due, Worlds::withTenPurses).refused("an eleventh purse", y -> y.purse(0, 0));
    }

    /** "THINGS 0 to 9", "NONE: 10 are there" */
    private void thingsAreTen() {
        PurseTrace x = Due.with(1);
        x.purse(0, 0);
        for (int i = 0; i < 10; i++) {
            due.is("thing " + i, x.thing(), i);
        }
        x.line(0, 0, 0, 5, 0, 0, 0);
        due.is("the tenth is bought", x.deal(false, 0, 9, 4, 0, 1, 1), 1);
        due.is("its share", x.share(9, 0, 0, 0), 4);
        due.is("the ninth's share", x.share(8, 0, 0, 0), 0);
        new Edges(due, Worlds::withTenThings).refused("an eleventh thing", y -> y.thing());
    }

    /** "KIND 0, 2, 5", "other is the PERSON (SPENT: NONE)", "NONE: no such ones" */
    private void linesWithoutSuchOnes() {
        for (int kind : new int[] {-1, 1, 3, 4, 6, MIN, MAX}) {
            edges.refused("a line of kind " + kind, x -> x.line(kind, 0, 0, 1, 5, 0, 0));
            edges.refused("a line of kind " + kind + " of NONE",
                x -> x.line(kind, 0, NONE, 1, 5, 0, 0));
        }
        for (int kind : TELLING_KINDS) {
            edges.taken("kind " + kind + " of the last purse", 7,
                x -> x.line(kind, 2, other(kind), 1, 5, 0, 0));
            for (int p : new int[] {-1, 3, 10, MIN, MAX}) {
                edges.refused("kind " + kind + " of purse " + p,
                    x -> x.line(kind, p, other(kind), 1, 5, 0, 0));
            }
            int[] wrong = kind == 2 ? new int[] {0, 2, 3, -2, MIN, MAX}
                : new int[] {NONE, 3, 10, MIN, MAX};
            for (int other : wrong) {
                edges.refused("kind " + kind + " of other " + other,
                    x -> x.line(kind, 0, other, 1, 5, 0, 0));
            }
        }
        edges.taken("a come of the last person", 7, x -> x.line(0, 0, 2, 1, 5, 0, 0));
        edges.taken("good for the last person", 7, x -> x.line(5, 0, 2, 1, 5, 0, 0));
    }

    /** "SUMS are 1 to 1000000." */
    private void sumsAreOneToAMillion() {
        for (int sum : new int[] {1, 1000000}) {
            for (int kind : TELLING_KINDS) {
                due.is("look", edges.taken("kind " + kind + " of " + sum, 7,
                    x -> x.line(kind, 0, other(kind), sum, 5, 0, 0)).look(7, 3), sum);
            }
            due.is("look", edges.taken("move of " + sum, 7,
                x -> x.move(0, 1, sum, true, 5, 0, 0)).look(7, 3), sum);
            due.is("look", edges.taken("buy for " + sum, 7,
                x -> x.deal(false, 0, 0, sum, 5, 0, 0)).look(7, 3), sum);
            due.is("look", edges.taken("sell for " + sum, 7,
                x -> x.deal(true, 0, 0, sum, 5, 0, 0)).look(7, 3), sum);
            edges.taken("debt of " + sum, 2, x -> x.debt(0, 1, sum, 0));
        }
        for (int sum : NO_SUMS) {
            for (int kind : TELLING_KINDS) {
                edges.refused("kind " + kind + " of " + sum,
                    x -> x.line(kind, 0, other(kind), sum, 5, 0, 0));
            }
            edges.refused("move of " + sum, x -> x.move(0, 1, sum, true, 5, 0, 0));
            edges.refused("buy for " + sum, x -> x.deal(false, 0, 0, sum, 5, 0, 0));
            edges.refused("sell for " + sum, x -> x.deal(true, 0, 0, sum, 5, 0, 0));
            edges.refused("debt of " + sum, x -> x.debt(0, 1, sum, 0));
        }
    }

    /** "a DAY not behind NOW" */
    private void aLinesDayIsNotBehindNow() {
        for (int day : new int[] {0, 4, 5}) {
            PurseTrace x = edges.taken("a line of day " + day, 7,
                y -> y.line(0, 0, 0, 1, day, 0, 0));
            due.is("its day", x.look(7, 4), day);
            due.is("told on", x.look(7, 7), 5);
            edges.taken("a move of day " + day, 7, y -> y.move(0, 1, 1, true, day, 0, 0));
            edges.taken("a deal of day " + day, 7, y -> y.deal(true, 0, 1, 1, day, 0, 0));
        }
        for (int day : new int[] {-1, 6, 3999, 4000, MIN, MAX}) {
            for (int kind : TELLING_KINDS) {
                edges.refused("kind " + kind + " of day " + day,
                    x -> x.line(kind, 0, other(kind), 1, day, 0, 0));
            }
            edges.refused("a move of day " + day, x -> x.move(0, 1, 1, true, day, 0, 0));
            edges.refused("a deal of day " + day, x -> x.deal(true, 0, 1, 1, day, 0, 0));
        }
    }

    /** "0 to 23; the second not below the first" */
    private void hoursAreZeroTo23() {
        for (int[] h : new int[][] {{0, 0}, {23, 23}, {0, 23}, {11, 12}}) {
            PurseTrace x = edges.taken("a line of hours " + h[0] + " to " + h[1], 7,
                y -> y.line(0, 0, 0, 1, 5, h[0], h[1]));
            due.is("the first of its hours", x.look(7, 5), h[0]);
            due.is("the last of its hours", x.look(7, 6), h[1]);
            edges.taken("a move of hours", 7, y -> y.move(0, 1, 1, true, 5, h[0], h[1]));
            edges.taken("a deal of hours", 7, y -> y.deal(true, 0, 1, 1, 5, h[0], h[1]));
        }
        int[][] wrong = {{-1, 0}, {-1, -1}, {0, 24}, {24, 24}, {1, 0}, {23, 22}, {23, 0}, {0, -1},
            {MIN, MAX}, {0, MAX}, {MIN, 0}};
        for (int[] h : wrong) {
            String hours = " of hours " + h[0] + " to " + h[1];
            for (int kind : TELLING_KINDS) {
                edges.refused("kind " + kind + hours,
                    x -> x.line(kind, 0, other(kind), 1, 5, h[0], h[1]));
            }
            edges.refused("a move" + hours, x -> x.move(0, 1, 1, true, 5, h[0], h[1]));
            edges.refused("a deal" + hours, x -> x.deal(true, 0, 1, 1, 5, h[0], h[1]));
        }
    }

    /** "LINES 0 to 99", "100 are there": struck ones too */
    private void linesAreAHundred() {
        Edges almost = new Edges(due, () -> Worlds.withLines(99));
        due.is("lines", almost.taken("line 99", 99,
            x -> x.line(0, 0, 0, 1, 5, 0, 0)).count(4), 100);
        almost.taken("move 99", 99, x -> x.move(0, 1, 1, true, 5, 0, 0));
        almost.taken("deal 99", 99, x -> x.deal(true, 0, 0, 1, 5, 0, 0));
        Edges full = new Edges(due, () -> Worlds.withLines(100));
        for (int kind : TELLING_KINDS) {
            full.refused("line 100", x -> x.line(kind, 0, other(kind), 1, 5, 0, 0));
        }
        full.refused("move 100", x -> x.move(0, 1, 1, true, 5, 0, 0));
        full.refused("buy 100", x -> x.deal(false, 0, 0, 1, 5, 0, 0));
        full.refused("sell 100", x -> x.deal(true, 0, 0, 1, 5, 0, 0));
        PurseTrace x = full.taken("strike(99)", y -> y.strike(99));
        due.is("a struck one stays told", x.line(0, 0, 0, 1, 5, 0, 0), NONE);
    }

    /** "to another one": "NONE: likewise, one PURSE" */
    private void aMoveHasTwoPurses() {
        edges.taken("a move from the last purse", 7, x -> x.move(2, 0, 1, true, 5, 0, 0));
        edges.taken("a move to the last purse", 7, x -> x.move(0, 2, 1, false, 5, 0, 0));
        for (int p : new int[] {-1, 3, 10, MIN, MAX}) {
            edges.refused("a move from " + p, x -> x.move(p, 0, 1, true, 5, 0, 0));
            edges.refused("a move to " + p, x -> x.move(0, p, 1, true, 5, 0, 0));
            edges.refused("a move from and to " + p, x -> x.move(p, p, 1, true, 5, 0, 0));
        }
        for (int p = 0; p < 3; p++) {
            int q = p;
            edges.refused("a move within " + p, x -> x.move(q, q, 1, true, 5, 0, 0));
        }
    }

    private void aDealHasAThing() {
        for (boolean sell : new boolean[] {false, true}) {
            PurseTrace y = edges.taken("a deal with the last", 7,
                x -> x.deal(sell, 2, 1, 1, 5, 0, 0));
            due.is("its kind", y.look(7, 0), sell ? 4 : 3);
            due.is("its thing", y.look(7, 2), 1);
            due.is("gave", y.look(7, 9), 0);
            for (int k : new int[] {-1, 2, 10, MIN, MAX}) {
                edges.refused("a deal with thing " + k, x -> x.deal(sell, 0, k, 1, 5, 0, 0));
            }
            for (int p : new int[] {-1, 3, 10, MIN, MAX}) {
                edges.refused("a deal of purse " + p, x -> x.deal(sell, p, 0, 1, 5, 0, 0));
            }
        }
    }

    /** "true; false: no such one, it is" */
    private void strikesOnce() {
        for (int i : new int[] {0, 5}) {
            PurseTrace x = edges.taken("strike(" + i + ")", y -> y.strike(i));
            due.is("struck on", x.look(i, 8), 5);
            due.is("again", x.strike(i), false);
            x.now(7);
            due.is("again on a later day", x.strike(i), false);
            due.is("struck still on", x.look(i, 8), 5);
        }
        for (int i : new int[] {-1, 6, 7, 99, 100, MIN, MAX}) {
            edges.refusedTelling("strike(" + i + ")", x -> x.strike(i));
        }
    }

    /** "from a DAY on (0 to 3999)", "no such ones, one twice" */
    private void knowsOfAnother() {
        for (int day : new int[] {0, 5, 6, 3999}) {
            PurseTrace x = edges.taken("knows on " + day, y -> y.knows(0, 2, day));
            due.is("tellings", x.count(6), 2);
            due.is("the same again", x.knows(0, 2, day), true);
            due.is("tellings", x.count(6), 3);
        }
        for (int day : new int[] {-1, 4000, MIN, MAX}) {
            edges.refusedTelling("knows on " + day, x -> x.knows(0, 2, day));
        }
        for (int o : new int[] {-1, 3, 10, MIN, MAX}) {
            edges.refusedTelling("knows by " + o, x -> x.knows(o, 0, 0));
            edges.refusedTelling("knows of " + o, x -> x.knows(0, o, 0));
            edges.refusedTelling("knows by and of " + o, x -> x.knows(o, o, 0));
        }
        for (int o = 0; o < 3; o++) {
            int who = o;
            edges.refusedTelling("knows of oneself", x -> x.knows(who, who, 0));
        }
    }

    /** "100 tellings at most", "100 were told" */
    private void tellingsAreAHundred() {
        PurseTrace x = new Edges(due, () -> Worlds.withTellings(99)).taken("the hundredth",
            y -> y.knows(1, 2, 0));
        due.is("tellings", x.count(6), 100);
        new Edges(due, () -> Worlds.withTellings(100)).refusedTelling("a 101st",
            y -> y.knows(1, 2, 0));
    }

    /** "a RANK (0 to 3)", "no such ones, one twice" */
    private void debtsOfTwo() {
        for (int rank : new int[] {0, 3}) {
            due.is("debts", edges.taken("a debt of rank " + rank, 2,
                x -> x.debt(2, 0, 9, rank)).count(7), 3);
        }
        for (int rank : new int[] {-1, 4, MIN, MAX}) {
            edges.refused("a debt of rank " + rank, x -> x.debt(0, 1, 9, rank));
        }
        for (int o : new int[] {-1, 3, 10, MIN, MAX}) {
            edges.refused("a debt of " + o, x -> x.debt(o, 1, 9, 0));
            edges.refused("a debt to " + o, x -> x.debt(1, o, 9, 0));
            edges.refused("a debt of and to " + o, x -> x.debt(o, o, 9, 0));
        }
        for (int o = 0; o < 3; o++) {
            int who = o;
            edges.refused("a debt to oneself", x -> x.debt(who, who, 9, 0));
        }
    }

    /** "DEBTS 0 to 39", "40 are there" */
    private void debtsAreForty() {
        due.is("debts", new Edges(due, () -> Worlds.withDebts(39)).taken("debt 39", 39,
            x -> x.debt(0, 1, 9, 0)).count(7), 40);
        new Edges(due, () -> Worlds.withDebts(40)).refused("debt 40", x -> x.debt(0, 1, 9, 0));
    }

    /** "bits 0 to 31; 0: none" */
    private void choicesAreBits() {
        for (int bits : new int[] {1, 16, 31}) {
            due.is("purses with choices", edges.taken("choose " + bits,
                x -> x.choose(2, bits)).count(9), 3);
        }
        PurseTrace x = edges.taken("choose none", y -> y.choose(1, 0));
        due.is("purses with choices", x.count(9), 1);
        due.is("none again", x.choose(1, 0), true);
        due.is("purses with choices", x.count(9), 1);
        due.is("others again", x.choose(0, 1), true);
        due.is("purses with choices", x.count(9), 1);
        for (int bits : new int[] {-1, 32, 63, MIN, MAX}) {
            edges.refusedTelling("choose " + bits, y -> y.choose(0, bits));
        }
        for (int p : new int[] {-1, 3, 10, MIN, MAX}) {
            edges.refusedTelling("choose of purse " + p, y -> y.choose(p, 1));
            edges.refusedTelling("choose none of purse " + p, y -> y.choose(p, 0));
        }
    }

    /** "Four PURSES may have CHOICES", "bits not 0 where four others have some" */
    private void fourPursesHaveChoices() {
        Edges four = new Edges(due, Worlds::withFourChoices);
        four.refusedTelling("a fifth", x -> x.choose(4, 1));
        four.refusedTelling("a fifth of all", x -> x.choose(4, 31));
        due.is("four", four.taken("none of a fifth", x -> x.choose(4, 0)).count(9), 4);
        for (int p = 0; p < 4; p++) {
            int q = p;
            PurseTrace x = four.taken("others of the fourth", y -> y.choose(q, 30));
            due.is("four", x.count(9), 4);
            due.is("a fifth", x.choose(4, 1), false);
            due.is("none of one", x.choose(q, 0), true);
            due.is("three", x.count(9), 3);
            due.is("another one then", x.choose(4, 1), true);
            due.is("four", x.count(9), 4);
            due.is("and it no more", x.choose(q, 1), false);
        }
    }

    /** "no such ones, one PURSE, it is so" */
    private void barsOfTwoPurses() {
        due.is("bars", edges.taken("bar(0, 4, 2, 4)", x -> x.bar(0, 4, 2, 4)).count(10), 2);
        edges.taken("bar(2, 0, 0, 0)", x -> x.bar(2, 0, 0, 0));
        edges.taken("the same ways the other way round", x -> x.bar(0, 1, 1, 0));
        for (int w : NO_WAYS) {
            edges.refusedTelling("bar of way " + w, x -> x.bar(0, w, 1, 1));
            edges.refusedTelling("bar with way " + w, x -> x.bar(0, 1, 1, w));
        }
        for (int p : new int[] {-1, 3, 10, MIN, MAX}) {
            edges.refusedTelling("bar of purse " + p, x -> x.bar(p, 1, 1, 1));
            edges.refusedTelling("bar with purse " + p, x -> x.bar(1, 1, p, 1));
        }
        edges.refusedTelling("bar in one purse", x -> x.bar(1, 0, 1, 1));
        edges.refusedTelling("bar of one way", x -> x.bar(1, 1, 1, 1));
        edges.refusedTelling("bar that is so", x -> x.bar(0, 0, 1, 0));
        edges.refusedTelling("bar that is so, turned", x -> x.bar(1, 0, 0, 0));
    }

    /** "40 are told" */
    private void barsAreForty() {
        due.is("bars", new Edges(due, () -> Worlds.withBars(39)).taken("the fortieth",
            x -> x.bar(0, 4, 1, 4)).count(10), 40);
        new Edges(due, () -> Worlds.withBars(40)).refusedTelling("a 41st",
            x -> x.bar(0, 4, 1, 4));
    }

    /** Each store full in one object, within 512 calls: nothing of one is in another's place. */
    private void allStoresFull() {
        PurseTrace x = Due.with(10);
        for (int i = 0; i < 10; i++) {
            x.purse(9 - i, i % 4);
            x.thing();
        }
        for (int i = 0; i < 100; i++) {
            x.line(0, i % 10, i / 10, 1 + i, 0, 0, 0);
            x.knows(i % 10, (i + 1) % 10, 0);
        }
        for (int i = 0; i < 40; i++) {
            x.debt(9, i % 9, i + 1, 3);
            x.bar(i / 20, i % 5, 9, i / 5 % 4);
        }
        for (int i = 0; i < 20; i++) {
            Due.rules(x, i % 2, "w1(s=" + i + ");x0.0");
        }
        int[] want = {0, 10, 10, 10, 100, 20, 100, 40, 0, 0, 40};
        for (int what = 0; what < want.length; what++) {
            due.is("count(" + what + ") of all full", x.count(what), want[what]);
        }
        for (int p = 0; p < 10; p++) {
            due.is("left of purse " + p, x.left(p, NONE, 0, 0), 460 + 10 * p);
        }
        due.is("the last line", x.look(99, 3), 100);
        due.is("the last debt", x.paid(39), 4);
    }

    /** "used for at most 512 calls after it has been made": the 512th is answered as ever. */
    private void theLastCall() {
        PurseTrace x = new PurseTrace();
        x.person();
        x.purse(0, 0);
        int calls = 2;
        for (int i = 0; i < 100; i++) {
            x.line(0, 0, 0, 1000, i, 0, 0);
            x.now(i + 1);
            calls += 2;
        }
        while (calls < 511) {
            due.is("left at call " + calls, x.left(0, 0, 3999, 3999), 100000);
            calls++;
        }
        due.is("call 512", x.left(0, 0, 98, 99), 99000);
    }
}
