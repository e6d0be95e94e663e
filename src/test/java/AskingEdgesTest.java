/**
 * The edges of what is asked (promises 13 to 20, 28, 30 and 31) and of part 4 of the terms, a test
 * for each sentence that names one. What is asked changes nothing, also where it is refused.
 */
public final class AskingEdgesTest {
    private static final int NONE = PurseTrace.NONE;
    private static final int MIN = Integer.MIN_VALUE;
    private static final int MAX = Integer.MAX_VALUE;
    private static final int[] NO_DAYS = {-1, 4000, MIN, MAX};
    private static final int[] NO_PURSES = {-1, 3, 10, MIN, MAX};
    private static final int[] NO_PERSONS = {-2, 3, 10, MIN, MAX};
    private static final int[] NO_THINGS = {-1, 2, 10, MIN, MAX};
    private static final int[] NO_LINES = {-1, 7, 99, 100, MIN, MAX};

    private final Due due = new Due("AskingEdgesTest");
    private final Edges edges = new Edges(due, Worlds::small);

    public static void main(String[] args) {
        AskingEdgesTest test = new AskingEdgesTest();
        test.leftOfSuchOnes();
        test.shareOfSuchOnes();
        test.lostOfSuchOnes();
        test.atTheEndOfADay();
        test.partsInTheirOrder();
        test.tookOfSuchOnes();
        test.tookThreeAnswers();
        test.wayOfSuchOnes();
        test.failsOnADay();
        test.asKnownLaterThanNow();
        test.sureOfSuchOnes();
        test.sixLinesAtMost();
        test.sixAsKnownNow();
        test.noLinesAreOneOrder();
        test.allWereEarlier();
        test.theLeastAndTheMost();
        test.ordersOfThatDayAlone();
        test.ordersKeepWhatWasAhead();
        test.allOfARank();
        test.eachOnesPart();
        test.theNextOnesNothing();
        test.whatIsTheirsInTheirOwn();
        test.paidOfSuchOnes();
        test.lookOfSuchOnes();
        test.countOfSuchOnes();
        test.due.end();
    }

    private static PurseTrace two(int now) {
        PurseTrace x = Due.with(2);
        x.purse(0, 0);
        x.purse(1, 0);
        x.thing();
        x.now(now);
        return x;
    }

    /** "(o NONE: all that is in it)", "NONE: no such ones" */
    private void leftOfSuchOnes() {
        edges.taken("left of all", 12, x -> x.left(0, NONE, 3999, 3999));
        edges.taken("left of the last purse", 0, x -> x.left(2, 2, 0, 0));
        edges.taken("left of the first person", 2, x -> x.left(0, 0, 5, 5));
        edges.taken("left of the last person", 10, x -> x.left(0, 2, 5, 5));
        for (int p : NO_PURSES) {
            edges.refused("left of purse " + p, x -> x.left(p, 0, 0, 0));
        }
        for (int o : NO_PERSONS) {
            edges.refused("left of person " + o, x -> x.left(0, o, 0, 0));
        }
        for (int day : NO_DAYS) {
            edges.refused("left at the end of " + day, x -> x.left(0, 0, day, 0));
            edges.refused("left as known on " + day, x -> x.left(0, 0, 0, day));
        }
    }

    private void shareOfSuchOnes() {
        edges.taken("share of all", 10, x -> x.share(0, NONE, 3999, 3999));
        edges.taken("share of the last thing", 0, x -> x.share(1, NONE, 5, 5));
        edges.taken("share of a person", 10, x -> x.share(0, 0, 5, 5));
        edges.taken("share of the last person", 0, x -> x.share(0, 2, 5, 5));
        for (int k : NO_THINGS) {
            edges.refused("share of thing " + k, x -> x.share(k, 0, 0, 0));
        }
        for (int o : NO_PERSONS) {
            edges.refused("share of person " + o, x -> x.share(0, o, 0, 0));
        }
        for (int day : NO_DAYS) {
            edges.refused("share at the end of " + day, x -> x.share(0, 0, day, 0));
            edges.refused("share as known on " + day, x -> x.share(0, 0, 0, day));
        }
    }

    /** Here NONE is no PERSON. */
    private void lostOfSuchOnes() {
        edges.taken("lost", 1, x -> x.lost(0, 1, 5, 5));
        edges.taken("lost of the last purse and person", 0, x -> x.lost(2, 2, 3999, 3999));
        edges.refused("lost of all", x -> x.lost(0, NONE, 5, 5));
        for (int p : NO_PURSES) {
            edges.refused("lost of purse " + p, x -> x.lost(p, 0, 0, 0));
        }
        for (int o : NO_PERSONS) {
            edges.refused("lost of person " + o, x -> x.lost(0, o, 0, 0));
        }
        for (int day : NO_DAYS) {
            edges.refused("lost at the end of " + day, x -> x.lost(0, 0, day, 0));
            edges.refused("lost as known on " + day, x -> x.lost(0, 0, 0, day));
        }
    }

    /** "behind all LINES as KNOWN on t of DAYS up to d" */
    private void atTheEndOfADay() {
        PurseTrace x = two(5);
        x.line(0, 0, 1, 9, 2, 23, 23);
        x.line(2, 0, NONE, 4, 3, 0, 0);
        x.deal(false, 0, 0, 3, 4, 0, 0);
        int[] left = {0, 0, 9, 5, 2, 2};
        int[] lost = {0, 0, 0, 4, 4, 4};
        int[] share = {0, 0, 0, 0, 3, 3};
        for (int d = 0; d <= 5; d++) {
            due.is("left at the end of " + d, x.left(0, 1, d, 5), left[d]);
            due.is("lost at the end of " + d, x.lost(0, 1, d, 5), lost[d]);
            due.is("share at the end of " + d, x.share(0, 1, d, 5), share[d]);
            due.is("left as known ahead, at the end of " + d, x.left(0, 1, d, 4), 0);
        }
        due.is("at the end of all", x.left(0, 1, 3999, 5), 2);
    }

    /** "PART i of PURSE p AT THE END of NOW as KNOWN now", "NONE: there is none such" */
    private void partsInTheirOrder() {
        edges.taken("part 0, whose", 0, x -> x.part(0, 0, 0));
        edges.taken("part 0", 2, x -> x.part(0, 0, 1));
        edges.taken("part 1, whose", 2, x -> x.part(0, 1, 0));
        edges.taken("part 1", 10, x -> x.part(0, 1, 1));
        for (int i : new int[] {-1, 2, 100, MIN, MAX}) {
            edges.refused("part " + i, x -> x.part(0, i, 0));
            edges.refused("the sum of part " + i, x -> x.part(0, i, 1));
        }
        for (int what : new int[] {-1, 2, MIN, MAX}) {
            edges.refused("part 0, what " + what, x -> x.part(0, 0, what));
        }
        for (int p : NO_PURSES) {
            edges.refused("part 0 of purse " + p, x -> x.part(p, 0, 0));
        }
        edges.refused("part 0 of an empty purse", x -> x.part(2, 0, 0));
        edges.refused("part -1 of an empty purse", x -> x.part(2, -1, 1));
    }

    private void tookOfSuchOnes() {
        edges.taken("took", 29, x -> x.took(3, 1, 5));
        edges.taken("took of the last person", 0, x -> x.took(3, 2, 3999));
        edges.refused("took of all", x -> x.took(3, NONE, 5));
        for (int i : NO_LINES) {
            edges.refused("took of line " + i, x -> x.took(i, 0, 5));
        }
        for (int o : NO_PERSONS) {
            edges.refused("took of person " + o, x -> x.took(3, o, 5));
            edges.refused("took of person " + o + " of a struck line", x -> x.took(6, o, 5));
        }
        for (int day : NO_DAYS) {
            edges.refused("took as known on " + day, x -> x.took(3, 0, day));
            edges.refused("took of a struck line on " + day, x -> x.took(6, 0, day));
        }
    }

    /** "-2: it FAILS; -3: it is not among THE LINES; NONE: no such ones" */
    private void tookThreeAnswers() {
        PurseTrace x = two(3);
        x.line(2, 0, NONE, 5, 2, 0, 0);
        due.is("not told by then", x.took(0, 0, 2), -3);
        due.is("it fails", x.took(0, 0, 3), -2);
        due.is("it fails for each", x.took(0, 1, 3), -2);
        due.is("no such person", x.took(0, 2, 3), NONE);
        x.now(4);
        x.line(0, 0, 1, 5, 2, 0, 0);
        due.is("it comes behind", x.took(0, 1, 4), -2);
        x.line(0, 0, 1, 5, 1, 0, 0);
        due.is("it comes ahead", x.took(0, 1, 4), 5);
        due.is("as known ahead", x.took(0, 1, 3), -2);
        x.now(5);
        x.strike(0);
        due.is("struck by then", x.took(0, 1, 5), -3);
        due.is("not struck by then", x.took(0, 1, 4), 5);
    }

    /** "-3: it is not among THE LINES, or takes nothing by its KIND" */
    private void wayOfSuchOnes() {
        edges.taken("way of a move", 0, x -> x.way(3, 5));
        edges.taken("way of buy", 0, x -> x.way(4, 5));
        edges.taken("way of spent", 2, x -> x.way(5, 3999));
        edges.taken("way of a come", -3, x -> x.way(0, 5));
        edges.taken("way of a line not told by then", -3, x -> x.way(5, 4));
        edges.taken("way of a struck come", -3, x -> x.way(6, 5));
        PurseTrace x = edges.taken("strike", y -> y.strike(5));
        due.is("way of a struck line", x.way(5, 5), -3);
        for (boolean sell : new boolean[] {true, false}) {
            PurseTrace y = edges.taken("a deal", 7, z -> z.deal(sell, 0, 0, 1, 5, 6, 6));
            due.is("way of a deal", y.way(7, 5), sell ? -3 : 2);
        }
        PurseTrace good = edges.taken("made good", 7, y -> y.line(5, 0, 1, 1, 5, 6, 6));
        due.is("way of made good", good.way(7, 5), -3);
        for (int i : NO_LINES) {
            edges.refused("way of line " + i, y -> y.way(i, 5));
        }
        for (int day : NO_DAYS) {
            edges.refused("way as known on " + day, y -> y.way(3, day));
            edges.refused("way of a come on " + day, y -> y.way(0, day));
        }
    }

    /** "NONE: no such DAY" */
    private void failsOnADay() {
        edges.taken("fails on 0", 0, x -> x.fails(0));
        edges.taken("fails on 3999", 0, x -> x.fails(3999));
        for (int day : NO_DAYS) {
            edges.refused("fails on " + day, x -> x.fails(day));
        }
        PurseTrace x = two(3);
        for (int i = 0; i < 100; i++) {
            x.line(2, 0, NONE, 1, i % 4, 0, 0);
            due.is("fails", x.fails(3), i + 1);
        }
        due.is("fails ahead of their telling", x.fails(2), 0);
    }

    /** A DAY on which all is KNOWN may be later than NOW: then it is as KNOWN now. */
    private void asKnownLaterThanNow() {
        for (int t : new int[] {5, 6, 3999}) {
            edges.taken("left on " + t, 2, x -> x.left(0, 0, t, t));
            edges.taken("took on " + t, 29, x -> x.took(3, 1, t));
            edges.taken("a struck line on " + t, -3, x -> x.took(6, 1, t));
        }
    }

    /** "what 0 the least, 1 the most, 2 how many ORDERS; NONE: no such ones" */
    private void sureOfSuchOnes() {
        edges.taken("sure of the last purse and person", 0, x -> x.sure(2, 2, 5, 0));
        edges.taken("sure on the last day", 2, x -> x.sure(0, 0, 3999, 1));
        edges.taken("orders of day 0", 1, x -> x.sure(0, 0, 0, 2));
        edges.refused("sure of all", x -> x.sure(0, NONE, 0, 0));
        for (int p : NO_PURSES) {
            edges.refused("sure of purse " + p, x -> x.sure(p, 0, 0, 0));
        }
        for (int o : NO_PERSONS) {
            edges.refused("sure of person " + o, x -> x.sure(0, o, 0, 0));
        }
        for (int day : NO_DAYS) {
            edges.refused("sure on " + day, x -> x.sure(0, 0, day, 0));
        }
        for (int what : new int[] {-1, 3, MIN, MAX}) {
            edges.refused("sure, what " + what, x -> x.sure(0, 0, 0, what));
        }
    }

    /** "six at most": "NONE: ... more than six LINES" */
    private void sixLinesAtMost() {
        int[] orders = {1, 1, 2, 6, 24, 120, 720, NONE, NONE};
        PurseTrace x = two(3);
        for (int lines = 0; lines <= 8; lines++) {
            due.is("orders of " + lines, x.sure(0, 1, 3, 2), orders[lines]);
            due.is("the least of " + lines, x.sure(0, 1, 3, 0), lines > 6 ? NONE : lines);
            due.is("the most of " + lines, x.sure(0, 1, 3, 1), lines > 6 ? NONE : lines);
            due.is("another day", x.sure(0, 1, 2, 1), lines);
            x.line(0, 0, 1, 1, 3, 0, 23);
        }
        PurseTrace y = two(3);
        for (int lines = 0; lines < 7; lines++) {
            y.line(0, 0, 1, 1, 3, lines, lines);
        }
        due.is("seven of which one order is", y.sure(0, 1, 3, 2), NONE);
        y.strike(3);
        due.is("six of which one order is", y.sure(0, 1, 3, 2), 1);
    }

    /** "(as KNOWN now" */
    private void sixAsKnownNow() {
        PurseTrace x = two(3);
        for (int lines = 0; lines < 7; lines++) {
            x.line(0, 0, 1, 1, 3, 0, 0);
        }
        x.now(4);
        due.is("seven", x.sure(0, 1, 3, 2), NONE);
        x.strike(0);
        due.is("one struck", x.sure(0, 1, 3, 2), 720);
        x.strike(6);
        due.is("two struck", x.sure(0, 1, 3, 2), 120);
        x.line(0, 0, 1, 1, 3, 0, 0);
        due.is("one told late", x.sure(0, 1, 3, 2), 720);
    }

    private void noLinesAreOneOrder() {
        due.sure(two(0), 0, 1, 0, 0, 0, 1);
        due.sure(two(0), 0, 1, 3999, 0, 0, 1);
        PurseTrace x = two(3);
        x.line(0, 0, 1, 9, 3, 0, 0);
        due.sure(x, 0, 1, 2, 9, 9, 1);
        due.sure(x, 0, 1, 3, 9, 9, 1);
        due.sure(x, 0, 1, 4, 9, 9, 1);
        x.strike(0);
        due.sure(x, 0, 1, 3, 0, 0, 1);
    }

    /** "(the last of that one's is below the first of its)" */
    private void allWereEarlier() {
        int[][] hours = {{0, 4, 1}, {0, 5, 2}, {0, 6, 2}, {0, 23, 2}, {4, 4, 1}, {5, 5, 2},
            {7, 7, 2}, {8, 8, 1}, {7, 23, 2}, {8, 23, 1}, {23, 23, 1}, {0, 0, 1}};
        for (int[] h : hours) {
            PurseTrace x = two(3);
            x.line(0, 0, 0, 1, 3, 5, 7);
            x.line(0, 0, 0, 1, 3, h[0], h[1]);
            due.is("5 to 7 and " + h[0] + " to " + h[1], x.sure(0, 0, 3, 2), h[2]);
            x = two(3);
            x.line(0, 0, 0, 1, 3, h[0], h[1]);
            x.line(0, 0, 0, 1, 3, 5, 7);
            due.is(h[0] + " to " + h[1] + " and 5 to 7", x.sure(0, 0, 3, 2), h[2]);
        }
    }

    /** 4 of 1's and 4 of 0's; the first spent is the first that came. */
    private void theLeastAndTheMost() {
        PurseTrace x = two(3);
        x.line(0, 0, 1, 4, 3, 0, 1);
        x.line(0, 0, 0, 4, 3, 1, 2);
        x.line(2, 0, NONE, 3, 3, 3, 3);
        due.sure(x, 0, 1, 3, 1, 4, 2);
        due.sure(x, 0, 0, 3, 1, 4, 2);
        x.line(2, 0, NONE, 4, 3, 1, 1);
        due.sure(x, 0, 1, 3, 0, 4, 6);
        due.sure(x, 0, 0, 3, 0, 4, 6);
        due.sure(x, 1, 1, 3, 0, 0, 6);
    }

    /** "that DAY's in each such ORDER, the others as told in part 1" */
    private void ordersOfThatDayAlone() {
        PurseTrace x = two(3);
        x.line(0, 0, 1, 4, 1, 0, 23);
        x.line(0, 0, 0, 4, 1, 0, 23);
        x.line(2, 0, NONE, 1, 2, 0, 23);
        x.line(2, 0, NONE, 3, 2, 0, 23);
        x.move(0, 1, 2, true, 3, 0, 23);
        due.sure(x, 1, 0, 1, 0, 2, 2);
        due.sure(x, 1, 0, 2, 2, 2, 2);
        due.sure(x, 1, 0, 3, 2, 2, 1);
        due.sure(x, 1, 0, 0, 2, 2, 1);
        due.sure(x, 1, 0, 1, 0, 2, 2);
        due.is("left as told", x.left(1, 0, 3, 3), 2);
        PurseTrace y = two(3);
        y.line(0, 0, 1, 4, 1, 23, 23);
        y.line(0, 0, 0, 4, 2, 0, 5);
        y.line(2, 0, NONE, 5, 2, 5, 9);
        y.line(2, 0, NONE, 1, 3, 0, 0);
        due.sure(y, 0, 1, 2, 0, 3, 2);
        due.sure(y, 0, 0, 2, 2, 4, 2);
        due.sure(y, 0, 1, 1, 0, 0, 1);
        due.sure(y, 0, 1, 3, 0, 0, 1);
    }

    /** What was LOST and bought on earlier DAYS is so in each ORDER anew. */
    private void ordersKeepWhatWasAhead() {
        PurseTrace x = two(3);
        x.line(0, 0, 1, 9, 1, 0, 0);
        x.line(2, 0, NONE, 5, 1, 1, 1);
        x.deal(false, 0, 0, 4, 1, 2, 2);
        x.line(5, 0, 1, 5, 3, 0, 1);
        x.line(5, 0, 1, 2, 3, 0, 1);
        x.deal(true, 1, 0, 4, 3, 0, 1);
        x.deal(true, 1, 0, 1, 3, 0, 1);
        due.sure(x, 0, 1, 3, 5, 5, 24);
        due.sure(x, 0, 0, 3, 2, 2, 24);
        due.sure(x, 1, 1, 3, 5, 5, 24);
        x.line(2, 0, NONE, 1, 3, 0, 1);
        due.sure(x, 0, 1, 3, 4, 5, 120);
    }

    private static PurseTrace owing(int own) {
        PurseTrace x = Due.with(3);
        x.purse(0, 0);
        x.debt(0, 1, 10, 0);
        x.debt(0, 2, 20, 2);
        x.debt(0, 1, 30, 2);
        x.debt(0, 2, 5, 3);
        x.debt(1, 0, 7, 0);
        if (own > 0) {
            x.line(0, 0, 0, own, 0, 0, 0);
        }
        return x;
    }

    /** "all DEBTS of a RANK wholly, if there is as much" */
    private void allOfARank() {
        due.paid(owing(0), "nothing", 0, 0, 0, 0, 0);
        due.paid(owing(9), "one less than the first rank", 9, 0, 0, 0, 0);
        due.paid(owing(10), "the first rank", 10, 0, 0, 0, 0);
        due.paid(owing(11), "one more", 10, 1, 0, 0, 0);
        due.paid(owing(59), "one less than two ranks", 10, 20, 29, 0, 0);
        due.paid(owing(60), "two ranks", 10, 20, 30, 0, 0);
        due.paid(owing(61), "one more", 10, 20, 30, 1, 0);
        due.paid(owing(64), "one less than all", 10, 20, 30, 4, 0);
        due.paid(owing(65), "all", 10, 20, 30, 5, 0);
        due.paid(owing(1000), "more than all", 10, 20, 30, 5, 0);
    }

    /** "each one's part by SUMS, rounded down, what is left one each by numbers" */
    private void eachOnesPart() {
        int[][] want = {{1, 0, 0}, {1, 1, 0}, {2, 0, 1}, {2, 1, 1}, {2, 1, 2}, {3, 1, 2}, {3, 1, 3},
            {3, 2, 3}, {3, 2, 4}};
        for (int own = 1; own <= 9; own++) {
            PurseTrace x = Due.with(2);
            x.purse(0, 0);
            x.debt(0, 1, 3, 1);
            x.debt(1, 0, 9, 1);
            x.debt(0, 1, 2, 1);
            x.debt(0, 1, 4, 1);
            x.line(0, 0, 0, own, 0, 0, 0);
            int[] w = want[own - 1];
            due.paid(x, "of " + own, w[0], 0, w[1], w[2]);
        }
    }

    /** "the next ones nothing": also where a lower RANK would have enough. */
    private void theNextOnesNothing() {
        PurseTrace x = Due.with(2);
        x.purse(0, 0);
        x.line(0, 0, 0, 50, 0, 0, 0);
        x.debt(0, 1, 1, 3);
        x.debt(0, 1, 60, 0);
        due.paid(x, "a first rank that is too much", 0, 50);
        x.debt(0, 1, 1, 1);
        x.debt(0, 1, 40, 0);
        due.paid(x, "by parts", 0, 30, 0, 20);
        PurseTrace y = Due.with(2);
        y.purse(0, 0);
        y.line(0, 0, 0, 50, 0, 0, 0);
        y.debt(0, 1, 50, 3);
        due.paid(y, "ranks without debts", 50);
        y.debt(0, 1, 50, 2);
        due.paid(y, "a rank ahead of it", 0, 50);
    }

    /** "what is theirs in their own PURSES AT THE END of NOW as KNOWN now" */
    private void whatIsTheirsInTheirOwn() {
        PurseTrace x = Due.with(3);
        x.purse(0, 0);
        x.purse(1, 0);
        x.purse(0, 3);
        x.thing();
        x.debt(0, 1, 100, 0);
        x.line(0, 0, 1, 50, 0, 0, 0);
        due.is("others' in one's own", x.paid(0), 0);
        x.line(0, 1, 0, 50, 0, 0, 0);
        due.is("one's own in others'", x.paid(0), 0);
        x.line(0, 0, 0, 3, 0, 0, 0);
        x.line(0, 2, 0, 4, 0, 0, 0);
        due.is("one's own in all one's own", x.paid(0), 7);
        x.deal(false, 2, 0, 1, 0, 1, 1);
        due.is("shares do not pay", x.paid(0), 6);
        x.now(2);
        x.strike(2);
        due.is("as known now", x.paid(0), 3);
    }

    private void paidOfSuchOnes() {
        edges.taken("paid(0)", 2, x -> x.paid(0));
        edges.taken("paid(1)", 3, x -> x.paid(1));
        for (int i : new int[] {-1, 2, 39, 40, MIN, MAX}) {
            edges.refused("paid(" + i + ")", x -> x.paid(i));
        }
        PurseTrace x = Worlds.withDebts(40);
        due.is("the last debt", x.paid(39), 0);
        due.is("behind the last", x.paid(40), NONE);
    }

    /** "9 whether it GAVE (1, 0). NONE for others." */
    private void lookOfSuchOnes() {
        int[][] want = {
            {0, 0, 1, 30, 0, 0, 0, 0, NONE, 0},
            {0, 0, 0, 20, 0, 1, 1, 0, NONE, 0},
            {0, 0, 2, 10, 0, 2, 9, 0, NONE, 0},
            {1, 0, 1, 35, 5, 3, 3, 5, NONE, 1},
            {3, 0, 0, 10, 5, 4, 4, 5, NONE, 0},
            {2, 0, NONE, 3, 4, 0, 0, 5, NONE, 0},
            {0, 1, 0, 7, 5, 5, 5, 5, 5, 0}};
        PurseTrace x = Worlds.small();
        for (int i = 0; i < want.length; i++) {
            for (int what = 0; what < 10; what++) {
                due.is("look(" + i + ", " + what + ")", x.look(i, what), want[i][what]);
            }
            for (int what : new int[] {-1, 10, MIN, MAX}) {
                due.is("look(" + i + ", " + what + ")", x.look(i, what), NONE);
            }
        }
        for (int i : NO_LINES) {
            edges.refused("look(" + i + ", 0)", y -> y.look(i, 0));
        }
        due.is("a move that did not give", edges.taken("move", 7,
            y -> y.move(2, 1, 1, false, 5, 0, 0)).look(7, 9), 0);
    }

    /** "20 + i CLAUSES of RULES i. NONE for others." */
    private void countOfSuchOnes() {
        int[] want = {5, 3, 3, 2, 7, 1, 1, 2, 20, 2, 1};
        PurseTrace x = Worlds.small();
        for (int what = 0; what < want.length; what++) {
            due.is("count(" + what + ")", x.count(what), want[what]);
        }
        due.is("count(20)", x.count(20), 2);
        for (int what : new int[] {-1, 11, 12, 19, 21, 39, 40, MIN, MAX}) {
            edges.refused("count(" + what + ")", y -> y.count(what));
        }
        PurseTrace y = Worlds.withRules(20);
        for (int i = 0; i < 20; i++) {
            due.is("clauses of " + i, y.count(20 + i), 2);
        }
        due.is("behind the last", y.count(40), NONE);
    }
}
