/**
 * The edges of parts 1 and 2 of the terms: which LINES are KNOWN, in which order, and what each
 * KIND does to PURSES and THINGS. A test for each sentence that names an edge.
 */
public final class LineEdgesTest {
    private static final int NONE = PurseTrace.NONE;

    private final Due due = new Due("LineEdgesTest");

    public static void main(String[] args) {
        LineEdgesTest test = new LineEdgesTest();
        test.knownFromItsTelling();
        test.knownTillItsStrike();
        test.struckWhenTold();
        test.inOrderOfDays();
        test.thenOfFirstHours();
        test.thenOfNumbers();
        test.allAreEmptyAtFirst();
        test.aComeIsBehindAll();
        test.likePartsAreOne();
        test.partsThatMeetAreOne();
        test.lessFails();
        test.aFailedLineDoesNothing();
        test.othersNeverFail();
        test.wayZero();
        test.wayOne();
        test.wayTwoRoundsDown();
        test.wayTwoOneEach();
        test.wayTwoOfFirstParts();
        test.wayThree();
        test.wayFour();
        test.takenInThatOrder();
        test.takenJoinBehind();
        test.leadingEndsOrNot();
        test.onesOwnStays();
        test.knowingDays();
        test.lostOfOthersAlone();
        test.sharesTogether();
        test.withoutShares();
        test.aRise();
        test.aRiseForTheHolder();
        test.justTheOthersShares();
        test.lessThanTheOthersShares();
        test.theHoldersSharesAlone();
        test.soldByNumbers();
        test.soldAreGone();
        test.asMuchAsIsLost();
        test.goodForWhoLostNothing();
        test.lostOutOfThatPurse();
        test.theLargestSums();
        test.due.end();
    }

    /** PURSE 0 is 0's, PURSE 1 is 1's; each in LAND 0; NOW is a DAY. */
    private static PurseTrace on(int now) {
        PurseTrace x = Due.with(4);
        x.purse(0, 0);
        x.purse(1, 0);
        x.thing();
        x.thing();
        x.now(now);
        return x;
    }

    /** Each pair is a PERSON and what comes of theirs into PURSE 0 at hours 0, 1, 2 and so on. */
    private static PurseTrace with(int... pairs) {
        PurseTrace x = on(0);
        for (int i = 0; i < pairs.length; i += 2) {
            x.line(0, 0, pairs[i], pairs[i + 1], 0, i / 2, i / 2);
        }
        return x;
    }

    private static int spend(PurseTrace x, int sum) {
        return x.line(2, 0, NONE, sum, x.count(0), 20, 20);
    }

    private static int moveOn(PurseTrace x, int sum) {
        return x.move(0, 1, sum, true, x.count(0), 20, 20);
    }

    private static int buy(PurseTrace x, int sum) {
        return x.deal(false, 0, 0, sum, x.count(0), 20, 20);
    }

    private static int sell(PurseTrace x, int p, int sum) {
        return x.deal(true, p, 0, sum, x.count(0), 21, 21);
    }

    private static int makeGood(PurseTrace x, int o, int sum) {
        return x.line(5, 0, o, sum, x.count(0), 22, 22);
    }

    /** What a LINE took, or what came, of PERSONS 0 and so on. */
    private void took(PurseTrace x, String what, int i, int... want) {
        for (int o = 0; o < want.length; o++) {
            due.is(what + ": of " + o, x.took(i, o, x.count(0)), want[o]);
        }
    }

    /** "those told by t" */
    private void knownFromItsTelling() {
        PurseTrace x = on(3);
        x.line(0, 0, 1, 9, 1, 0, 0);
        due.is("known a day ahead of its telling", x.left(0, 1, 3999, 2), 0);
        due.is("known on the day of its telling", x.left(0, 1, 3999, 3), 9);
        due.is("known a day later", x.left(0, 1, 3999, 4), 9);
        due.is("known on the last day", x.left(0, 1, 3999, 3999), 9);
        due.is("took a day ahead", x.took(0, 1, 2), -3);
        due.is("took on the day", x.took(0, 1, 3), 9);
    }

    /** "not STRUCK by t" */
    private void knownTillItsStrike() {
        PurseTrace x = on(3);
        x.line(0, 0, 1, 9, 1, 0, 0);
        x.now(5);
        x.strike(0);
        due.is("known a day ahead of its strike", x.left(0, 1, 3999, 4), 9);
        due.is("known on the day of its strike", x.left(0, 1, 3999, 5), 0);
        due.is("known on the last day", x.left(0, 1, 3999, 3999), 0);
        due.is("took a day ahead", x.took(0, 1, 4), 9);
        due.is("took on the day", x.took(0, 1, 5), -3);
    }

    private void struckWhenTold() {
        PurseTrace x = on(3);
        x.line(0, 0, 1, 9, 1, 0, 0);
        x.strike(0);
        for (int t = 2; t <= 4; t++) {
            due.is("never known, on " + t, x.left(0, 1, 3999, t), 0);
            due.is("never known, on " + t, x.took(0, 1, t), -3);
        }
    }

    /** "in order of DAYS" */
    private void inOrderOfDays() {
        PurseTrace x = on(9);
        x.line(0, 0, 2, 1, 8, 0, 0);
        x.line(0, 0, 1, 2, 7, 23, 23);
        x.line(0, 0, 3, 3, 9, 0, 0);
        x.line(0, 0, 0, 4, 0, 23, 23);
        due.parts(x, "days", 0, 0, 4, 1, 2, 2, 1, 3, 3);
        due.is("at the end of 7", x.left(0, NONE, 7, 9), 6);
        due.is("at the end of 8", x.left(0, NONE, 8, 9), 7);
        due.is("at the end of 9", x.left(0, NONE, 9, 9), 10);
        due.is("at the end of 0", x.left(0, NONE, 0, 9), 4);
    }

    /** "then of the first of their HOURS": the last does not matter */
    private void thenOfFirstHours() {
        PurseTrace x = on(1);
        x.line(0, 0, 1, 1, 1, 5, 5);
        x.line(0, 0, 2, 2, 1, 4, 23);
        x.line(0, 0, 3, 3, 1, 0, 22);
        x.line(0, 0, 0, 4, 1, 23, 23);
        due.parts(x, "hours", 0, 3, 3, 2, 2, 1, 1, 0, 4);
    }

    /** "then of numbers" */
    private void thenOfNumbers() {
        PurseTrace x = on(1);
        x.line(0, 0, 3, 1, 1, 5, 9);
        x.line(0, 0, 2, 2, 1, 5, 5);
        x.line(0, 0, 1, 3, 1, 5, 7);
        x.now(2);
        x.line(0, 0, 0, 4, 1, 5, 5);
        due.parts(x, "numbers", 0, 3, 1, 2, 2, 1, 3, 0, 4);
    }

    /** "At first all are empty." */
    private void allAreEmptyAtFirst() {
        PurseTrace x = on(0);
        for (int o = -1; o < 4; o++) {
            due.is("left at first", x.left(1, o, 0, 0), 0);
            due.is("share at first", x.share(1, o, 0, 0), 0);
        }
        due.is("lost at first", x.lost(0, 1, 0, 0), 0);
        due.parts(x, "at first", 0);
        due.is("a sum at first", x.part(0, 0, 1), NONE);
    }

    /** "a PART of that PERSON is put behind all" */
    private void aComeIsBehindAll() {
        due.parts(with(1, 5, 0, 6, 1, 7), "come", 0, 1, 5, 0, 6, 1, 7);
        PurseTrace x = with(3, 1, 2, 1, 3, 1, 2, 1);
        due.parts(x, "come", 0, 3, 1, 2, 1, 3, 1, 2, 1);
        due.parts(x, "into another purse nothing", 1);
    }

    /** "PARTS side by side of one PERSON are one." */
    private void likePartsAreOne() {
        due.parts(with(1, 5, 1, 6), "two come", 0, 1, 11);
        due.parts(with(1, 5, 1, 6, 0, 1, 1, 7, 1, 8), "more come", 0, 1, 11, 0, 1, 1, 15);
        PurseTrace x = with(1, 5);
        x.line(0, 1, 1, 6, 0, 1, 1);
        x.line(0, 0, 1, 7, 0, 2, 2);
        due.parts(x, "one of another purse between", 0, 1, 12);
        due.parts(x, "and there", 1, 1, 6);
    }

    /** Also when what lay between them is taken away; a single one left keeps them apart. */
    private void partsThatMeetAreOne() {
        for (int sum = 3; sum <= 5; sum++) {
            PurseTrace x = with(0, 5, 1, 4, 0, 6);
            Due.rules(x, 0, "w4(1=1)");
            spend(x, sum);
            if (sum == 3) {
                due.parts(x, "one is left between", 0, 0, 5, 1, 1, 0, 6);
            } else {
                due.parts(x, "none is left between", 0, 0, 15 - sum);
            }
        }
        PurseTrace x = with(1, 2, 0, 3, 1, 4, 0, 5, 1, 6);
        Due.rules(x, 0, "w3(1=1)");
        buy(x, 8);
        due.parts(x, "three meet", 0, 1, 12);
        PurseTrace y = with(1, 4, 0, 5, 1, 2);
        spend(y, 4);
        y.line(0, 0, 1, 3, 0, 21, 21);
        due.parts(y, "the last grows", 0, 0, 5, 1, 5);
    }

    /** "if less is there the LINE FAILS": just so much is not less */
    private void lessFails() {
        for (int w = 0; w < 5; w++) {
            PurseTrace x = with(1, 5, 0, 6, 2, 7);
            Due.rules(x, 0, "w" + w + "(1=1)");
            int i = x.line(2, 0, NONE, 19, 0, 10, 10);
            int j = x.deal(false, 0, 0, 19, 0, 11, 11);
            int k = x.move(0, 1, 19, true, 0, 12, 12);
            int last = x.move(0, 1, 18, true, 0, 13, 13);
            took(x, "one too many to spend", i, -2, -2, -2, -2);
            took(x, "one too many to buy", j, -2, -2, -2, -2);
            took(x, "one too many to move", k, -2, -2, -2, -2);
            took(x, "just so many", last, 6, 5, 7, 0);
            due.is("fails by way " + w, x.fails(0), 3);
            due.is("all is there", x.left(1, NONE, 0, 0), 18);
            due.is("none is left", x.left(0, NONE, 0, 0), 0);
            int empty = x.line(2, 0, NONE, 1, 0, 14, 14);
            due.is("of an empty purse", x.took(empty, 0, 0), -2);
            due.is("fails by way " + w, x.fails(0), 4);
        }
    }

    /** "nothing is done" */
    private void aFailedLineDoesNothing() {
        PurseTrace x = with(1, 5, 0, 6, 1, 7);
        spend(x, 19);
        buy(x, 1000000);
        moveOn(x, 19);
        due.parts(x, "behind failed lines", 0, 1, 5, 0, 6, 1, 7);
        due.parts(x, "nothing moved", 1);
        due.is("nothing bought", x.share(0, NONE, 0, 0), 0);
        due.is("nothing lost", x.lost(0, 1, 0, 0), 0);
        due.is("three fail", x.fails(0), 3);
        x.line(0, 0, 2, 1, 0, 19, 19);
        due.is("one fails with one more", x.fails(0), 2);
    }

    /** Only what takes can FAIL. */
    private void othersNeverFail() {
        PurseTrace x = on(0);
        sell(x, 0, 5);
        makeGood(x, 1, 5);
        x.line(0, 0, 1, 5, 0, 0, 0);
        due.is("fails", x.fails(0), 0);
        for (int i = 0; i < 3; i++) {
            due.is("way of one that takes nothing", x.way(i, 0), -3);
        }
    }

    /** "0 from the first PART on" */
    private void wayZero() {
        int[][] left = {{1, 1, 0, 6, 1, 7}, {0, 6, 1, 7}, {0, 5, 1, 7}, {0, 1, 1, 7}, {1, 7},
            {1, 6}};
        int[] sums = {4, 5, 6, 10, 11, 12};
        for (int n = 0; n < sums.length; n++) {
            PurseTrace x = with(1, 5, 0, 6, 1, 7);
            spend(x, sums[n]);
            due.parts(x, "way 0 by " + sums[n], 0, left[n]);
        }
    }

    /** "1 from the last PART on" */
    private void wayOne() {
        int[][] left = {{1, 5, 0, 6, 1, 1}, {1, 5, 0, 6}, {1, 5, 0, 5}, {1, 5, 0, 1}, {1, 5},
            {1, 4}};
        int[] sums = {6, 7, 8, 12, 13, 14};
        for (int n = 0; n < sums.length; n++) {
            PurseTrace x = with(1, 5, 0, 6, 1, 7);
            Due.rules(x, 0, "w1(1=1)");
            spend(x, sums[n]);
            due.parts(x, "way 1 by " + sums[n], 0, left[n]);
        }
    }

    /** "the SUM times what is theirs there through all that is there, rounded down" */
    private void wayTwoRoundsDown() {
        int[][] want = {{1, 0, 0}, {2, 0, 0}, {2, 1, 0}, {3, 1, 0}, {3, 2, 0}, {3, 2, 1}};
        for (int sum = 1; sum <= 6; sum++) {
            PurseTrace x = with(2, 1, 0, 3, 1, 2);
            Due.rules(x, 0, "w2(1=1)");
            took(x, "way 2 by " + sum, spend(x, sum), want[sum - 1]);
        }
        PurseTrace x = with(1, 50, 0, 100);
        Due.rules(x, 0, "w2(1=1)");
        took(x, "no rest", spend(x, 99), 66, 33, 0, 0);
    }

    /** "one each, by numbers, of those of whom more is there than was taken of them" */
    private void wayTwoOneEach() {
        PurseTrace x = with(3, 1, 2, 1, 1, 1);
        Due.rules(x, 0, "w2(1=1)");
        took(x, "one of three", spend(x, 1), 0, 1, 0, 0);
        x = with(3, 1, 2, 1, 1, 1);
        Due.rules(x, 0, "w2(1=1)");
        took(x, "two of three", spend(x, 2), 0, 1, 1, 0);
        x = with(3, 1, 2, 1, 1, 1);
        Due.rules(x, 0, "w2(1=1)");
        took(x, "three of three", spend(x, 3), 0, 1, 1, 1);
        x = with(0, 1, 3, 999999);
        Due.rules(x, 0, "w2(1=1)");
        took(x, "a part below one", spend(x, 999999), 1, 0, 0, 999998);
    }

    /** "of each PERSON's PARTS from the first on" */
    private void wayTwoOfFirstParts() {
        PurseTrace x = with(0, 4, 1, 6, 0, 8, 1, 2);
        Due.rules(x, 0, "w2(1=1)");
        moveOn(x, 10);
        due.parts(x, "6 of 0's and 4 of 1's are gone", 0, 1, 2, 0, 6, 1, 2);
        due.parts(x, "person by person", 1, 0, 6, 1, 4);
    }

    /** "3 the HOLDER's PARTS from the first on, then all others from the first on" */
    private void wayThree() {
        int[][] left = {{1, 5, 0, 1, 2, 7, 0, 8}, {1, 5, 2, 7, 0, 8}, {1, 5, 2, 7, 0, 7},
            {1, 5, 2, 7, 0, 1}, {1, 5, 2, 7}, {1, 4, 2, 7}, {2, 7}, {2, 6}};
        int[] sums = {5, 6, 7, 13, 14, 15, 19, 20};
        for (int n = 0; n < sums.length; n++) {
            PurseTrace x = with(1, 5, 0, 6, 2, 7, 0, 8);
            Due.rules(x, 0, "w3(1=1)");
            spend(x, sums[n]);
            due.parts(x, "way 3 by " + sums[n], 0, left[n]);
        }
        PurseTrace x = with(1, 5, 2, 7);
        Due.rules(x, 0, "w3(1=1)");
        spend(x, 6);
        due.parts(x, "way 3 without the holder's", 0, 2, 6);
    }

    /** "4 all others from the first on, then the HOLDER's" */
    private void wayFour() {
        int[][] left = {{1, 1, 0, 6, 2, 7, 0, 8}, {0, 6, 2, 7, 0, 8}, {0, 6, 2, 6, 0, 8},
            {0, 6, 2, 1, 0, 8}, {0, 14}, {0, 13}, {0, 8}, {0, 7}};
        int[] sums = {4, 5, 6, 11, 12, 13, 18, 19};
        for (int n = 0; n < sums.length; n++) {
            PurseTrace x = with(1, 5, 0, 6, 2, 7, 0, 8);
            Due.rules(x, 0, "w4(1=1)");
            spend(x, sums[n]);
            due.parts(x, "way 4 by " + sums[n], 0, left[n]);
        }
        PurseTrace x = with(0, 5);
        Due.rules(x, 0, "w4(1=1)");
        spend(x, 4);
        due.parts(x, "way 4 without others", 0, 0, 1);
    }

    /** "TAKEN are PARTS in that order", "put behind all of the other PURSE, in that order" */
    private void takenInThatOrder() {
        int[][] moved = {{1, 5, 0, 6, 2, 7, 0, 2}, {0, 8, 2, 7, 0, 5}, {0, 11, 1, 4, 2, 5},
            {0, 14, 1, 5, 2, 1}, {1, 5, 2, 7, 0, 8}};
        for (int w = 0; w < 5; w++) {
            PurseTrace x = with(1, 5, 0, 6, 2, 7, 0, 8);
            x.line(0, 1, 3, 1, 0, 0, 0);
            Due.rules(x, 0, "w" + w + "(1=1)");
            moveOn(x, 20);
            int[] want = new int[moved[w].length + 2];
            want[0] = 3;
            want[1] = 1;
            System.arraycopy(moved[w], 0, want, 2, moved[w].length);
            due.parts(x, "taken by way " + w, 1, want);
        }
    }

    private void takenJoinBehind() {
        PurseTrace x = with(1, 5, 0, 6);
        x.line(0, 1, 1, 1, 0, 0, 0);
        moveOn(x, 7);
        due.parts(x, "the first joins", 1, 1, 6, 0, 2);
        x.line(0, 1, 0, 1, 0, 22, 22);
        due.parts(x, "what comes then joins", 1, 1, 6, 0, 3);
    }

    /** "The leading of what is a PERSON's ENDS if the MOVE GAVE, there is THE CLAUSE g" */
    private void leadingEndsOrNot() {
        PurseTrace x = with(2, 5, 0, 6, 3, 7);
        int i = moveOn(x, 15);
        due.parts(x, "without g", 1, 2, 5, 0, 6, 3, 4);
        Due.rules(x, 0, "g(s=15)");
        due.parts(x, "with g", 1, 1, 15);
        took(x, "it was theirs till then", i, 6, 0, 5, 4);
        x.knows(1, 0, 0);
        due.parts(x, "but of one", 1, 1, 5, 0, 6, 1, 4);
        x.strike(i);
        x.move(0, 1, 15, false, 0, 20, 20);
        due.parts(x, "that did not give", 1, 2, 5, 0, 6, 3, 4);
    }

    /** "(One's own coin stays one's own.)" */
    private void onesOwnStays() {
        PurseTrace x = with(1, 5, 2, 6, 1, 7);
        Due.rules(x, 0, "g(1=1)");
        int i = moveOn(x, 13);
        due.parts(x, "the taker's own among others'", 1, 1, 13);
        took(x, "their own", i, 0, 7, 6, 0);
        x.knows(1, 2, 0);
        due.parts(x, "and known others'", 1, 1, 5, 2, 6, 1, 2);
    }

    /** "did not KNOW of that PERSON on the LINE's DAY, by what was told by t" */
    private void knowingDays() {
        for (int since = 3; since <= 5; since++) {
            PurseTrace x = on(4);
            x.line(0, 0, 2, 9, 0, 0, 0);
            Due.rules(x, 0, "g(1=1)");
            moveOn(x, 9);
            x.now(8);
            x.knows(1, 2, since);
            due.is("known since " + since, x.left(1, 2, 8, 8), since <= 4 ? 9 : 0);
            due.is("ends if known since " + since, x.left(1, 1, 8, 8), since <= 4 ? 0 : 9);
            due.is("a day ahead of its telling", x.left(1, 2, 8, 7), 0);
            due.is("took, as known ahead", x.took(1, 2, 7), 9);
        }
        PurseTrace x = on(4);
        x.line(0, 0, 2, 9, 0, 0, 0);
        Due.rules(x, 0, "g(1=1)");
        moveOn(x, 9);
        x.knows(0, 2, 0);
        x.knows(2, 1, 0);
        x.knows(1, 3, 0);
        x.knows(1, 0, 0);
        due.is("who knows of whom matters", x.left(1, 2, 4, 4), 0);
        x.knows(1, 2, 5);
        due.is("a day late", x.left(1, 2, 4, 4), 0);
        x.knows(1, 2, 4);
        due.is("and then on the day", x.left(1, 2, 4, 4), 9);
    }

    /** "of those who are not the HOLDER it is LOST out of that PURSE" */
    private void lostOfOthersAlone() {
        PurseTrace x = with(1, 5, 0, 6, 2, 7);
        spend(x, 12);
        int[] want = {0, 5, 1, 0};
        for (int o = 0; o < 4; o++) {
            due.is("lost of " + o, x.lost(0, o, 0, 0), want[o]);
            due.is("lost of " + o + " out of 1", x.lost(1, o, 0, 0), 0);
        }
        spend(x, 6);
        due.is("and more", x.lost(0, 2, 0, 0), 7);
        x.line(0, 1, 1, 4, 0, 0, 0);
        x.line(0, 1, 0, 4, 0, 1, 1);
        x.line(2, 1, NONE, 7, 0, 2, 2);
        due.is("lost of 0 out of 1", x.lost(1, 0, 0, 0), 3);
        due.is("lost of 1 out of 1, their own", x.lost(1, 1, 0, 0), 0);
        due.is("lost of 1 out of 0", x.lost(0, 1, 0, 0), 5);
        due.is("nothing bought", x.share(0, NONE, 0, 0), 0);
    }

    /** "the TAKEN are SHARES in the THING (of each PERSON together)" */
    private void sharesTogether() {
        PurseTrace x = with(1, 5, 0, 6, 1, 7);
        buy(x, 17);
        due.is("shares of 1 together", x.share(0, 1, 0, 0), 11);
        due.is("shares of 0", x.share(0, 0, 0, 0), 6);
        due.is("shares of 2", x.share(0, 2, 0, 0), 0);
        due.is("all shares", x.share(0, NONE, 0, 0), 17);
        due.is("of another thing", x.share(1, NONE, 0, 0), 0);
        due.is("nothing is lost", x.lost(0, 1, 0, 0), 0);
        x.deal(false, 0, 1, 1, 0, 21, 21);
        due.is("shares of the other thing", x.share(1, 1, 0, 0), 1);
        due.is("not of the first", x.share(0, 1, 0, 0), 11);
    }

    /** "without SHARES it is the HOLDER's" */
    private void withoutShares() {
        for (String rule : new String[] {"r(1=2)", "r(1=1)"}) {
            PurseTrace x = on(0);
            Due.rules(x, 0, rule);
            x.deal(false, 0, 0, 5, 0, 0, 0);
            int i = sell(x, 1, 9);
            due.parts(x, "sold without shares, " + rule, 1, 1, 9);
            took(x, "sold without shares", i, 0, 9, 0, 0);
        }
    }

    /** 3 SHARES of 2, 2 of 0, 1 of 3: sold into PURSE 0 or 1. */
    private static PurseTrace bought(String rule) {
        PurseTrace x = with(2, 3, 0, 2, 3, 1);
        Due.rules(x, 0, rule);
        buy(x, 6);
        return x;
    }

    /** "SUM times SHARE through all SHARES, rounded down, what is left one each by numbers" */
    private void aRise() {
        int[][] want = {{1, 0, 0, 0}, {1, 0, 1, 0}, {2, 0, 1, 0}, {2, 0, 2, 0}, {2, 0, 3, 0},
            {2, 0, 3, 1}, {3, 0, 3, 1}, {3, 0, 4, 1}};
        for (int sum = 1; sum <= 8; sum++) {
            PurseTrace x = bought("r(1=1)");
            took(x, "a rise to " + sum, sell(x, 0, sum), want[sum - 1]);
        }
        PurseTrace x = bought("r(1=1)");
        took(x, "no rest", sell(x, 0, 600000), 200000, 0, 300000, 100000);
    }

    /** The HOLDER gets by SHARES too, and nothing without one. */
    private void aRiseForTheHolder() {
        PurseTrace x = bought("r(1=1)");
        int i = sell(x, 1, 7);
        took(x, "a rise in another's purse", i, 3, 0, 3, 1);
        due.parts(x, "a rise in another's purse", 1, 0, 3, 2, 3, 3, 1);
        PurseTrace y = with(0, 1);
        Due.rules(y, 0, "r(1=1)");
        buy(y, 1);
        i = sell(y, 1, 9);
        took(y, "a single share", i, 9, 0, 0, 0);
    }

    /** "who have SHARES and are not the HOLDER get these, and the HOLDER what is left" */
    private void justTheOthersShares() {
        PurseTrace x = bought("r(1=2)");
        took(x, "one more than the others'", sell(x, 0, 5), 1, 0, 3, 1);
        x = bought("r(1=2)");
        took(x, "just the others'", sell(x, 0, 4), 0, 0, 3, 1);
        due.parts(x, "just the others'", 0, 2, 3, 3, 1);
        x = bought("r(1=2)");
        took(x, "all the shares", sell(x, 0, 6), 2, 0, 3, 1);
        x = bought("r(1=2)");
        took(x, "more than all", sell(x, 0, 1000), 996, 0, 3, 1);
        x = bought("r(1=2)");
        took(x, "another holder without a share", sell(x, 1, 7), 2, 1, 3, 1);
        x = bought("r(1=2)");
        took(x, "another holder, just all", sell(x, 1, 6), 2, 0, 3, 1);
    }

    /** "if the SUM is less than these together: ... likewise ..., the HOLDER nothing" */
    private void lessThanTheOthersShares() {
        int[][] want = {{0, 0, 1, 0}, {0, 0, 2, 0}, {0, 0, 3, 0}};
        for (int sum = 1; sum <= 3; sum++) {
            PurseTrace x = bought("r(1=2)");
            took(x, "sold for " + sum, sell(x, 0, sum), want[sum - 1]);
        }
        int[][] other = {{1, 0, 0, 0}, {1, 0, 1, 0}, {2, 0, 1, 0}, {2, 0, 2, 0}, {2, 0, 3, 0}};
        for (int sum = 1; sum <= 5; sum++) {
            PurseTrace x = bought("r(1=2)");
            took(x, "sold for " + sum + " into 1", sell(x, 1, sum), other[sum - 1]);
        }
    }

    private void theHoldersSharesAlone() {
        for (int sum : new int[] {1, 5, 6, 7}) {
            PurseTrace x = with(0, 6);
            buy(x, 6);
            took(x, "the holder's shares sold for " + sum, sell(x, 0, sum), sum, 0, 0, 0);
            due.parts(x, "the holder's shares sold for " + sum, 0, 0, sum);
        }
    }

    /** "They are put behind all, by PERSONS' numbers (the HOLDER's too)." */
    private void soldByNumbers() {
        PurseTrace x = bought("r(1=2)");
        x.line(0, 1, 3, 8, 0, 0, 0);
        sell(x, 1, 9);
        due.parts(x, "by numbers, the holder's too", 1, 3, 8, 0, 2, 1, 3, 2, 3, 3, 1);
        x = bought("r(1=1)");
        x.line(0, 0, 0, 8, 0, 20, 20);
        sell(x, 0, 12);
        due.parts(x, "the first joins", 0, 0, 12, 2, 6, 3, 2);
    }

    /** "the SHARES in the THING are gone" */
    private void soldAreGone() {
        PurseTrace x = bought("r(1=2)");
        sell(x, 0, 1);
        due.is("no shares", x.share(0, NONE, 0, 0), 0);
        took(x, "sold once more", sell(x, 1, 5), 0, 5, 0, 0);
        PurseTrace y = with(1, 9);
        y.deal(false, 0, 0, 4, 0, 10, 10);
        y.deal(false, 0, 1, 5, 0, 10, 10);
        y.deal(true, 0, 0, 1, 0, 11, 11);
        due.is("shares of the other thing stay", y.share(1, 1, 0, 0), 5);
        y.deal(true, 0, 1, 5, 0, 12, 12);
        due.is("till it is sold", y.share(1, 1, 0, 0), 0);
        due.is("for what it was", y.left(0, 1, 0, 0), 6);
    }

    /** "as much of the SUM as is LOST of that PERSON out of that PURSE is theirs" */
    private void asMuchAsIsLost() {
        for (int sum = 4; sum <= 6; sum++) {
            PurseTrace x = with(1, 5, 2, 3);
            spend(x, 7);
            int i = makeGood(x, 1, sum);
            took(x, sum + " of 5 made good", i, sum == 6 ? 1 : 0, Math.min(sum, 5), 0, 0);
            due.is("still lost", x.lost(0, 1, 0, 0), sum == 4 ? 1 : 0);
            due.is("lost of another", x.lost(0, 2, 0, 0), 2);
            if (sum == 6) {
                due.parts(x, "theirs, then the holder's", 0, 2, 1, 1, 5, 0, 1);
            } else {
                due.parts(x, "theirs", 0, 2, 1, 1, sum);
            }
        }
    }

    private void goodForWhoLostNothing() {
        PurseTrace x = with(1, 5, 0, 5);
        spend(x, 8);
        int i = makeGood(x, 2, 4);
        took(x, "good for one who lost nothing", i, 4, 0, 0, 0);
        i = makeGood(x, 0, 4);
        took(x, "good for the holder", i, 4, 0, 0, 0);
        due.parts(x, "all is the holder's", 0, 0, 10);
        due.is("lost of the other", x.lost(0, 1, 0, 0), 5);
        i = makeGood(x, 1, 5);
        took(x, "all of it", i, 0, 5, 0, 0);
        i = makeGood(x, 1, 5);
        took(x, "not lost any more", i, 5, 0, 0, 0);
    }

    private void lostOutOfThatPurse() {
        PurseTrace x = with(2, 5);
        spend(x, 5);
        int i = x.line(5, 1, 2, 4, 0, 22, 22);
        took(x, "good into another purse", i, 0, 4, 0, 0);
        due.is("lost as ever", x.lost(0, 2, 0, 0), 5);
        PurseTrace y = on(2);
        y.line(0, 0, 2, 5, 0, 0, 0);
        y.line(2, 0, NONE, 5, 2, 0, 0);
        y.line(5, 0, 2, 5, 1, 0, 0);
        took(y, "good ahead of the loss", 2, 5, 0, 0, 0);
        due.is("lost behind it", y.lost(0, 2, 2, 2), 5);
        due.is("not lost at the end of 1", y.lost(0, 2, 1, 2), 0);
    }

    /** Products of the largest SUMS are beyond 32 bits. */
    private void theLargestSums() {
        PurseTrace x = on(0);
        for (int i = 0; i < 60; i++) {
            x.line(0, 0, 1 + i % 3, 1000000, 0, i % 3, i % 3);
        }
        Due.rules(x, 0, "w2(k=2);r(1=1)");
        took(x, "large parts", spend(x, 1000000), 0, 333334, 333333, 333333);
        for (int i = 0; i < 30; i++) {
            buy(x, 1000000);
        }
        due.is("large shares", x.share(0, 1, 0, 0), 20000000 - 333334);
        took(x, "a large sale", sell(x, 0, 1000000), 0, 655556, 344444, 0);
    }
}
