/**
 * The edges of promises 21 and 24 to 26: BESIDE, THE BEST, its WAYS, and WORTH of a told ROW. A
 * test for each sentence that names one; those of telling CHOICES and BARS are TellingEdgesTest's.
 */
public final class ChoiceEdgesTest {
    private static final int NONE = PurseTrace.NONE;
    private static final int MIN = Integer.MIN_VALUE;
    private static final int MAX = Integer.MAX_VALUE;
    private static final int[] NO_PERSONS = {-2, -1, 3, 10, MIN, MAX};
    private static final int[] NO_PURSES = {-1, 3, 10, MIN, MAX};

    private final Due due = new Due("ChoiceEdgesTest");
    private final Edges edges = new Edges(due, Worlds::small);

    public static void main(String[] args) {
        ChoiceEdgesTest test = new ChoiceEdgesTest();
        test.besideOfSuchOnes();
        test.besideOfAllLinesOfThatPurse();
        test.besideAsKnownNow();
        test.bestOfSuchOnes();
        test.theEmptyRow();
        test.noneIsLawful();
        test.onlyChoicesAreLawful();
        test.barsOfEachTwo();
        test.barsOfPursesWithoutChoices();
        test.chosenOfSuchOnes();
        test.theLeastOfLikeRows();
        test.rowsAsDigits();
        test.rowsOfFourPurses();
        test.ofMostWorth();
        test.worthIsInOthersPurses();
        test.worthIsInThings();
        test.rowsKeepWhatWasAhead();
        test.rowsAreBesideRules();
        test.worthAtTheEndOfNow();
        test.choicesTakenBack();
        test.due.end();
    }

    /** PURSE p is 0's: 4 of 1's, then 4 of 0's, and 4 SPENT: by WAY 1 or 3 all is 1's. */
    private static void fill(PurseTrace x, int p, int sum) {
        x.line(0, p, 1, sum, 0, 0, 0);
        x.line(0, p, 0, sum, 0, 1, 1);
        x.line(2, p, NONE, sum, 0, 2, 2);
    }

    private static PurseTrace four() {
        PurseTrace x = Due.with(2);
        for (int p = 0; p < 6; p++) {
            x.purse(0, 0);
            fill(x, p, 4 << p);
        }
        return x;
    }

    private void row(PurseTrace x, String what, int o, int best, int... ways) {
        due.is(what + ": best(" + o + ")", x.best(o), best);
        int number = 0;
        int place = 1;
        for (int i = 0; i < ways.length; i++) {
            due.is(what + ": chosen(" + o + ", " + i + ")", x.chosen(o, i), ways[i]);
            number += place * ways[i];
            place *= 5;
        }
        due.is(what + ": behind the last", x.chosen(o, ways.length), NONE);
        due.is(what + ": judged", x.judge(o, number), best);
    }

    private void besideOfSuchOnes() {
        edges.taken("beside by the last purse and way", 10, x -> x.beside(0, 2, 2, 4));
        edges.taken("beside in the last purse", 0, x -> x.beside(2, 2, 0, 0));
        for (int w : new int[] {-1, 5, 31, MIN, MAX}) {
            edges.refused("beside by way " + w, x -> x.beside(0, 1, 0, w));
        }
        for (int p : NO_PURSES) {
            edges.refused("beside in purse " + p, x -> x.beside(p, 1, 0, 0));
            edges.refused("beside by purse " + p, x -> x.beside(0, 1, p, 0));
        }
        for (int o : NO_PERSONS) {
            edges.refused("beside of person " + o, x -> x.beside(0, o, 0, 0));
        }
    }

    /** "THE WAY of all LINES of told PURSES is another one": of no others */
    private void besideOfAllLinesOfThatPurse() {
        PurseTrace x = Due.with(3);
        x.purse(0, 0);
        x.purse(1, 1);
        x.thing();
        x.line(0, 0, 0, 6, 0, 0, 0);
        x.line(0, 0, 1, 6, 0, 1, 1);
        x.line(0, 0, 2, 6, 0, 2, 2);
        Due.rules(x, 0, "w4(k=3);w3(1=1)");
        x.line(2, 0, NONE, 3, 0, 3, 3);
        x.deal(false, 0, 0, 3, 0, 4, 4);
        x.move(0, 1, 4, true, 0, 5, 5);
        x.line(2, 1, NONE, 2, 0, 6, 6);
        int[][] in0 = {{0, 2, 6}, {6, 2, 0}, {2, 3, 3}, {0, 2, 6}, {6, 0, 2}};
        int[][] in1 = {{0, 2, 0}, {0, 2, 0}, {0, 1, 1}, {0, 2, 0}, {0, 0, 2}};
        for (int w = 0; w < 5; w++) {
            for (int o = 0; o < 3; o++) {
                due.is("beside(0, " + o + ", 0, " + w + ")", x.beside(0, o, 0, w), in0[w][o]);
                due.is("beside(1, " + o + ", 0, " + w + ")", x.beside(1, o, 0, w), in1[w][o]);
            }
        }
        due.is("as told", x.left(0, 1, 0, 0), 2);
        due.is("by the other purse, the first is as told", x.beside(0, 1, 1, 1), 2);
        due.is("the way is as told behind it", x.way(4, 0), 4);
    }

    /** "AT THE END of NOW as KNOWN now" */
    private void besideAsKnownNow() {
        PurseTrace x = Due.with(2);
        x.purse(0, 0);
        fill(x, 0, 4);
        due.is("beside", x.beside(0, 1, 0, 1), 4);
        x.now(3);
        x.line(2, 0, NONE, 1, 3, 0, 0);
        due.is("beside by a new line", x.beside(0, 1, 0, 1), 3);
        x.strike(3);
        due.is("beside without it", x.beside(0, 1, 0, 1), 4);
        x.strike(2);
        due.is("beside without any", x.beside(0, 0, 0, 1), 4);
    }

    private void bestOfSuchOnes() {
        edges.taken("best(0)", 20, x -> x.best(0));
        edges.taken("best(2)", 10, x -> x.best(2));
        for (int o : NO_PERSONS) {
            edges.refused("best(" + o + ")", x -> x.best(o));
        }
        due.is("best of no persons", new PurseTrace().best(0), NONE);
    }

    /** "(Without CHOICES: of the empty row.)" */
    private void theEmptyRow() {
        PurseTrace x = Due.with(2);
        row(x, "without purses", 0, 0);
        x.purse(0, 0);
        row(x, "an empty purse", 1, 0);
        x.line(0, 0, 1, 7, 0, 0, 0);
        row(x, "without choices", 1, 7);
        due.is("no other row", x.judge(1, 1), NONE);
        due.is("no way", x.chosen(1, 0), NONE);
        x.choose(0, 0);
        row(x, "with choices of none", 1, 7);
    }

    /** "NONE: none is LAWFUL" */
    private void noneIsLawful() {
        PurseTrace x = four();
        x.choose(0, 2);
        x.choose(1, 2);
        row(x, "one row", 1, 12, 1, 1);
        x.bar(0, 1, 1, 1);
        due.is("best of none", x.best(1), NONE);
        due.is("its first way", x.chosen(1, 0), NONE);
        due.is("its second way", x.chosen(1, 1), NONE);
        due.is("the row", x.judge(1, 6), -2);
        x.choose(1, 2 + 8);
        row(x, "one row again", 1, 12, 1, 3);
        x.bar(1, 3, 0, 1);
        due.is("best of none again", x.best(1), NONE);
        x.choose(1, 0);
        row(x, "one purse", 1, 4 + 0, 1);
    }

    /** "it is LAWFUL if all are CHOICES of theirs": "-2: it is not LAWFUL" */
    private void onlyChoicesAreLawful() {
        int[] worth = {0, 4, 2, 4, 0};
        for (int bits = 1; bits < 32; bits++) {
            PurseTrace x = Due.with(2);
            x.purse(0, 0);
            fill(x, 0, 4);
            x.choose(0, bits);
            int best = NONE;
            int way = NONE;
            for (int w = 0; w < 5; w++) {
                boolean lawful = (bits >> w & 1) == 1;
                due.is("judge " + w + " of " + bits, x.judge(1, w), lawful ? worth[w] : -2);
                if (lawful && worth[w] > best) {
                    best = worth[w];
                    way = w;
                }
            }
            row(x, "choices " + bits, 1, best, way);
        }
    }

    /** "no two of them BAR one another" */
    private void barsOfEachTwo() {
        int[][] pairs = {{0, 1}, {0, 2}, {1, 2}, {1, 0}, {2, 0}, {2, 1}};
        for (int[] pair : pairs) {
            PurseTrace x = four();
            for (int p = 0; p < 3; p++) {
                x.choose(p, 6);
            }
            x.bar(pair[0], 1, pair[1], 1);
            due.is("barred " + pair[0] + " " + pair[1], x.judge(1, 31), -2);
            for (int p = 0; p < 3; p++) {
                int row = 31 + (int) Math.pow(5, p);
                boolean barred = p != pair[0] && p != pair[1];
                due.is("another way of " + p, x.judge(1, row), barred ? -2 : 28 - (2 << p));
            }
        }
        PurseTrace x = four();
        x.choose(0, 31);
        x.choose(1, 31);
        x.bar(0, 1, 1, 3);
        due.is("the barred one", x.judge(1, 1 + 5 * 3), -2);
        due.is("the ways turned", x.judge(1, 3 + 5 * 1), 12);
        due.is("the same ways", x.judge(1, 1 + 5 * 1), 12);
    }

    private void barsOfPursesWithoutChoices() {
        PurseTrace x = four();
        x.choose(1, 2);
        x.bar(1, 1, 0, 0);
        x.bar(1, 1, 2, 0);
        row(x, "others have no choices", 1, 8, 1);
        x.choose(0, 1);
        due.is("one has", x.best(1), NONE);
    }

    /** "The i-th WAY of THE BEST": from 0 on */
    private void chosenOfSuchOnes() {
        edges.taken("chosen(1, 0)", 1, x -> x.chosen(1, 0));
        edges.taken("chosen(1, 1)", 0, x -> x.chosen(1, 1));
        for (int i : new int[] {-1, 2, 3, 4, MIN, MAX}) {
            edges.refused("chosen(1, " + i + ")", x -> x.chosen(1, i));
        }
        for (int o : NO_PERSONS) {
            edges.refused("chosen(" + o + ", 0)", x -> x.chosen(o, 0));
        }
        PurseTrace x = Worlds.withFourChoices();
        due.is("the fourth", x.chosen(1, 3), 0);
        due.is("no fifth", x.chosen(1, 4), NONE);
    }

    /** "of like ones the least row, WAY by WAY from the first PURSE on" */
    private void theLeastOfLikeRows() {
        PurseTrace x = four();
        for (int p = 0; p < 4; p++) {
            x.choose(p, 31);
        }
        row(x, "all alike for the holder", 0, 0, 0, 0, 0, 0);
        row(x, "best for the other", 1, 4 + 8 + 16 + 32, 1, 1, 1, 1);
        x.bar(0, 1, 3, 1);
        row(x, "the last gives way", 1, 60, 1, 1, 1, 3);
        x.bar(0, 1, 3, 3);
        row(x, "then the first", 1, 60, 3, 1, 1, 1);
        x.bar(0, 3, 1, 1);
        row(x, "and the second", 1, 60, 3, 3, 1, 1);
        x.choose(1, 3);
        row(x, "or less of the least worth", 1, 58, 2, 1, 1, 1);
    }

    /** "told as digits of 5, the first PURSE in the lowest place" */
    private void rowsAsDigits() {
        PurseTrace x = four();
        x.choose(4, 31);
        x.choose(2, 31);
        int[] worth = {0, 4, 2, 4, 0};
        for (int w = 0; w < 5; w++) {
            for (int v = 0; v < 5; v++) {
                due.is("judge " + w + " " + v, x.judge(1, w + 5 * v), 4 * worth[w] + 16 * worth[v]);
            }
        }
        for (int n : new int[] {-1, 25, 26, 125, 625, MIN, MAX}) {
            due.is("judge of no row " + n, x.judge(1, n), NONE);
        }
        for (int n : new int[] {-1, 25, 125, 625, MIN, MAX}) {
            edges.refused("judge of no row " + n, y -> y.judge(1, n));
        }
        for (int o : NO_PERSONS) {
            edges.refused("judge of person " + o, y -> y.judge(o, 0));
        }
        edges.refused("judge of a barred row", -2, y -> y.judge(1, 0));
        edges.refused("judge of ways that are not chosen", -2, y -> y.judge(1, 10));
    }

    /** "(Four PURSES may have CHOICES.)" */
    private void rowsOfFourPurses() {
        PurseTrace x = four();
        for (int p = 0; p < 4; p++) {
            due.is("rows of " + p, x.judge(1, (int) Math.pow(5, p)), NONE);
            x.choose(5 - p, 31);
        }
        due.is("the last row", x.judge(1, 624), 0);
        due.is("no row", x.judge(1, 625), NONE);
        int[] worth = {0, 4, 2, 4, 0};
        for (int n = 0; n < 256; n += 5) {
            int[] w = {n % 5, n / 5 % 5, n / 25 % 5, n / 125};
            int want = 4 * worth[w[0]] + 8 * worth[w[1]] + 16 * worth[w[2]] + 32 * worth[w[3]];
            due.is("judge " + n, x.judge(1, n), want);
        }
        row(x, "the best of 625", 1, 16 + 32 + 64 + 128, 1, 1, 1, 1);
    }

    /** "of all LAWFUL ROWS that of most WORTH": also the last one */
    private void ofMostWorth() {
        PurseTrace x = Due.with(3);
        x.purse(0, 0);
        x.line(0, 0, 0, 5, 0, 0, 0);
        x.line(0, 0, 1, 4, 0, 1, 1);
        x.line(0, 0, 2, 2, 0, 2, 2);
        x.line(2, 0, NONE, 5, 0, 3, 3);
        x.choose(0, 31);
        row(x, "of the one in the middle", 1, 4, 0);
        row(x, "of the last one", 2, 2, 0);
        row(x, "of the holder", 0, 0, 0);
        x.choose(0, 2 + 16);
        row(x, "of the middle one, by the last or the others", 1, 1, 1);
        row(x, "of the last one, by the last or the others", 2, 1, 4);
    }

    /** "all that is theirs in PURSES of others" */
    private void worthIsInOthersPurses() {
        PurseTrace x = Due.with(3);
        x.purse(0, 0);
        x.purse(1, 0);
        x.purse(2, 0);
        x.line(0, 0, 1, 1, 0, 0, 0);
        x.line(0, 1, 1, 2, 0, 0, 0);
        x.line(0, 2, 1, 4, 0, 0, 0);
        x.line(0, 1, 0, 8, 0, 0, 0);
        row(x, "in two of three", 1, 5);
        row(x, "in one", 0, 8);
        row(x, "in none", 2, 0);
        x.now(1);
        x.line(2, 2, NONE, 4, 1, 0, 0);
        row(x, "what is lost is worth nothing", 1, 1);
    }

    /** "and SHARES in THINGS" */
    private void worthIsInThings() {
        PurseTrace x = Due.with(2);
        x.purse(0, 0);
        for (int k = 0; k < 10; k++) {
            x.thing();
        }
        x.line(0, 0, 1, 50, 0, 0, 0);
        x.line(0, 0, 0, 30, 0, 1, 1);
        x.deal(false, 0, 0, 10, 0, 2, 2);
        x.deal(false, 0, 9, 20, 0, 2, 2);
        row(x, "in the first and the last thing", 1, 50);
        row(x, "not of the holder", 0, 0);
        x.choose(0, 1 + 2);
        row(x, "of the holder by the last", 0, 30, 1);
        row(x, "of the other it is all alike", 1, 50, 0);
        x.deal(true, 0, 9, 1, 0, 3, 3);
        row(x, "sold for less", 1, 50, 1);
    }

    /** What was LOST and bought ahead of the first LINE of a choosing PURSE is so in each ROW. */
    private void rowsKeepWhatWasAhead() {
        PurseTrace x = Due.with(2);
        x.purse(0, 0);
        x.purse(0, 0);
        x.thing();
        x.line(0, 0, 1, 20, 0, 0, 0);
        x.line(2, 0, NONE, 5, 0, 1, 1);
        x.deal(false, 0, 0, 6, 0, 2, 2);
        x.line(0, 1, 1, 7, 0, 3, 3);
        x.line(0, 1, 0, 7, 0, 4, 4);
        x.line(2, 1, NONE, 7, 0, 5, 5);
        x.line(5, 0, 1, 5, 0, 6, 6);
        x.line(5, 0, 1, 5, 0, 7, 7);
        x.deal(true, 0, 0, 6, 0, 8, 8);
        x.deal(true, 0, 0, 6, 0, 9, 9);
        x.choose(1, 31);
        int[] worth = {20, 27, 24, 27, 20};
        for (int w = 0; w < 5; w++) {
            due.is("judge " + w, x.judge(1, w), worth[w]);
        }
        row(x, "the best behind that", 1, 27, 1);
    }

    /** A ROW's WAY is not the RULES' one, also where it is the single CHOICE. */
    private void rowsAreBesideRules() {
        int[] worth = {0, 4, 2, 4, 0};
        for (int w = 0; w < 5; w++) {
            PurseTrace x = Due.with(2);
            x.purse(0, 0);
            fill(x, 0, 4);
            Due.rules(x, 0, w == 1 ? "w0(1=1)" : "w1(1=1)");
            due.is("by rules", x.best(1), w == 1 ? 0 : 4);
            x.choose(0, 1 << w);
            row(x, "beside rules", 1, worth[w], w);
            x.choose(0, 0);
            due.is("by rules again", x.best(1), w == 1 ? 0 : 4);
        }
    }

    private void worthAtTheEndOfNow() {
        PurseTrace x = Due.with(2);
        x.purse(0, 0);
        fill(x, 0, 4);
        x.choose(0, 3);
        row(x, "on 0", 1, 4, 1);
        x.now(2);
        x.line(0, 0, 1, 3, 1, 0, 0);
        row(x, "told late", 1, 7, 1);
        x.strike(2);
        row(x, "without the spent", 1, 7, 0);
    }

    /** "0: none": THE BEST is as if there never were any. */
    private void choicesTakenBack() {
        PurseTrace x = four();
        x.choose(0, 2);
        x.choose(1, 4);
        row(x, "of two", 1, 4 + 4, 1, 2);
        x.choose(0, 0);
        row(x, "of the second", 1, 4, 2);
        x.choose(0, 8);
        row(x, "of two again", 1, 4 + 4, 3, 2);
        x.choose(1, 0);
        x.choose(0, 0);
        row(x, "of none", 1, 0);
    }
}
