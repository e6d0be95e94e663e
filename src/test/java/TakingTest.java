/** Promises 13 to 19: what LINES do to PURSES and THINGS, and what is asked of it. */
public final class TakingTest {
    private static final int NONE = PurseTrace.NONE;

    public static void main(String[] args) {
        Due due = new Due("TakingTest");
        parts(due);
        waysOutOfOnePurse(due);
        byParts(due);
        bigByParts(due);
        joins(due);
        moves(due);
        spentAndGood(due);
        goodForTheHolder(due);
        buyAndSell(due);
        risingSales(due);
        fallingSales(due);
        orderOfLines(due);
        fails(due);
        asKnown(due);
        refused(due);
        manyParts(due);
        due.end();
    }

    /** Purse 0 is person 0's: 30 of 1, 20 of 0, 10 of 2, 40 of 1, 50 of 0. */
    private static PurseTrace mixed() {
        PurseTrace x = Due.with(3);
        x.purse(0, 0);
        x.purse(2, 1);
        x.thing();
        x.line(0, 0, 1, 30, 0, 0, 0);
        x.line(0, 0, 0, 20, 0, 1, 1);
        x.line(0, 0, 2, 10, 0, 2, 2);
        x.line(0, 0, 1, 40, 0, 3, 3);
        x.line(0, 0, 0, 50, 0, 4, 4);
        return x;
    }

    private static void parts(Due due) {
        PurseTrace x = mixed();
        due.parts(x, "mixed", 0, 1, 30, 0, 20, 2, 10, 1, 40, 0, 50);
        due.parts(x, "empty", 1);
        due.is("part -1", x.part(0, -1, 0), NONE);
        due.is("part of 2", x.part(0, 0, 2), NONE);
        due.is("part of -1", x.part(0, 0, -1), NONE);
        due.is("part of no purse", x.part(2, 0, 0), NONE);
        due.is("part of purse -1", x.part(-1, 0, 0), NONE);
        x.line(0, 0, 0, 5, 0, 5, 5);
        due.parts(x, "one behind its like", 0, 1, 30, 0, 20, 2, 10, 1, 40, 0, 55);
        due.is("left of all", x.left(0, NONE, 0, 0), 155);
        due.is("left of 0", x.left(0, 0, 0, 0), 75);
        due.is("took of a come", x.took(3, 1, 0), 40);
        due.is("took of a come", x.took(3, 0, 0), 0);
    }

    /** WAY 2: 55 of 150 are 25 and 2/3 of 0's and of 1's and 3 and 2/3 of 2's. */
    private static void waysOutOfOnePurse(Due due) {
        int[][] rest = {
            {2, 5, 1, 40, 0, 50},
            {1, 30, 0, 20, 2, 10, 1, 35},
            {1, 4, 2, 7, 1, 40, 0, 44},
            {1, 30, 2, 10, 1, 40, 0, 15},
            {0, 20, 1, 25, 0, 50}};
        int[][] moved = {
            {1, 30, 0, 20, 2, 5},
            {0, 50, 1, 5},
            {0, 26, 1, 26, 2, 3},
            {0, 55},
            {1, 30, 2, 10, 1, 15}};
        for (int w = 0; w < 5; w++) {
            PurseTrace x = mixed();
            Due.rules(x, 0, "w" + w + "(1=1)");
            x.move(0, 1, 55, true, 0, 9, 9);
            due.is("way " + w, x.way(5, 0), w);
            due.parts(x, "left by " + w, 0, rest[w]);
            due.parts(x, "moved by " + w, 1, moved[w]);
        }
    }

    private static void byParts(Due due) {
        PurseTrace x = Due.with(4);
        x.purse(3, 0);
        x.line(0, 0, 2, 1, 0, 0, 0);
        x.line(0, 0, 0, 1, 0, 0, 0);
        x.line(0, 0, 1, 1, 0, 0, 0);
        Due.rules(x, 0, "w2(1=1)");
        x.line(2, 0, NONE, 2, 0, 1, 1);
        due.is("one each by numbers", x.took(3, 0, 0), 1);
        due.is("one each by numbers", x.took(3, 1, 0), 1);
        due.is("one each by numbers", x.took(3, 2, 0), 0);
        due.is("one each by numbers", x.took(3, 3, 0), 0);
        x.line(2, 0, NONE, 1, 0, 2, 2);
        due.is("all", x.left(0, NONE, 0, 0), 0);
        due.is("all is 2's", x.took(4, 2, 0), 1);
        due.is("lost 2", x.lost(0, 2, 0, 0), 1);
    }

    private static void bigByParts(Due due) {
        PurseTrace x = Due.with(2);
        x.purse(0, 0);
        for (int i = 0; i < 60; i++) {
            x.line(0, 0, i % 2, 1000000 - i % 2, 0, 0, 0);
        }
        Due.rules(x, 0, "w2(1=1)");
        int i = x.line(2, 0, NONE, 999999, 0, 1, 1);
        due.is("big part of 0", x.took(i, 0, 0), 500000);
        due.is("big part of 1", x.took(i, 1, 0), 499999);
        due.is("big left of 0", x.left(0, 0, 0, 0), 29500000);
    }

    private static void joins(Due due) {
        PurseTrace x = mixed();
        Due.rules(x, 0, "w3(s=70);w4(s=80)");
        x.line(2, 0, NONE, 70, 0, 9, 9);
        due.parts(x, "others stay", 0, 1, 30, 2, 10, 1, 40);
        x = mixed();
        Due.rules(x, 0, "w3(s=70);w4(s=80)");
        x.line(2, 0, NONE, 80, 0, 9, 9);
        due.parts(x, "the holder's join", 0, 0, 70);
        x.line(0, 0, 1, 3, 0, 10, 10);
        x.line(0, 0, 0, 4, 0, 11, 11);
        due.parts(x, "and go on", 0, 0, 70, 1, 3, 0, 4);
    }

    private static void moves(Due due) {
        PurseTrace x = mixed();
        x.line(0, 1, 1, 7, 0, 0, 0);
        x.move(0, 1, 35, true, 0, 9, 9);
        due.parts(x, "taken join behind all", 1, 1, 37, 0, 5);
        due.parts(x, "and leave the rest", 0, 0, 15, 2, 10, 1, 40, 0, 50);
        due.is("nothing is lost", x.lost(0, 1, 0, 0), 0);
        Due.rules(x, 1, "g(1=1)");
        due.parts(x, "leading ends", 1, 1, 7, 2, 35);
        x.knows(2, 0, 0);
        due.parts(x, "but of whom one knows", 1, 1, 7, 2, 30, 0, 5);
        due.is("it was the other's as it was taken", x.took(6, 1, 0), 30);
        x.knows(0, 1, 0);
        due.parts(x, "who else knows is nothing", 1, 1, 7, 2, 30, 0, 5);
        x.knows(2, 1, 1);
        due.parts(x, "known a day late", 1, 1, 7, 2, 30, 0, 5);
        x.now(2);
        x.knows(2, 1, 0);
        due.parts(x, "known, told late", 1, 1, 37, 0, 5);
        due.is("as told ahead", x.left(1, 2, 2, 1), 30);
        due.is("as told then", x.left(1, 2, 2, 2), 0);
        x.move(0, 1, 25, false, 2, 0, 0);
        due.parts(x, "not given for", 1, 1, 37, 0, 20, 2, 10);
        x.move(0, 1, 40, true, 2, 1, 1);
        due.parts(x, "known of", 1, 1, 37, 0, 20, 2, 10, 1, 40);
        Due.rules(x, 1, "w1(1=1)");
        x.move(1, 0, 45, true, 2, 2, 2);
        due.parts(x, "back, the last ahead, no g there", 0, 0, 50, 1, 40, 2, 5);
    }

    private static void spentAndGood(Due due) {
        PurseTrace x = mixed();
        x.line(2, 0, NONE, 55, 0, 9, 9);
        due.is("lost of 0", x.lost(0, 0, 0, 0), 0);
        due.is("lost of 1", x.lost(0, 1, 0, 0), 30);
        due.is("lost of 2", x.lost(0, 2, 0, 0), 5);
        due.is("lost out of another", x.lost(1, 1, 0, 0), 0);
        due.is("lost of all", x.lost(0, NONE, 0, 0), NONE);
        int i = x.line(5, 0, 1, 20, 0, 10, 10);
        due.parts(x, "made good", 0, 2, 5, 1, 40, 0, 50, 1, 20);
        due.is("still lost", x.lost(0, 1, 0, 0), 10);
        i = x.line(5, 0, 1, 25, 0, 11, 11);
        due.parts(x, "and more", 0, 2, 5, 1, 40, 0, 50, 1, 30, 0, 15);
        due.is("not lost any more", x.lost(0, 1, 0, 0), 0);
        due.is("what came is 1's", x.took(i, 1, 0), 10);
        due.is("what came is 0's", x.took(i, 0, 0), 15);
        due.is("what came is 2's", x.took(i, 2, 0), 0);
        x.line(5, 1, 2, 9, 0, 12, 12);
        due.parts(x, "another purse", 1, 2, 9);
        due.is("lost of 2 stays", x.lost(0, 2, 0, 0), 5);
    }

    private static void goodForTheHolder(Due due) {
        PurseTrace x = Due.with(2);
        x.purse(1, 0);
        x.line(0, 0, 1, 10, 0, 0, 0);
        x.line(0, 0, 0, 5, 0, 0, 0);
        x.line(2, 0, NONE, 12, 0, 1, 1);
        int i = x.line(5, 0, 1, 6, 0, 2, 2);
        due.parts(x, "the holder's own", 0, 0, 3, 1, 6);
        due.is("the holder loses nothing", x.lost(0, 1, 0, 0), 0);
        due.is("the other does", x.lost(0, 0, 0, 0), 2);
        due.is("took", x.took(i, 1, 0), 6);
    }

    private static void buyAndSell(Due due) {
        PurseTrace x = mixed();
        int i = x.deal(false, 0, 0, 55, 0, 9, 9);
        int[] shares = {20, 30, 5};
        for (int o = 0; o < 3; o++) {
            due.is("share of " + o, x.share(0, o, 0, 0), shares[o]);
            due.is("took of " + o, x.took(i, o, 0), shares[o]);
        }
        due.is("all shares", x.share(0, NONE, 0, 0), 55);
        x.deal(false, 0, 0, 45, 0, 10, 10);
        due.is("more shares of 1", x.share(0, 1, 0, 0), 70);
        due.is("more shares of 2", x.share(0, 2, 0, 0), 10);
        i = x.deal(true, 1, 0, 85, 0, 11, 11);
        due.parts(x, "sold into another's purse", 1, 0, 19, 1, 66);
    }

    private static void risingSales(Due due) {
        PurseTrace x = mixed();
        Due.rules(x, 0, "r(s>10)");
        x.deal(false, 0, 0, 55, 0, 9, 9);
        int i = x.deal(true, 0, 0, 112, 0, 10, 10);
        due.parts(x, "a rise", 0, 2, 5, 1, 40, 0, 91, 1, 61, 2, 10);
        due.is("took of a sale", x.took(i, 0, 0), 41);
        due.is("took of a sale", x.took(i, 1, 0), 61);
        due.is("took of a sale", x.took(i, 2, 0), 10);
        due.is("no shares", x.share(0, NONE, 0, 0), 0);
        i = x.deal(true, 0, 0, 11, 0, 11, 11);
        due.is("without shares", x.took(i, 0, 0), 11);
        PurseTrace y = mixed();
        Due.rules(y, 0, "r(s<3)");
        y.deal(false, 0, 0, 150, 0, 9, 9);
        y.deal(true, 0, 0, 2, 0, 10, 10);
        due.parts(y, "a rise to little", 0, 0, 1, 1, 1);
    }

    private static void fallingSales(Due due) {
        int[][] want = {{0, 40, 1, 30, 2, 5}, {1, 30, 2, 5}, {0, 1, 1, 30, 2, 5}, {1, 30, 2, 4},
            {1, 1}, {1, 15, 2, 2}};
        int[] sums = {75, 35, 36, 34, 1, 17};
        for (int n = 0; n < sums.length; n++) {
            PurseTrace x = Due.with(3);
            x.purse(0, 0);
            x.thing();
            x.line(0, 0, 1, 30, 0, 0, 0);
            x.line(0, 0, 0, 20, 0, 1, 1);
            x.line(0, 0, 2, 5, 0, 2, 2);
            x.deal(false, 0, 0, 55, 0, 9, 9);
            int i = x.deal(true, 0, 0, sums[n], 0, 10, 10);
            due.parts(x, "sold for " + sums[n], 0, want[n]);
            due.is("way of a sale", x.way(i, 0), -3);
        }
    }

    private static void orderOfLines(Due due) {
        PurseTrace x = Due.with(3);
        x.purse(0, 0);
        x.now(5);
        x.line(0, 0, 2, 1, 5, 7, 9);
        x.line(0, 0, 1, 2, 5, 7, 7);
        x.line(0, 0, 0, 3, 5, 6, 23);
        x.line(0, 0, 2, 4, 4, 23, 23);
        x.line(0, 0, 1, 5, 5, 0, 0);
        due.parts(x, "days, hours, numbers", 0, 2, 4, 1, 5, 0, 3, 2, 1, 1, 2);
        due.is("at the end of 4", x.left(0, NONE, 4, 5), 4);
        due.is("at the end of 3", x.left(0, NONE, 3, 5), 0);
        x.strike(4);
        due.parts(x, "one struck", 0, 2, 4, 0, 3, 2, 1, 1, 2);
        x.strike(2);
        due.parts(x, "two struck", 0, 2, 5, 1, 2);
    }

    private static void fails(Due due) {
        PurseTrace x = mixed();
        x.line(2, 0, NONE, 151, 0, 5, 5);
        x.deal(false, 0, 0, 151, 0, 5, 5);
        x.move(0, 1, 151, true, 0, 5, 5);
        x.move(1, 0, 1, true, 0, 5, 5);
        x.deal(true, 1, 0, 9, 0, 23, 23);
        Due.rules(x, 0, "w4(t=150)");
        for (int i = 5; i < 8; i++) {
            due.is("took of a failed line", x.took(i, 0, 0), -2);
            due.is("way of a failed line", x.way(i, 0), 4);
        }
        due.is("way of a failed line", x.way(8, 0), 0);
        due.is("fails", x.fails(0), 4);
        due.is("nothing is done", x.left(0, NONE, 0, 0), 150);
        due.is("nothing is lost", x.lost(0, 1, 0, 0), 0);
        due.is("nothing is bought", x.share(0, NONE, 0, 0), 0);
        x.line(2, 0, NONE, 150, 0, 5, 5);
        due.is("just so much", x.fails(0), 4);
        due.is("none left", x.left(0, NONE, 0, 0), 0);
        x.now(1);
        x.line(0, 0, 0, 1000, 0, 0, 0);
        due.is("fails as known now", x.fails(1), 0);
        due.is("fails as known then", x.fails(0), 4);
        due.is("fails(-1)", x.fails(-1), NONE);
        due.is("fails(4000)", x.fails(4000), NONE);
        due.is("fails(3999)", x.fails(3999), 0);
    }

    private static void asKnown(Due due) {
        PurseTrace x = Due.with(2);
        x.purse(0, 0);
        x.thing();
        x.now(2);
        x.line(0, 0, 0, 10, 1, 0, 0);
        x.now(4);
        x.line(0, 0, 1, 20, 1, 0, 0);
        x.deal(false, 0, 0, 15, 3, 0, 0);
        x.line(2, 0, NONE, 5, 3, 1, 1);
        x.now(6);
        x.strike(0);
        due.is("as known on 1", x.left(0, NONE, 9, 1), 0);
        due.is("as known on 2", x.left(0, NONE, 9, 2), 10);
        due.is("as known on 4", x.left(0, NONE, 9, 4), 10);
        due.is("as known on 4 at the end of 2", x.left(0, NONE, 2, 4), 30);
        due.is("as known on 6", x.left(0, NONE, 6, 6), 0);
        due.is("shares as known on 4", x.share(0, 1, 3, 4), 5);
        due.is("shares as known on 6", x.share(0, 1, 3, 6), 15);
        due.is("shares at the end of 2", x.share(0, 1, 2, 6), 0);
        due.is("lost as known on 6", x.lost(0, 1, 3, 6), 5);
        due.is("lost as known on 5", x.lost(0, 1, 3, 5), 5);
        due.is("lost as known on 3", x.lost(0, 1, 3, 3), 0);
        due.is("took ahead of its telling", x.took(1, 1, 3), -3);
        due.is("took as told", x.took(1, 1, 4), 20);
        due.is("took ahead of its end", x.took(0, 0, 5), 10);
        due.is("took as struck", x.took(0, 0, 6), -3);
        due.is("way ahead of its telling", x.way(2, 3), -3);
        due.is("way as told", x.way(2, 4), 0);
        due.is("way of a come", x.way(1, 4), -3);
    }

    private static void refused(Due due) {
        PurseTrace x = mixed();
        int[][] days = {{-1, 0}, {0, -1}, {4000, 0}, {0, 4000}};
        for (int[] d : days) {
            due.is("left on no day", x.left(0, 0, d[0], d[1]), NONE);
            due.is("share on no day", x.share(0, 0, d[0], d[1]), NONE);
            due.is("lost on no day", x.lost(0, 1, d[0], d[1]), NONE);
        }
        due.is("left of no purse", x.left(2, 0, 0, 0), NONE);
        due.is("left of purse -1", x.left(-1, 0, 0, 0), NONE);
        due.is("left of no one", x.left(0, 3, 0, 0), NONE);
        due.is("left of -2", x.left(0, -2, 0, 0), NONE);
        due.is("share of no thing", x.share(1, 0, 0, 0), NONE);
        due.is("share of thing -1", x.share(-1, 0, 0, 0), NONE);
        due.is("share of no one", x.share(0, 3, 0, 0), NONE);
        due.is("share of -2", x.share(0, -2, 0, 0), NONE);
        due.is("lost of no one", x.lost(0, 3, 0, 0), NONE);
        due.is("lost of no purse", x.lost(2, 0, 0, 0), NONE);
        due.is("took of no line", x.took(5, 0, 0), NONE);
        due.is("took of line -1", x.took(-1, 0, 0), NONE);
        due.is("took of no one", x.took(0, 3, 0), NONE);
        due.is("took of all", x.took(0, NONE, 0), NONE);
        due.is("took on no day", x.took(0, 0, 4000), NONE);
        due.is("took on day -1", x.took(0, 0, -1), NONE);
        due.is("way of no line", x.way(5, 0), NONE);
        due.is("way of line -1", x.way(-1, 0), NONE);
        due.is("way on no day", x.way(0, 4000), NONE);
        due.is("way on day -1", x.way(0, -1), NONE);
    }

    /** Moves by parts make ten PARTS more each; with 90 of them the row is as long as can be. */
    private static void manyParts(Due due) {
        PurseTrace x = Due.with(10);
        x.purse(0, 0);
        x.purse(1, 0);
        Due.rules(x, 0, "w2(1=1)");
        for (int o = 0; o < 10; o++) {
            x.line(0, 0, o, 1000, 0, o, o);
        }
        for (int i = 0; i < 90; i++) {
            due.is("move", x.move(0, 1, 100, true, 0, 23, 23), 10 + i);
        }
        due.is("a late part's person", x.part(1, 899, 0), 9);
        due.is("a late part's sum", x.part(1, 899, 1), 10);
        due.is("no part behind", x.part(1, 900, 0), NONE);
        due.is("left", x.left(1, NONE, 0, 0), 9000);
        due.is("left of 7", x.left(0, 7, 0, 0), 100);
        due.is("fails", x.fails(0), 0);
    }
}
