/** Objects in which something of everything has been told, and ones with a full store. */
final class Worlds {
    private static final int NONE = PurseTrace.NONE;

    private Worlds() {
    }

    /**
     * NOW is 5. PERSONS 0 to 2, PURSES 0 to 2 (of 0, 1, 2; LANDS 0, 1, 0), THINGS 0 and 1,
     * LINES 0 to 6 (the last is STRUCK), RULES 0, one telling of who KNOWS, DEBTS 0 and 1,
     * CHOICES of PURSES 0 and 1, one BAR, and 20 bytes on the tape.
     */
    static PurseTrace small() {
        PurseTrace x = Due.with(3);
        x.purse(0, 0);
        x.purse(1, 1);
        x.purse(2, 0);
        x.thing();
        x.thing();
        x.line(0, 0, 1, 30, 0, 0, 0);
        x.line(0, 0, 0, 20, 0, 1, 1);
        x.line(0, 0, 2, 10, 0, 2, 9);
        Due.rules(x, 0, "w2(s<5);r(s>90)");
        x.now(5);
        x.move(0, 1, 35, true, 5, 3, 3);
        x.deal(false, 0, 0, 10, 5, 4, 4);
        x.line(2, 0, NONE, 3, 4, 0, 0);
        x.line(0, 1, 0, 7, 5, 5, 5);
        x.strike(6);
        x.knows(1, 0, 0);
        x.debt(0, 1, 4, 1);
        x.debt(1, 2, 3, 0);
        x.choose(0, 31);
        x.choose(1, 3);
        x.bar(0, 0, 1, 0);
        Due.feed(x, "w1(1=1)");
        return x;
    }

    static PurseTrace withTenPersons() {
        PurseTrace x = small();
        while (x.count(1) < 10) {
            x.person();
        }
        return x;
    }

    static PurseTrace withTenPurses() {
        PurseTrace x = small();
        for (int p = 3; p < 10; p++) {
            x.purse(p % 3, p % 4);
        }
        return x;
    }

    static PurseTrace withTenThings() {
        PurseTrace x = small();
        for (int k = 2; k < 10; k++) {
            x.thing();
        }
        return x;
    }

    static PurseTrace withLines(int lines) {
        PurseTrace x = small();
        for (int i = 7; i < lines; i++) {
            x.line(0, 2, i % 3, i, i % 6, 0, 0);
        }
        return x;
    }

    static PurseTrace withRules(int rules) {
        PurseTrace x = small();
        x.check(0);
        for (int i = 1; i < rules; i++) {
            Due.rules(x, 0, "x0.1;w1(s=" + i + ")");
        }
        Due.feed(x, "w1(1=1)");
        return x;
    }

    static PurseTrace withTellings(int tellings) {
        PurseTrace x = small();
        for (int i = 1; i < tellings; i++) {
            x.knows(2, i % 2, 0);
        }
        return x;
    }

    static PurseTrace withDebts(int debts) {
        PurseTrace x = small();
        for (int i = 2; i < debts; i++) {
            x.debt(2, i % 2, i, i % 4);
        }
        return x;
    }

    /** Of PURSES 2 and 1, and of 2 and 0, so that those of 0 and 1 are as in the small one. */
    static PurseTrace withBars(int bars) {
        PurseTrace x = small();
        for (int i = 1; i < bars; i++) {
            x.bar(2, i % 5, i / 5 % 2, i / 10);
        }
        return x;
    }

    static PurseTrace withTape(int bytes) {
        PurseTrace x = small();
        while (x.count(8) < bytes) {
            x.feed(1, 2, 3, 4, 5);
        }
        return x;
    }

    /** PURSES 0 to 4, of which 0 to 3 have CHOICES. */
    static PurseTrace withFourChoices() {
        PurseTrace x = small();
        x.purse(0, 0);
        x.purse(1, 0);
        x.choose(2, 17);
        x.choose(3, 1);
        return x;
    }
}
