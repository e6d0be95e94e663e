/** Counts and prints the calls of a test whose answer is not the one that is due. */
final class Due {
    private final String test;
    private int asked;
    private int wrong;

    Due(String test) {
        this.test = test;
    }

    void is(String call, long got, long want) {
        asked++;
        if (got != want) {
            wrong++;
            System.out.println(test + ": " + call + " answered " + got + ", due is " + want);
        }
    }

    void is(String call, boolean got, boolean want) {
        is(call, got ? 1 : 0, want ? 1 : 0);
    }

    /** The PARTS of a PURSE, each a PERSON and a SUM, and none behind them. */
    void parts(PurseTrace x, String what, int p, int... want) {
        for (int i = 0; i < want.length; i += 2) {
            is(what + ": part(" + p + ", " + i / 2 + ", 0)", x.part(p, i / 2, 0), want[i]);
            is(what + ": part(" + p + ", " + i / 2 + ", 1)", x.part(p, i / 2, 1), want[i + 1]);
        }
        is(what + ": the end of " + p, x.part(p, want.length / 2, 0), PurseTrace.NONE);
        is(what + ": the end of " + p, x.part(p, want.length / 2, 1), PurseTrace.NONE);
    }

    /** What of DEBTS 0 and so on is PAID. */
    void paid(PurseTrace x, String what, int... want) {
        for (int i = 0; i < want.length; i++) {
            is(what + ": paid(" + i + ")", x.paid(i), want[i]);
        }
    }

    /** The least, the most, and how many ORDERS. */
    void sure(PurseTrace x, int p, int o, int day, int... want) {
        for (int what = 0; what < want.length; what++) {
            String call = "sure(" + p + ", " + o + ", " + day + ", " + what + ")";
            is(call, x.sure(p, o, day, what), want[what]);
        }
    }

    /** Feeds a text, filled up with blanks to whole calls of feed. */
    static int feed(PurseTrace x, String text) {
        int answer = PurseTrace.NONE;
        for (int at = 0; at < text.length(); at += 20) {
            int[] words = new int[5];
            for (int i = 0; i < 20; i++) {
                int sign = at + i < text.length() ? text.charAt(at + i) : ' ';
                words[i / 4] = words[i / 4] << 8 | sign;
            }
            answer = x.feed(words[0], words[1], words[2], words[3], words[4]);
        }
        return answer;
    }

    /** Feeds numbers, filled up with zeros to whole calls of feed. */
    static void feedNumbers(PurseTrace x, int... numbers) {
        for (int at = 0; at < numbers.length; at += 5) {
            int[] words = new int[5];
            for (int i = 0; i < 5 && at + i < numbers.length; i++) {
                words[i] = numbers[at + i];
            }
            x.feed(words[0], words[1], words[2], words[3], words[4]);
        }
    }

    static int rules(PurseTrace x, int land, int from, int to, String text) {
        feed(x, text);
        return x.rules(land, from, to, text.length());
    }

    static int rules(PurseTrace x, int land, String text) {
        return rules(x, land, 0, 3999, text);
    }

    static PurseTrace with(int persons) {
        PurseTrace x = new PurseTrace();
        for (int i = 0; i < persons; i++) {
            x.person();
        }
        return x;
    }

    void end() {
        System.out.println(test + ": " + asked + " calls, " + wrong + " wrong");
        if (wrong != 0) {
            System.exit(1);
        }
    }
}
