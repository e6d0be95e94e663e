import java.util.ArrayList;
import java.util.List;

/**
 * All that an object answers, asked in one fixed row of calls: two objects that were told the
 * same must answer alike. The last calls tell more, so that what can only be seen by telling
 * (the next number, the bytes of the tape, who knows of whom, what is barred) is seen too.
 */
final class Portrait {
    private final PurseTrace x;
    private final List<String> answers = new ArrayList<>();

    private Portrait(PurseTrace x) {
        this.x = x;
    }

    static List<String> of(PurseTrace x) {
        Portrait portrait = new Portrait(x);
        portrait.counts();
        portrait.lines();
        portrait.money();
        portrait.rows();
        portrait.tellMore();
        return portrait.answers;
    }

    private void add(String call, long answer) {
        answers.add(call + " = " + answer);
    }

    private void add(String call, boolean answer) {
        answers.add(call + " = " + answer);
    }

    private void counts() {
        for (int what = 0; what <= 10; what++) {
            add("count(" + what + ")", x.count(what));
        }
        for (int i = 0; i < x.count(5); i++) {
            add("count(" + (20 + i) + ")", x.count(20 + i));
        }
        for (int i = 0; i < 3; i++) {
            add("paid(" + i + ")", x.paid(i));
        }
        add("the last paid", x.paid(x.count(7) - 1));
    }

    private void lines() {
        int size = x.count(4);
        for (int i = 0; i < size; i += i < 7 ? 1 : 46) {
            for (int what = 0; what < 10; what++) {
                add("look(" + i + ", " + what + ")", x.look(i, what));
            }
            add("way(" + i + ")", x.way(i, x.count(0)));
            add("took(" + i + ", 0)", x.took(i, 0, x.count(0)));
            add("took(" + i + ", 1)", x.took(i, 1, x.count(0)));
        }
        add("fails", x.fails(x.count(0)));
        add("fails ahead", x.fails(0));
    }

    private void money() {
        int now = x.count(0);
        for (int p = 0; p < 3; p++) {
            for (int o = -1; o < 3; o++) {
                add("left(" + p + ", " + o + ")", x.left(p, o, now, now));
            }
            add("lost(" + p + ", 0)", x.lost(p, 0, now, now));
            add("lost(" + p + ", 1)", x.lost(p, 1, now, now));
            for (int i = 0; i < 2; i++) {
                add("part(" + p + ", " + i + ", 0)", x.part(p, i, 0));
                add("part(" + p + ", " + i + ", 1)", x.part(p, i, 1));
            }
        }
        for (int o = -1; o < 2; o++) {
            add("share(0, " + o + ")", x.share(0, o, now, now));
            add("share(1, " + o + ")", x.share(1, o, now, now));
        }
    }

    private void rows() {
        for (int o = 0; o < 2; o++) {
            add("best(" + o + ")", x.best(o));
            add("chosen(" + o + ", 0)", x.chosen(o, 0));
            add("chosen(" + o + ", 1)", x.chosen(o, 1));
        }
        for (int row = 0; row < 8; row++) {
            add("judge(1, " + row + ")", x.judge(1, row));
        }
        for (int w = 0; w < 5; w++) {
            add("beside(0, 1, 0, " + w + ")", x.beside(0, 1, 0, w));
        }
        for (int what = 0; what < 3; what++) {
            add("sure(0, 1, 0, " + what + ")", x.sure(0, 1, 0, what));
            add("sure(0, 1, now, " + what + ")", x.sure(0, 1, x.count(0), what));
        }
    }

    private void tellMore() {
        int now = x.count(0);
        for (int i = 0; i < 25; i++) {
            add("bar " + i, x.bar(0, i / 5, 1, i % 5));
        }
        add("the tape's text", x.rules(0, 0, 3999, 7));
        add("left behind it", x.left(0, 1, now, now));
        add("rules that give", Due.rules(x, 1, "g(1=1)"));
        for (int o = 0; o < 3; o++) {
            add("known of " + o, x.left(1, o, now, now));
        }
        add("choose", x.choose(2, 5));
        add("person", x.person());
        add("purse", x.purse(0, 0));
        add("thing", x.thing());
        add("line", x.line(0, 0, 0, 1, now, 0, 0));
        add("debt", x.debt(0, 1, 1, 0));
        add("paid by more", x.paid(0));
        add("knows", x.knows(0, 1, 0));
        add("strike", x.strike(0));
        add("now", x.now(now));
    }
}
