import java.util.ArrayList;
import java.util.List;

/** Two objects that are told alike: a call on one of them shows by the other what it changes. */
final class Twins {
    /** What STATUS tells a refusal by. */
    static final int BAD = 0, NO = 1, FULL = 2;
    private static final int UNTOUCHED = -1;

    /** A text that is as long as a text may be. */
    static final String FULL_TEXT = "gold;one 0 12 30 20;one 1 12 30 20;one 2 12 30 20;one 3 12 30 20;one 4 12 30 20;"
        + "one 5 12 30 20;hands 0 1 2 3 4 5;hands 5 4 3 2 1 0;lie 5 4;" + " ".repeat(11);

    interface Told {
        void tell(HonestGold x);
    }

    interface Call {
        long on(HonestGold x);
    }

    private final Check check;

    Twins(Check check) {
        this.check = check;
    }

    /** The call has its answer, STATUS one more of its reason, and nothing else is changed. */
    void refused(String what, Told told, Call call, long answer, int reason) {
        compare(what, told, call, answer, reason);
    }

    /** The call has its answer, and nothing at all is changed. */
    void asks(String what, Told told, Call call, long answer) {
        compare(what, told, call, answer, UNTOUCHED);
    }

    private void compare(String what, Told told, Call call, long answer, int reason) {
        HonestGold x = new HonestGold();
        HonestGold twin = new HonestGold();
        told.tell(x);
        told.tell(twin);
        check.due(what, call.on(x), answer);
        List<Long> got = everything(x);
        List<Long> want = everything(twin);
        if (reason != UNTOUCHED) {
            want.set(reason, want.get(reason) + 1);
        }
        check.due(what + ": " + got + " is left, due is " + want, got.equals(want));
    }

    /** All that can be asked of an object, STATUS first; it is used up by it. */
    private static List<Long> everything(HonestGold x) {
        List<Long> seen = new ArrayList<>();
        for (int what = 0; what <= 2; what++) {
            seen.add((long) x.status(what));
        }
        seen.add(x.part(0));
        seen.add(x.part(1));
        addSteps(x, seen);
        for (int i = 0; i <= 1; i++) {
            seen.add((long) x.from(i));
            addSteps(x, seen);
        }
        seen.add((long) x.read());
        addSteps(x, seen);
        return seen;
    }

    private static void addSteps(HonestGold x, List<Long> seen) {
        seen.add(x.digest());
        for (int steps = x.count(5); steps > 0; steps--) {
            seen.add((long) x.undo());
            seen.add(x.digest());
        }
    }

    static void type(HonestGold x, String text) {
        for (int i = 0; i < text.length(); i++) {
            x.type(text.charAt(i));
        }
    }

    /** Nobody is there, and nothing was ever told. */
    static void nobody(HonestGold x) {
    }

    /**
     * A plain one of honesty 8 with 7 pieces, a smith of honesty 2 with 8, a minister of honesty 12 with 10
     * on day 1; 0 hands to 1 and 1 to 2; three steps may be undone, image 0 is kept, each reason was told once.
     */
    static void three(HonestGold x) {
        x.one(0, 7, 9, 3);
        x.one(3, 4, 6, 2);
        x.one(4, 12, 10, 5);
        x.hands(0, 1, 1);
        x.hands(1, 2, 1);
        x.image(0);
        x.winds(999, 5);
        type(x, "gold;one 1 2 3 4;lie 0 1;");
        x.note(0, 3, 21, 1);
        x.note(2, 2, 12, 1);
        x.lie(1, 1);
        x.give(0, 1, 2);
        x.day();
        x.lie(9, 9);
        x.from(1);
    }

    /** Six people, six notes, a text of 150 bytes, two images, and ten steps, of which eight may be undone. */
    static void six(HonestGold x) {
        for (int p = 0; p < 6; p++) {
            x.one(p, 12 - p, 30 - p, 20 - p);
        }
        for (int p = 0; p < 6; p++) {
            x.hands(p, (p + 1) % 6, 1);
        }
        type(x, FULL_TEXT);
        x.image(0);
        for (int i = 0; i < 6; i++) {
            x.note(i, 9, 108, i);
        }
        for (int i = 0; i < 3; i++) {
            x.lie(i, i + 1);
            x.give(i, i + 1, 2 + i);
            x.day();
        }
        x.image(1);
        x.lie(5, 1);
        x.winds(300, 3);
    }
}
