/** Promises 8 to 12: lie, give, day, undo, of. */
public final class DaysTest {
    private static final Check CHECK = new Check();
    private static final String SIX =
        "gold;one 0 12 9 1;one 1 12 9 1;one 2 12 9 1;one 3 12 9 1;one 4 12 9 1;one 5 12 9 1;";

    public static void main(String[] args) {
        lie();
        give();
        day();
        undo();
        of();
        CHECK.end();
    }

    private static void lie() {
        int[][] loss = {{1, 2, 3, 4}, {2, 3, 4, 5}, {1, 1, 2, 2}, {2, 4, 6, 8}, {1, 1, 2, 2}, {2, 4, 6, 8}};
        for (int p = 0; p < 6; p++) {
            for (int s = 1; s <= 4; s++) {
                HonestGold x = Check.told(SIX);
                int once = 12 - loss[p][s - 1];
                CHECK.due("lie of kind " + p + " size " + s, x.lie(p, s), once);
                CHECK.due("a second lie", x.lie(p, s), Math.max(0, once - loss[p][s - 1]));
                CHECK.due("who lied", x.count(3), 1);
                CHECK.due("lied", x.of(p, 4), 1);
                CHECK.due("steps", x.count(5), 2);
            }
        }
        HonestGold x = Check.told("gold;one 0 2 9 1;");
        CHECK.due("size 0", x.lie(0, 0), HonestGold.BAD);
        CHECK.due("size 5", x.lie(0, 5), HonestGold.BAD);
        CHECK.due("not there", x.lie(1, 1), HonestGold.BAD);
        CHECK.due("below", x.lie(-1, 1), HonestGold.BAD);
        CHECK.due("nobody lied", x.count(3), 0);
        CHECK.due("0 is kept", x.lie(0, 4), 0);
    }

    private static void give() {
        HonestGold x = Check.told("gold;one 0 2 9 1;one 0 2 30 1;hands 0 1;");
        CHECK.due("n 0", x.give(0, 1, 0), HonestGold.BAD);
        CHECK.due("n 100", x.give(0, 1, 100), HonestGold.BAD);
        CHECK.due("n -1", x.give(0, 1, -1), HonestGold.BAD);
        CHECK.due("alike", x.give(0, 0, 1), HonestGold.BAD);
        CHECK.due("q not there", x.give(0, 2, 1), HonestGold.BAD);
        CHECK.due("p not there", x.give(2, 0, 1), HonestGold.BAD);
        CHECK.due("q below", x.give(0, -1, 1), HonestGold.BAD);
        CHECK.due("not so many", x.give(0, 1, 10), HonestGold.NO);
        CHECK.due("does not hand", x.give(1, 0, 1), HonestGold.NO);
        CHECK.due("99 are told", x.give(0, 1, 99), HonestGold.NO);
        CHECK.due("nothing changed", x.count(5), 0);
        CHECK.due("two", x.give(0, 1, 2), 7);
        CHECK.due("beyond 30", x.of(1, 2), 32);
        CHECK.due("the rest", x.give(0, 1, 7), 0);
        CHECK.due("all of them", x.of(1, 2), 39);
        CHECK.due("as many as ever", x.count(2), 39);
        CHECK.due("none is left", x.give(0, 1, 1), HonestGold.NO);
    }

    private static void day() {
        HonestGold x = Check.told("gold;one 0 11 9 1;one 0 5 9 1;one 0 5 9 1;");
        x.lie(2, 1);
        CHECK.due("day 1", x.day(), 1);
        CHECK.due("one more", x.of(0, 1), 12);
        CHECK.due("one more", x.of(1, 1), 6);
        CHECK.due("not for one who lied", x.of(2, 1), 4);
        CHECK.due("nobody lied", x.count(3), 0);
        CHECK.due("day 2", x.day(), 2);
        CHECK.due("12 is kept", x.of(0, 1), 12);
        CHECK.due("then for all", x.of(2, 1), 5);
        HonestGold y = new HonestGold();
        y.one(0, 0, 1, 1);
        for (int d = 1; d <= 999; d++) {
            y.day();
        }
        CHECK.due("day 999 stays", y.day(), 999);
        y.lie(0, 4);
        y.day();
        CHECK.due("behind it one who lied is not mended", y.of(0, 1), 8);
        CHECK.due("but days go by", y.day(), 999);
        CHECK.due("and mend", y.of(0, 1), 9);
    }

    private static void undo() {
        HonestGold x = Check.told("gold;one 0 5 9 1;one 0 5 9 1;hands 0 1;");
        long first = x.digest();
        CHECK.due("none", x.undo(), HonestGold.NO);
        x.lie(0, 2);
        x.give(0, 1, 3);
        x.day();
        CHECK.due("steps", x.count(5), 3);
        CHECK.due("undo the day", x.undo(), 0);
        CHECK.due("honesty", x.of(0, 1), 3);
        CHECK.due("honesty", x.of(1, 1), 5);
        CHECK.due("lied", x.of(0, 4), 1);
        CHECK.due("undo the handing", x.undo(), 0);
        CHECK.due("pieces", x.of(0, 2), 9);
        CHECK.due("pieces", x.of(1, 2), 9);
        CHECK.due("undo the lie", x.undo(), 0);
        CHECK.due("honesty", x.of(0, 1), 5);
        CHECK.due("lied", x.of(0, 4), 0);
        CHECK.due("all as ahead", x.digest(), first);
        for (int d = 1; d <= 11; d++) {
            x.day();
        }
        CHECK.due("8 at most", x.count(5), 8);
        for (int d = 10; d >= 3; d--) {
            CHECK.due("the day", x.undo(), d);
        }
        CHECK.due("no more", x.undo(), HonestGold.NO);
        x.day();
        x.note(0, 1, 1, 1);
        CHECK.due("notes leave steps", x.undo(), 3);
        CHECK.due("and undo leaves notes", x.count(4), 1);
        x.lie(0, 9);
        x.give(1, 0, 1);
        CHECK.due("refused ones are no steps", x.count(5), 0);
    }

    private static void of() {
        HonestGold x = Check.told("gold;one 0 1 1 1;one 3 7 9 4;hands 1 0;lie 1 1;");
        int[] due = {3, 5, 9, 4, 1, 1, 54};
        for (int what = 0; what <= 6; what++) {
            CHECK.due("of(1, " + what + ")", x.of(1, what), due[what]);
        }
        CHECK.due("what -1", x.of(1, -1), HonestGold.BAD);
        CHECK.due("what 7", x.of(1, 7), HonestGold.BAD);
        CHECK.due("not there", x.of(2, 0), HonestGold.BAD);
        CHECK.due("below", x.of(-1, 0), HonestGold.BAD);
    }
}
