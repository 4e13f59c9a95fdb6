/** Promises 27 to 32: part, image, from, status, count, digest. */
public final class KeepingTest {
    private static final Check CHECK = new Check();

    public static void main(String[] args) {
        part();
        images();
        imagesKeepSteps();
        status();
        count();
        digest();
        CHECK.end();
    }

    private static void part() {
        HonestGold x = new HonestGold();
        CHECK.due("above at first", x.part(0), 0);
        CHECK.due("below at first", x.part(1), 1);
        CHECK.due("what -1", x.part(-1), HonestGold.BAD);
        CHECK.due("what 2", x.part(2), HonestGold.BAD);
        CHECK.due("counted", x.status(0), 2);
        x.one(0, 1, 30, 0);
        x.winds(999, 8);
        CHECK.due("30 by 2 of 10", x.part(0), 6);
        CHECK.due("lowest terms", x.part(1), 1);
    }

    private static void images() {
        HonestGold x = Check.told("gold;one 0 7 9 3;one 3 5 8 2;hands 0 1;lie 0 1;");
        x.type('a');
        x.winds(999, 5);
        for (int i = 1; i <= 6; i++) {
            x.note(i % 2, 2 * i, 3 * i, 4 * i);
        }
        CHECK.due("image -1", x.image(-1), HonestGold.BAD);
        CHECK.due("image 2", x.image(2), HonestGold.BAD);
        CHECK.due("from -1", x.from(-1), HonestGold.BAD);
        CHECK.due("from 2", x.from(2), HonestGold.BAD);
        CHECK.due("from none", x.from(1), HonestGold.NO);
        CHECK.due("image", x.image(1), 1);
        CHECK.due("the other is none still", x.from(0), HonestGold.NO);
        long kept = x.digest();
        x.one(5, 1, 1, 1);
        x.hands(1, 0, 1);
        x.hands(0, 1, 0);
        x.lie(1, 1);
        x.day();
        x.forget();
        CHECK.due("image of that", x.image(0), 1);
        long second = x.digest();
        CHECK.due("from", x.from(1), 1);
        CHECK.due("all as it was", x.digest(), kept);
        x.day();
        x.hands(0, 1, 0);
        x.note(0, 1, 1, 1);
        CHECK.due("from again", x.from(1), 1);
        CHECK.due("the image stayed as it was", x.digest(), kept);
        x.from(0);
        CHECK.due("the other one", x.digest(), second);
        x.image(1);
        x.gold();
        x.from(1);
        CHECK.due("an image anew", x.digest(), second);
        x.type('b');
        x.winds(999, 10);
        x.from(0);
        CHECK.due("the text is not kept", x.count(6), 2);
        CHECK.due("nor the fraction", x.part(0), 0);
        CHECK.due("nor status", x.status(0), 4);
    }

    private static void imagesKeepSteps() {
        HonestGold x = Check.told("gold;one 0 7 9 3;");
        x.lie(0, 2);
        x.day();
        x.image(0);
        x.undo();
        x.undo();
        CHECK.due("no step", x.count(5), 0);
        x.from(0);
        CHECK.due("steps as kept", x.count(5), 2);
        CHECK.due("undo", x.undo(), 0);
        CHECK.due("lied", x.of(0, 4), 1);
        CHECK.due("undo", x.undo(), 0);
        CHECK.due("honesty", x.of(0, 1), 7);
        CHECK.due("no more", x.undo(), HonestGold.NO);
        HonestGold y = Check.told("gold;one 0 3 9 3;");
        for (int d = 0; d < 8; d++) {
            y.day();
        }
        y.image(0);
        y.lie(0, 4);
        y.gold();
        y.from(0);
        for (int d = 7; d >= 0; d--) {
            CHECK.due("all eight: the day", y.undo(), d);
            CHECK.due("all eight: honesty", y.of(0, 1), 3 + d);
        }
    }

    private static void status() {
        HonestGold x = new HonestGold();
        x.lie(0, 1);
        x.bag(0, 1, 1, 1);
        x.shelves(0, 0, 0);
        x.undo();
        for (int i = 0; i < 9; i++) {
            x.one(0, 1, 1, 1);
        }
        CHECK.due("BAD", x.status(0), 3);
        CHECK.due("NO", x.status(1), 1);
        CHECK.due("FULL", x.status(2), 3);
        CHECK.due("another what", x.status(3), -1);
        CHECK.due("another what", x.status(-1), -1);
        CHECK.due("counts as BAD", x.status(0), 5);
        x.when(0, 999);
        x.debt(0, 999);
        x.bag(0, 1, 1, 0);
        x.hands(0, 1, 1);
        x.bag(0, 1, 1, 5);
        x.read();
        x.note(0, 99, 2, 0);
        x.next(0);
        CHECK.due("NONE, -5, a FAULT are no refusals", x.status(0), 5);
        CHECK.due("NONE, -5, a FAULT are no refusals", x.status(1), 1);
        CHECK.due("NONE, -5, a FAULT are no refusals", x.status(2), 3);
    }

    private static void count() {
        HonestGold x = Check.told("gold;one 0 7 9 3;one 3 5 8 2;one 3 5 8 2;lie 0 1;lie 2 1;");
        x.day();
        x.lie(0, 1);
        x.lie(1, 1);
        x.lie(1, 1);
        x.note(0, 1, 2, 3);
        x.note(0, 1, 2, 3);
        x.type('a');
        x.type('b');
        x.type('c');
        int[] due = {3, 1, 25, 2, 2, 4, 3};
        for (int what = 0; what <= 6; what++) {
            CHECK.due("count(" + what + ")", x.count(what), due[what]);
        }
        CHECK.due("what -1", x.count(-1), HonestGold.BAD);
        CHECK.due("what 7", x.count(7), HonestGold.BAD);
        CHECK.due("BAD", x.status(0), 2);
    }

    private static void digest() {
        CHECK.due("of a new object", new HonestGold().digest(), Check.mix(0, 0, 0, 0, 0, 0, 0, 0, 1));
        HonestGold x = Check.told("gold;one 0 7 9 3;one 3 5 8 2;hands 1 0;lie 0 1;");
        x.note(1, 2, 3, 4);
        x.note(0, 5, 6, 7);
        x.day();
        x.lie(1, 1);
        x.type(';');
        x.winds(999, 1);
        x.status(9);
        CHECK.due("of all", x.digest(), Check.mix(2, 1, 17, 1, 2, 2, 1,
            0, 6, 9, 3, 0, 0, 3, 4, 8, 2, 1, 1, 1, 2, 3, 4, 0, 5, 6, 7, 153, 10));
        CHECK.due("it changes nothing", x.status(0), 1);
    }
}
