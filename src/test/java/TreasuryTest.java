/** Promises 1 to 7: a new object, gold, one, hands, type, clear, read. */
public final class TreasuryTest {
    private static final Check CHECK = new Check();

    public static void main(String[] args) {
        newObject();
        gold();
        one();
        hands();
        typeAndClear();
        readTreasury();
        readReplaces();
        CHECK.end();
    }

    private static void newObject() {
        HonestGold x = new HonestGold();
        for (int what = 0; what <= 6; what++) {
            CHECK.due("new count(" + what + ")", x.count(what), 0);
        }
        for (int what = 0; what <= 2; what++) {
            CHECK.due("new status(" + what + ")", x.status(what), 0);
        }
        CHECK.due("new part(0)", x.part(0), 0);
        CHECK.due("new part(1)", x.part(1), 1);
        CHECK.due("new from(0)", x.from(0), HonestGold.NO);
        CHECK.due("new from(1)", x.from(1), HonestGold.NO);
        CHECK.due("new undo", x.undo(), HonestGold.NO);
        CHECK.due("NONE", HonestGold.NONE, -1);
        CHECK.due("BAD", HonestGold.BAD, -2);
        CHECK.due("NO", HonestGold.NO, -3);
        CHECK.due("FULL", HonestGold.FULL, -4);
    }

    private static void gold() {
        HonestGold x = Check.told("gold;one 0 7 9 3;one 3 4 6 2;hands 0 1;");
        x.type('g');
        x.winds(999, 5);
        x.image(0);
        x.lie(0, 2);
        x.day();
        x.note(0, 1, 2, 3);
        x.lie(9, 1);
        CHECK.due("gold with two", x.gold(), 2);
        for (int what = 0; what <= 5; what++) {
            CHECK.due("count(" + what + ") behind gold", x.count(what), 0);
        }
        CHECK.due("the text stays", x.count(6), 1);
        CHECK.due("the fraction stays", x.part(0), 15);
        CHECK.due("the fraction stays", x.part(1), 2);
        CHECK.due("status stays", x.status(0), 1);
        CHECK.due("nothing to undo behind gold", x.undo(), HonestGold.NO);
        CHECK.due("gold with none", x.gold(), 0);
        x.one(0, 1, 1, 1);
        x.one(0, 1, 1, 1);
        CHECK.due("no old hands", x.of(0, 5), 0);
        CHECK.due("no old lies", x.of(0, 4), 0);
        CHECK.due("images stay", x.from(0), 1);
        CHECK.due("hands of the image", x.of(0, 5), 2);
    }

    private static void one() {
        HonestGold x = new HonestGold();
        int[][] bad = {{-1, 0, 0, 0}, {6, 0, 0, 0}, {0, -1, 0, 0}, {0, 13, 0, 0}, {0, 0, -1, 0},
            {0, 0, 31, 0}, {0, 0, 0, -1}, {0, 0, 0, 21}};
        for (int[] b : bad) {
            CHECK.due("one of bad numbers", x.one(b[0], b[1], b[2], b[3]), HonestGold.BAD);
        }
        CHECK.due("nobody came", x.count(0), 0);
        for (int p = 0; p < 6; p++) {
            CHECK.due("one " + p, x.one(p, 12 - p, 30 - p, 20 - p), p);
        }
        for (int p = 0; p < 6; p++) {
            CHECK.due("kind", x.of(p, 0), p);
            CHECK.due("honesty", x.of(p, 1), 12 - p);
            CHECK.due("pieces", x.of(p, 2), 30 - p);
            CHECK.due("pay", x.of(p, 3), 20 - p);
        }
        CHECK.due("a 7th", x.one(0, 0, 0, 0), HonestGold.FULL);
        CHECK.due("a bad 7th", x.one(6, 0, 0, 0), HonestGold.BAD);
        x.day();
        CHECK.due("refused: the step stays", x.one(0, 0, 0, 0), HonestGold.FULL);
        CHECK.due("step", x.count(5), 1);
        HonestGold y = Check.told("gold;one 0 1 1 1;");
        y.day();
        y.one(0, 0, 0, 0);
        CHECK.due("one that came leaves no step", y.undo(), HonestGold.NO);
        CHECK.due("and the day", y.count(1), 1);
    }

    private static void hands() {
        HonestGold x = Check.told("gold;one 0 1 1 1;one 0 1 1 1;one 0 1 1 1;");
        CHECK.due("not at first", x.hands(0, 1, 1), 0);
        CHECK.due("then so", x.hands(0, 1, 1), 1);
        CHECK.due("one way", x.of(1, 5), 0);
        CHECK.due("another", x.hands(0, 2, 1), 0);
        CHECK.due("bits", x.of(0, 5), 6);
        CHECK.due("no more", x.hands(0, 1, 0), 1);
        CHECK.due("bits then", x.of(0, 5), 4);
        CHECK.due("no more again", x.hands(0, 1, 0), 0);
        CHECK.due("alike", x.hands(1, 1, 1), HonestGold.BAD);
        CHECK.due("is 2", x.hands(0, 1, 2), HonestGold.BAD);
        CHECK.due("is -1", x.hands(0, 1, -1), HonestGold.BAD);
        CHECK.due("p not there", x.hands(3, 1, 1), HonestGold.BAD);
        CHECK.due("q not there", x.hands(1, 3, 1), HonestGold.BAD);
        CHECK.due("p below", x.hands(-1, 1, 1), HonestGold.BAD);
        CHECK.due("q below", x.hands(1, -1, 1), HonestGold.BAD);
        x.day();
        x.hands(1, 1, 1);
        CHECK.due("refused hands leave the step", x.count(5), 1);
        x.hands(0, 1, 0);
        CHECK.due("told hands leave no step, changed or not", x.count(5), 0);
    }

    private static void typeAndClear() {
        HonestGold x = new HonestGold();
        CHECK.due("type(-1)", x.type(-1), HonestGold.BAD);
        CHECK.due("type(128)", x.type(128), HonestGold.BAD);
        CHECK.due("clear none", x.clear(), 0);
        for (int i = 1; i <= 150; i++) {
            CHECK.due("type " + i, x.type(i == 1 ? 0 : i == 2 ? 127 : 'a'), i);
        }
        CHECK.due("a bad 151st", x.type(128), HonestGold.BAD);
        CHECK.due("a 151st", x.type('a'), HonestGold.FULL);
        CHECK.due("it was refused", x.status(2), 1);
        CHECK.due("count(6)", x.count(6), 150);
        CHECK.due("clear", x.clear(), 150);
        CHECK.due("count(6)", x.count(6), 0);
        CHECK.due("type again", x.type('a'), 1);
    }

    private static void readTreasury() {
        HonestGold x = new HonestGold();
        CHECK.due("gold alone", Check.read(x, "gold;"), 1);
        CHECK.due("blanks", Check.read(x, "  gold ;  one 05 12 30 20 ; "), 2);
        CHECK.due("kind 05", x.of(0, 0), 5);
        CHECK.due("honesty", x.of(0, 1), 12);
        CHECK.due("pieces", x.of(0, 2), 30);
        CHECK.due("pay", x.of(0, 3), 20);
        CHECK.due("no blanks where none are needed", Check.read(x, "gold;one0 7 9 3;one1 1 1 1;hands0 1;lie0 2;"), 5);
        CHECK.due("honesty behind a lie", x.of(0, 1), 5);
        CHECK.due("who lied", x.of(0, 4), 1);
        CHECK.due("hands", x.of(0, 5), 2);
        CHECK.due("the text stays", x.count(6) > 0);
        CHECK.due("those alone", Check.read(x, "gold;one 0 1 1 1;one 0 1 1 1;one 0 1 1 1;hands 0 1 2 1;hands 0 2;hands 1 0;hands 1;"), 8);
        CHECK.due("the last told", x.of(0, 5), 4);
        CHECK.due("none any more", x.of(1, 5), 0);
        CHECK.due("two lies", Check.read(x, "gold;one 3 9 1 1;lie 0 1;lie 0 3;"), 4);
        CHECK.due("honesty behind both", x.of(0, 1), 1);
        CHECK.due("one that comes behind a lie", Check.read(x, "gold;one 0 9 1 1;lie 0 1;one 0 9 1 1;"), 4);
        CHECK.due("six", Check.read(x, "gold;one 0 0 0 0;one 0 0 0 0;one 0 0 0 0;one 0 0 0 0;one 0 0 0 0;one 0 0 0 0;"), 7);
        CHECK.due("six are there", x.count(0), 6);
    }

    private static void readReplaces() {
        HonestGold x = Check.told("gold;one 0 7 9 3;one 0 7 9 3;hands 0 1;");
        x.image(1);
        x.winds(999, 5);
        x.day();
        x.note(0, 1, 1, 1);
        x.lie(7, 7);
        CHECK.due("a fault", Check.read(x, "gold;one 0 1 1 1;;"), -27);
        CHECK.due("all stays: people", x.count(0), 2);
        CHECK.due("all stays: the day", x.count(1), 1);
        CHECK.due("all stays: notes", x.count(4), 1);
        CHECK.due("all stays: steps", x.count(5), 1);
        CHECK.due("a fault is not BAD", x.status(0), 1);
        CHECK.due("read", Check.read(x, "gold;one 0 1 1 1;lie 0 1;"), 3);
        CHECK.due("people", x.count(0), 1);
        CHECK.due("the day", x.count(1), 0);
        CHECK.due("who lied", x.count(3), 1);
        CHECK.due("notes", x.count(4), 0);
        CHECK.due("steps, also of the lie read", x.count(5), 0);
        CHECK.due("the fraction", x.part(0), 9);
        CHECK.due("status", x.status(0), 1);
        x.one(0, 0, 0, 0);
        CHECK.due("no old hands", x.of(1, 5), 0);
        CHECK.due("images", x.from(1), 1);
        CHECK.due("people of the image", x.count(0), 2);
    }
}
