/** The sentences on what is undone, kept and counted at their edges: promises 11 and 27 to 32. */
public final class KeepingEdgesTest {
    private static final Check CHECK = new Check();
    private static final int NO = HonestGold.NO;

    public static void main(String[] args) {
        undoOfNothing();
        undoOfEachStep();
        undoOfSix();
        undoOfSomethingThatChangedNothing();
        undoOfEight();
        undoOfANinth();
        undoOfANinthOfEachStep();
        undoIsNoStep();
        undoBehindOneThatComes();
        undoBehindHandsTold();
        undoLeavesTheRest();
        partsAtFirst();
        imageOfANewObject();
        imagesAreTwo();
        imageIsKeptAnew();
        imageKeepsEverything();
        imageKeepsWhatMayBeUndone();
        imageIsNotChangedByWhatComes();
        imageLeavesTextFractionStatus();
        statusOfEachReason();
        statusOfStatus();
        statusIsLeftByAll();
        countsAtTheirMost();
        countOfBadWhat();
        digestOfTheLeastAndTheMost();
        digestWrapsAround();
        CHECK.end();
    }

    private static HonestGold of(String ones) {
        return Check.told("gold;" + ones);
    }

    /** "NO: none may be." */
    private static void undoOfNothing() {
        HonestGold x = new HonestGold();
        CHECK.due("a new object", x.undo(), NO);
        x.one(0, 9, 9, 0);
        x.note(0, 1, 1, 1);
        x.forget();
        x.type('g');
        x.clear();
        x.winds(1, 1);
        x.image(0);
        x.from(0);
        x.all();
        CHECK.due("what is no step", x.undo(), NO);
        CHECK.due("NO", x.status(1), 2);
    }

    /** "HONESTY, PIECES, who LIED, the DAY as ahead of the last LIE, PIECES handed, DAY gone by"; "the DAY then" */
    private static void undoOfEachStep() {
        HonestGold x = of("one 0 9 9 0;one 1 9 9 0;hands 0 1;");
        x.day();
        long[] ahead = new long[4];
        ahead[0] = x.digest();
        x.lie(1, 2);
        ahead[1] = x.digest();
        x.give(0, 1, 9);
        ahead[2] = x.digest();
        x.day();
        ahead[3] = x.digest();
        x.lie(0, 4);
        int[] days = {1, 1, 1, 2};
        for (int step = 3; step >= 0; step--) {
            CHECK.due("undo " + step + ": the day", x.undo(), days[step]);
            CHECK.due("all as it was", x.digest(), ahead[step]);
        }
        CHECK.due("the first day", x.undo(), 0);
        CHECK.due("no more", x.undo(), NO);
    }

    /** "HONESTY, PIECES, who LIED": of each of six. */
    private static void undoOfSix() {
        HonestGold x = new HonestGold();
        for (int p = 0; p < 6; p++) {
            x.one(0, 5 + p, 20 + p, 0);
        }
        for (int p = 0; p < 6; p++) {
            x.hands(p, (p + 1) % 6, 1);
        }
        x.lie(1, 1);
        x.lie(4, 1);
        for (int p = 0; p < 4; p++) {
            x.give(p, p + 1, 10 + p);
        }
        x.day();
        x.lie(5, 4);
        x.undo();
        x.undo();
        int[] honesty = {5, 5, 7, 8, 8, 10};
        int[] pieces = {10, 20, 21, 22, 37, 25};
        for (int p = 0; p < 6; p++) {
            CHECK.due("honesty of " + p, x.of(p, 1), honesty[p]);
            CHECK.due("pieces of " + p, x.of(p, 2), pieces[p]);
            CHECK.due("whether " + p + " lied", x.of(p, 4), p == 1 || p == 4 ? 1 : 0);
        }
        for (int step = 0; step < 6; step++) {
            CHECK.due("the day", x.undo(), 0);
        }
        for (int p = 0; p < 6; p++) {
            CHECK.due("honesty of " + p, x.of(p, 1), 5 + p);
            CHECK.due("pieces of " + p, x.of(p, 2), 20 + p);
            CHECK.due("whether " + p + " lied", x.of(p, 4), 0);
        }
    }

    /** A LIE at HONESTY 0, a DAY of nobody or of those who are 12: there is a step, and it is undone. */
    private static void undoOfSomethingThatChangedNothing() {
        HonestGold x = of("one 0 0 9 0;");
        x.lie(0, 1);
        x.lie(0, 1);
        CHECK.due("two", x.count(5), 2);
        x.undo();
        CHECK.due("lied still", x.of(0, 4), 1);
        x.undo();
        CHECK.due("did not lie", x.of(0, 4), 0);
        HonestGold y = of("one 0 12 9 0;one 0 1 9 0;");
        y.day();
        y.undo();
        CHECK.due("12 as it was", y.of(0, 1), 12);
        CHECK.due("1 as it was", y.of(1, 1), 1);
        y.lie(1, 4);
        y.undo();
        CHECK.due("1 and not 4", y.of(1, 1), 1);
    }

    /** "(8 at most ..)": eight are undone. */
    private static void undoOfEight() {
        HonestGold x = of("one 0 0 9 0;");
        for (int d = 1; d <= 8; d++) {
            x.day();
            CHECK.due("that may be undone", x.count(5), d);
        }
        for (int d = 7; d >= 0; d--) {
            CHECK.due("the day", x.undo(), d);
            CHECK.due("honesty", x.of(0, 1), d);
            CHECK.due("that may be undone", x.count(5), d);
        }
        CHECK.due("no more", x.undo(), NO);
    }

    /** "(8 at most ..)": of nine the first one stays. */
    private static void undoOfANinth() {
        for (int days = 9; days <= 30; days += 7) {
            HonestGold x = of("one 0 0 9 0;");
            for (int d = 1; d <= days; d++) {
                x.day();
            }
            CHECK.due("that may be undone", x.count(5), 8);
            for (int d = days - 1; d >= days - 8; d--) {
                CHECK.due("the day", x.undo(), d);
                CHECK.due("honesty", x.of(0, 1), Math.min(12, d));
            }
            CHECK.due("a ninth", x.undo(), NO);
            CHECK.due("the day stays", x.count(1), days - 8);
        }
    }

    private static void step(HonestGold x, int which) {
        switch (which) {
            case 0: x.lie(1, 1); break;
            case 1: x.give(0, 1, 1); break;
            default: x.day();
        }
    }

    /** Whatever the first of nine is, it stays, and whatever the ninth is, it is undone. */
    private static void undoOfANinthOfEachStep() {
        for (int first = 0; first < 3; first++) {
            for (int last = 0; last < 3; last++) {
                HonestGold x = of("one 2 12 30 0;one 2 12 30 0;hands 0 1;");
                long[] behind = new long[9];
                step(x, first);
                for (int i = 1; i < 8; i++) {
                    behind[i] = stateOf(x);
                    step(x, (first + last + i) % 3);
                }
                behind[8] = stateOf(x);
                step(x, last);
                for (int i = 8; i >= 1; i--) {
                    x.undo();
                    CHECK.due("as it was behind step " + i, stateOf(x), behind[i]);
                }
                CHECK.due("the first one stays", x.undo(), NO);
                CHECK.due("as it was behind the first one", stateOf(x), behind[1]);
            }
        }
    }

    /** HONESTY, PIECES, who LIED and the DAY of two. */
    private static long stateOf(HonestGold x) {
        long h = x.count(1);
        for (int p = 0; p < 2; p++) {
            h = ((h * 100 + x.of(p, 1)) * 100 + x.of(p, 2)) * 100 + x.of(p, 4);
        }
        return h;
    }

    /** What is undone is not undone again, and leaves room for another one. */
    private static void undoIsNoStep() {
        HonestGold x = of("one 0 9 9 0;");
        x.lie(0, 1);
        x.lie(0, 2);
        x.undo();
        x.lie(0, 4);
        CHECK.due("two", x.count(5), 2);
        x.undo();
        CHECK.due("behind the first one", x.of(0, 1), 8);
        x.undo();
        CHECK.due("ahead of it", x.of(0, 1), 9);
        CHECK.due("no more", x.undo(), NO);
        CHECK.due("it stays so", x.of(0, 1), 9);
    }

    /** "behind one that comes .. none may be" */
    private static void undoBehindOneThatComes() {
        HonestGold x = of("one 0 9 9 0;");
        for (int d = 0; d < 9; d++) {
            x.day();
        }
        x.one(0, 1, 1, 1);
        CHECK.due("none", x.count(5), 0);
        CHECK.due("none may be", x.undo(), NO);
        CHECK.due("the day stays", x.count(1), 9);
        x.lie(1, 1);
        CHECK.due("a new one", x.count(5), 1);
        CHECK.due("is undone", x.undo(), 9);
        CHECK.due("honesty", x.of(1, 1), 1);
    }

    /** "behind .. HANDS told none may be", also if they were so. */
    private static void undoBehindHandsTold() {
        for (int was = 0; was <= 1; was++) {
            for (int is = 0; is <= 1; is++) {
                HonestGold x = of("one 0 9 9 0;one 0 9 9 0;");
                x.hands(0, 1, was);
                x.day();
                CHECK.due("whether one did", x.hands(0, 1, is), was);
                CHECK.due("none", x.count(5), 0);
                CHECK.due("none may be", x.undo(), NO);
                CHECK.due("the day stays", x.count(1), 1);
                CHECK.due("hands", x.of(0, 5), 2 * is);
                x.day();
                CHECK.due("a new one is undone", x.undo(), 1);
                CHECK.due("hands stay", x.of(0, 5), 2 * is);
            }
        }
    }

    /** NOTES, THE TEXT, THE FRACTION, IMAGES and STATUS are as they are behind an UNDO. */
    private static void undoLeavesTheRest() {
        HonestGold x = of("one 0 9 9 0;");
        x.image(1);
        x.day();
        x.note(0, 1, 2, 3);
        x.type('g');
        x.winds(999, 5);
        x.image(0);
        x.one(9, 9, 9, 9);
        CHECK.due("undo", x.undo(), 0);
        CHECK.due("notes", x.count(4), 1);
        CHECK.due("text", x.count(6), 1);
        CHECK.due("above", x.part(0), 9);
        CHECK.due("below", x.part(1), 2);
        CHECK.due("BAD", x.status(0), 1);
        CHECK.due("image 0", x.from(0), 1);
        CHECK.due("its day", x.count(1), 1);
        CHECK.due("image 1", x.from(1), 1);
        CHECK.due("its notes", x.count(4), 0);
    }

    /** "THE FRACTION is 0 by 1 at first"; it is left by all but winds. */
    private static void partsAtFirst() {
        HonestGold x = new HonestGold();
        Twins.type(x, "gold;one 0 1 3 0;");
        x.read();
        x.day();
        x.image(0);
        x.from(0);
        x.gold();
        CHECK.due("above", x.part(0), 0);
        CHECK.due("below", x.part(1), 1);
        x.read();
        x.winds(999, 9);
        CHECK.due("above", x.part(0), 3);
        CHECK.due("below", x.part(1), 10);
        x.gold();
        CHECK.due("above stays", x.part(0), 3);
        CHECK.due("below stays", x.part(1), 10);
        x.winds(1000, 9);
        CHECK.due("refused: above stays", x.part(0), 3);
        CHECK.due("refused: below stays", x.part(1), 10);
        x.winds(999, 9);
        CHECK.due("of nobody: above", x.part(0), 0);
        CHECK.due("of nobody: below", x.part(1), 1);
    }

    /** "An IMAGE is kept: 1": of nobody, too. */
    private static void imageOfANewObject() {
        HonestGold x = new HonestGold();
        long at = x.digest();
        CHECK.due("kept", x.image(1), 1);
        x.one(0, 9, 9, 0);
        x.day();
        x.note(0, 1, 1, 1);
        CHECK.due("from", x.from(1), 1);
        CHECK.due("as it was", x.digest(), at);
        CHECK.due("the other is not kept", x.from(0), NO);
        CHECK.due("the first one comes again", x.one(0, 9, 9, 0), 0);
    }

    /** "IMAGES 0, 1": each by itself. */
    private static void imagesAreTwo() {
        HonestGold x = new HonestGold();
        x.one(0, 1, 1, 1);
        x.image(0);
        x.one(0, 2, 2, 2);
        x.image(1);
        x.gold();
        for (int round = 0; round < 2; round++) {
            x.from(0);
            CHECK.due("image 0", x.count(0), 1);
            x.from(1);
            CHECK.due("image 1", x.count(0), 2);
        }
    }

    private static void imageIsKeptAnew() {
        HonestGold x = new HonestGold();
        for (int people = 1; people <= 6; people++) {
            x.one(0, people, 1, 1);
            x.image(0);
        }
        x.gold();
        x.from(0);
        CHECK.due("the last one", x.count(0), 6);
        x.gold();
        x.image(0);
        x.one(0, 1, 1, 1);
        x.from(0);
        CHECK.due("less than was kept", x.count(0), 0);
    }

    /** "IMAGES 0, 1 keep all but them, THE TEXT, THE FRACTION and STATUS" */
    private static void imageKeepsEverything() {
        HonestGold x = new HonestGold();
        Twins.six(x);
        long at = x.digest();
        x.image(0);
        x.gold();
        x.one(1, 1, 1, 1);
        x.one(2, 2, 2, 2);
        x.hands(0, 1, 1);
        x.lie(0, 1);
        for (int i = 0; i < 6; i++) {
            x.note((i + 1) % 2, 3, 3, 3);
        }
        x.from(0);
        CHECK.due("as it was", x.digest(), at);
        CHECK.due("six are full", x.one(0, 0, 0, 0), HonestGold.FULL);
        CHECK.due("six notes are full", x.note(0, 0, 0, 0), HonestGold.FULL);
        CHECK.due("who lied is not mended", x.of(5, 1), 8);
        x.day();
        CHECK.due("who lied is not mended", x.of(5, 1), 8);
    }

    /** "what may be undone they keep" */
    private static void imageKeepsWhatMayBeUndone() {
        HonestGold x = of("one 0 0 9 0;one 0 12 9 0;hands 1 0;");
        for (int d = 1; d <= 9; d++) {
            x.day();
        }
        x.image(1);
        x.one(0, 1, 1, 1);
        for (int d = 1; d <= 9; d++) {
            x.give(1, 0, 1);
        }
        x.from(1);
        CHECK.due("eight", x.count(5), 8);
        for (int d = 8; d >= 1; d--) {
            CHECK.due("the day", x.undo(), d);
            CHECK.due("honesty", x.of(0, 1), d);
            CHECK.due("pieces", x.of(0, 2), 9);
        }
        CHECK.due("no more", x.undo(), NO);
        x.image(0);
        x.day();
        x.from(0);
        CHECK.due("none in an image of none", x.undo(), NO);
    }

    /** "it goes on from one": and the IMAGE stays as it was kept. */
    private static void imageIsNotChangedByWhatComes() {
        HonestGold x = of("one 0 5 9 0;one 0 5 9 0;hands 0 1;");
        x.lie(0, 1);
        x.image(0);
        long at = x.digest();
        for (int round = 0; round < 3; round++) {
            x.give(0, 1, 3);
            x.day();
            x.note(0, 1, 1, 1);
            x.hands(1, 0, 1);
            x.one(0, 0, 0, 0);
            x.from(0);
            CHECK.due("as it was", x.digest(), at);
            CHECK.due("the lie is undone", x.undo(), 0);
            CHECK.due("honesty", x.of(0, 1), 5);
            x.from(0);
            CHECK.due("as it was", x.digest(), at);
        }
    }

    private static void imageLeavesTextFractionStatus() {
        HonestGold x = of("one 0 5 9 0;");
        x.winds(999, 5);
        x.type('g');
        x.undo();
        x.image(0);
        x.clear();
        x.winds(999, 10);
        x.undo();
        x.one(9, 9, 9, 9);
        x.from(0);
        CHECK.due("text", x.count(6), 0);
        CHECK.due("above", x.part(0), 0);
        CHECK.due("below", x.part(1), 1);
        CHECK.due("NO", x.status(1), 2);
        CHECK.due("BAD", x.status(0), 1);
        x.image(1);
        CHECK.due("an image leaves image 0", x.from(0), 1);
    }

    /** "how many calls were refused as BAD, NO, FULL (each answer told so below is such a one)" */
    private static void statusOfEachReason() {
        HonestGold x = new HonestGold();
        Twins.six(x);
        int[] before = {x.status(0), x.status(1), x.status(2)};
        for (int i = 1; i <= 3; i++) {
            x.bag(0, 0, 0, 0);
            x.shelves(21, 0, -1);
            x.of(0, 7);
            CHECK.due("BAD", x.status(0), before[0] + 3 * i);
            x.give(0, 2, 1);
            x.give(0, 1, 99);
            CHECK.due("NO", x.status(1), before[1] + 2 * i);
            x.one(0, 0, 0, 0);
            x.type(0);
            x.note(0, 0, 0, 0);
            CHECK.due("FULL", x.status(2), before[2] + 3 * i);
        }
    }

    /** "-1: another what (counts as BAD)" */
    private static void statusOfStatus() {
        HonestGold x = new HonestGold();
        int[] others = {-1, 3, Integer.MIN_VALUE, Integer.MAX_VALUE};
        for (int i = 0; i < others.length; i++) {
            CHECK.due("another what", x.status(others[i]), -1);
            CHECK.due("counts as BAD", x.status(0), i + 1);
        }
        CHECK.due("not as NO", x.status(1), 0);
        CHECK.due("not as FULL", x.status(2), 0);
    }

    private static void statusIsLeftByAll() {
        HonestGold x = new HonestGold();
        x.of(0, 0);
        x.undo();
        for (int i = 0; i < 7; i++) {
            x.one(0, 1, 1, 1);
        }
        x.image(0);
        x.gold();
        x.from(0);
        Check.read(x, "gold;");
        x.day();
        x.undo();
        x.forget();
        for (int what = 0; what <= 2; what++) {
            CHECK.due("one of each", x.status(what), 1);
        }
    }

    /** "How many: 0 PEOPLE, 1 the DAY, 2 PIECES, 3 who LIED, 4 NOTES, 5 that may be undone, 6 bytes of THE TEXT" */
    private static void countsAtTheirMost() {
        HonestGold x = new HonestGold();
        for (int p = 0; p < 6; p++) {
            x.one(0, 12, 30, 20);
        }
        Twins.type(x, " ".repeat(150));
        for (int i = 0; i < 6; i++) {
            x.note(i, 1, 1, 1);
        }
        for (int d = 0; d < 100; d++) {
            x.day();
        }
        for (int p = 0; p < 6; p++) {
            x.lie(p, 4);
        }
        int[] due = {6, 100, 180, 6, 6, 8, 150};
        for (int what = 0; what <= 6; what++) {
            CHECK.due("count(" + what + ")", x.count(what), due[what]);
        }
    }

    private static void countOfBadWhat() {
        HonestGold x = new HonestGold();
        int[] others = {-1, 7, Integer.MIN_VALUE, Integer.MAX_VALUE};
        for (int i = 0; i < others.length; i++) {
            CHECK.due("count", x.count(others[i]), HonestGold.BAD);
            CHECK.due("part", x.part(others[i]), HonestGold.BAD);
            CHECK.due("BAD", x.status(0), 2 * i + 2);
        }
    }

    /** "h = 1307; then h = 31 h + v for each v": with nobody and no NOTES, with six of each. */
    private static void digestOfTheLeastAndTheMost() {
        CHECK.due("a new object", new HonestGold().digest(), Check.mix(0, 0, 0, 0, 0, 0, 0, 0, 1));
        HonestGold x = new HonestGold();
        Twins.six(x);
        CHECK.due("six", x.digest(), Check.mix(6, 3, 165, 1, 6, 8, 150,
            0, 12, 28, 20, 0, 2, 1, 10, 28, 19, 0, 4, 2, 10, 27, 18, 0, 8,
            3, 12, 31, 17, 0, 16, 4, 11, 26, 16, 0, 32, 5, 8, 25, 15, 1, 1,
            0, 9, 108, 0, 1, 9, 108, 1, 2, 9, 108, 2, 3, 9, 108, 3, 4, 9, 108, 4, 5, 9, 108, 5, 708, 5));
    }

    /** A long's end is passed without a word: 31 h + v is cut to it. */
    private static void digestWrapsAround() {
        HonestGold x = new HonestGold();
        boolean below = false;
        boolean above = false;
        for (int p = 0; p < 6; p++) {
            x.one(0, p, p, p);
            below |= x.digest() < 0;
            above |= x.digest() > 0;
            long[] v = new long[9 + 6 * (p + 1)];
            v[0] = p + 1;
            for (int q = 0; q <= p; q++) {
                v[2] += q;
                for (int what = 1; what <= 3; what++) {
                    v[7 + 6 * q + what] = q;
                }
            }
            v[v.length - 1] = 1;
            CHECK.due("with " + (p + 1), x.digest(), Check.mix(v));
        }
        CHECK.due("above and below 0", below && above);
    }
}
