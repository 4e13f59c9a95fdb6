/** Promises 13 to 19: weighs, all, when, bag, debt, hire, shelves. */
public final class WeighingTest {
    private static final Check CHECK = new Check();
    private static final String SIX =
        "gold;one 0 7 3 5;one 1 7 3 5;one 2 7 3 5;one 3 7 3 5;one 4 7 3 5;one 5 7 3 5;";

    public static void main(String[] args) {
        weighs();
        all();
        when();
        bag();
        bagRows();
        debt();
        hire();
        shelves();
        CHECK.end();
    }

    private static void weighs() {
        HonestGold x = Check.told(SIX);
        int[] three = {21, 36, 10, 24, 0, 24};
        int[] most = {693, 1188, 346, 792, 0, 60};
        for (int p = 0; p < 6; p++) {
            CHECK.due("0 weigh", x.weighs(p, 0), 0);
            CHECK.due("3 weigh with kind " + p, x.weighs(p, 3), three[p]);
            CHECK.due("99 weigh with kind " + p, x.weighs(p, 99), most[p]);
            CHECK.due("100", x.weighs(p, 100), HonestGold.BAD);
            CHECK.due("-1", x.weighs(p, -1), HonestGold.BAD);
        }
        CHECK.due("not there", x.weighs(6, 1), HonestGold.BAD);
        CHECK.due("below", x.weighs(-1, 1), HonestGold.BAD);
        int[] minister = {0, 12, 13, 0, 16, 18, 0, 18};
        for (int d = 0; d < minister.length; d++) {
            CHECK.due("the minister on day " + d, x.weighs(4, 3), minister[d]);
            x.day();
        }
        CHECK.due("the child as ever", x.weighs(1, 3), 36);
    }

    private static void all() {
        HonestGold x = Check.told(SIX);
        CHECK.due("all on day 0", x.all(), 21 + 36 + 10 + 24 + 24);
        x.day();
        CHECK.due("all on day 1", x.all(), 24 + 36 + 12 + 27 + 12 + 27);
        CHECK.due("all of nobody", new HonestGold().all(), 0);
    }

    private static void when() {
        HonestGold x = Check.told("gold;one 0 3 10 1;one 4 12 10 1;one 5 0 30 1;one 1 0 0 0;one 2 0 30 0;");
        CHECK.due("now", x.when(0, 30), 0);
        CHECK.due("tomorrow", x.when(0, 31), 1);
        CHECK.due("at last", x.when(0, 120), 9);
        CHECK.due("never", x.when(0, 121), HonestGold.NONE);
        x.lie(0, 1);
        CHECK.due("one night later", x.when(0, 120), 11);
        CHECK.due("not now", x.when(0, 21), 2);
        CHECK.due("now", x.when(0, 20), 0);
        CHECK.due("the minister, 0 or more", x.when(1, 0), 0);
        CHECK.due("the minister tomorrow", x.when(1, 60), 1);
        x.day();
        x.day();
        CHECK.due("the minister on day 2", x.when(1, 60), 0);
        x.lie(1, 4);
        CHECK.due("behind a lie: 50 on day 2, 0 on day 3, 55 on day 4, 60 on day 5", x.when(1, 51), 2);
        CHECK.due("behind a lie: 50 on day 2, 0 on day 3, 55 on day 4, 60 on day 5", x.when(1, 56), 3);
        x.undo();
        x.undo();
        x.undo();
        CHECK.due("the banker", x.when(2, 60), 1);
        CHECK.due("the banker never", x.when(2, 61), HonestGold.NONE);
        CHECK.due("a child without gold", x.when(3, 1), HonestGold.NONE);
        CHECK.due("w -1", x.when(0, -1), HonestGold.BAD);
        CHECK.due("w 1000", x.when(0, 1000), HonestGold.BAD);
        CHECK.due("w 999", x.when(0, 999), HonestGold.NONE);
        CHECK.due("not there", x.when(5, 1), HonestGold.BAD);
        CHECK.due("nothing is changed", x.count(1), 0);
        for (int d = 0; d < 999; d++) {
            x.day();
        }
        CHECK.due("on day 999 the minister weighs nothing", x.of(1, 6), 0);
        CHECK.due("beyond day 999", x.when(1, 60), 1);
    }

    private static void bag() {
        HonestGold x = Check.told("gold;one 0 9 1 1;one 0 1 1 1;one 0 5 1 1;one 0 6 1 1;one 0 8 1 1;hands 0 1 2;hands 1 4;hands 2 3;hands 3 4;");
        CHECK.due("the heavier way is the longer one", x.bag(0, 4, 2, -1), 10);
        int[] row = {0, 2, 3, 4};
        for (int i = 0; i < row.length; i++) {
            CHECK.due("hand " + i, x.bag(0, 4, 2, i), row[i]);
        }
        CHECK.due("not so many", x.bag(0, 4, 2, 4), -5);
        CHECK.due("nor so many", x.bag(0, 4, 2, Integer.MAX_VALUE), -5);
        CHECK.due("n 0: all ways weigh alike, the shorter one", x.bag(0, 4, 0, 1), 1);
        CHECK.due("and weigh nothing", x.bag(0, 4, 0, -1), 0);
        CHECK.due("one way", x.bag(4, 0, 2, -1), HonestGold.NONE);
        CHECK.due("whatever i is", x.bag(4, 0, 2, 77), HonestGold.NONE);
        CHECK.due("the bag weighs with q, too", x.bag(0, 1, 3, -1), 3);
        CHECK.due("and with p", x.bag(1, 4, 3, -1), 3);
        int bad = x.status(0);
        CHECK.due("alike", x.bag(0, 0, 2, 0), -10);
        CHECK.due("n 100", x.bag(0, 4, 100, 0), -10);
        CHECK.due("n -1", x.bag(0, 4, -1, 0), -10);
        CHECK.due("i -2", x.bag(0, 4, 2, -2), -10);
        CHECK.due("i -2 with no way", x.bag(4, 0, 2, -2), -10);
        CHECK.due("p not there", x.bag(5, 0, 2, 0), -10);
        CHECK.due("q not there", x.bag(0, 5, 2, 0), -10);
        CHECK.due("all of these are BAD", x.status(0), bad + 7);
    }

    private static void bagRows() {
        HonestGold x = Check.told("gold;one 0 9 1 1;one 0 9 1 1;one 0 9 1 1;one 0 9 1 1;one 0 9 1 1;one 0 9 1 1;"
            + "hands 0 3 2;hands 3 1;hands 2 4;hands 4 5;hands 1 5;");
        CHECK.due("of rows of like length the first", x.bag(0, 5, 1, 1), 2);
        CHECK.due("which goes on", x.bag(0, 5, 1, 2), 4);
        CHECK.due("to q", x.bag(0, 5, 1, 3), 5);
        x.hands(2, 4, 0);
        CHECK.due("a dead end is not the first", x.bag(0, 5, 1, 1), 3);
        x.hands(0, 5, 1);
        CHECK.due("fewest hands", x.bag(0, 5, 1, 1), 5);
        CHECK.due("two of them", x.bag(0, 5, 1, 2), -5);
        HonestGold back = Check.told("gold;one 0 2 1 1;one 0 9 1 1;one 0 9 1 1;hands 2 0;hands 0 1;");
        CHECK.due("through 0, the lightest", back.bag(2, 1, 5, -1), 10);
        CHECK.due("through 0", back.bag(2, 1, 5, 1), 0);
        CHECK.due("to 0", back.bag(2, 0, 5, 1), 0);
        HonestGold y = Check.told("gold;one 0 9 1 1;one 0 9 1 1;one 0 9 1 1;one 0 9 1 1;one 0 9 1 1;one 0 9 1 1;"
            + "hands 0 1;hands 1 2;hands 2 3;hands 3 4;hands 4 5;");
        CHECK.due("through all hands", y.bag(0, 5, 1, 5), 5);
        CHECK.due("weight", y.bag(0, 5, 1, -1), 9);
    }

    private static void debt() {
        HonestGold x = Check.told("gold;one 0 7 3 5;one 2 1 3 5;one 5 4 3 5;one 4 9 3 5;one 0 0 0 0;");
        CHECK.due("nothing", x.debt(0, 0), 0);
        CHECK.due("one", x.debt(0, 1), 1);
        CHECK.due("one", x.debt(0, 7), 1);
        CHECK.due("two", x.debt(0, 8), 2);
        CHECK.due("99", x.debt(0, 693), 99);
        CHECK.due("none", x.debt(0, 694), HonestGold.NONE);
        CHECK.due("half", x.debt(1, 1), 2);
        CHECK.due("half", x.debt(1, 49), 98);
        CHECK.due("none of half", x.debt(1, 50), HonestGold.NONE);
        CHECK.due("the banker", x.debt(2, 60), 12);
        CHECK.due("none with the banker", x.debt(2, 61), HonestGold.NONE);
        CHECK.due("the minister on day 0", x.debt(3, 1), HonestGold.NONE);
        CHECK.due("nothing by none", x.debt(4, 0), 0);
        CHECK.due("none by 0", x.debt(4, 1), HonestGold.NONE);
        CHECK.due("w 1000", x.debt(0, 1000), HonestGold.BAD);
        CHECK.due("w -1", x.debt(0, -1), HonestGold.BAD);
        CHECK.due("not there", x.debt(5, 1), HonestGold.BAD);
    }

    private static void hire() {
        HonestGold x = Check.told("gold;one 0 4 0 4;one 0 5 0 5;one 0 3 0 3;one 0 9 0 9;one 0 0 0 0;");
        CHECK.due("for nothing nobody, though one is free", x.hire(0, 9, 0), 0);
        CHECK.due("9 by 1+0 or 3: the least bits", x.hire(9, 1, 0), 3);
        CHECK.due("how much", x.hire(9, 1, 1), 9);
        CHECK.due("8", x.hire(8, 2, 0), 6);
        CHECK.due("how much", x.hire(8, 2, 1), 16);
        CHECK.due("all who weigh", x.hire(120, 99, 0), 15);
        CHECK.due("how much", x.hire(120, 99, 1), 21 * 99);
        CHECK.due("no pieces weigh nothing", x.hire(120, 0, 0), 0);
        CHECK.due("b -1", x.hire(-1, 0, 0), HonestGold.BAD);
        CHECK.due("b 121", x.hire(121, 0, 0), HonestGold.BAD);
        CHECK.due("n -1", x.hire(0, -1, 0), HonestGold.BAD);
        CHECK.due("n 100", x.hire(0, 100, 0), HonestGold.BAD);
        CHECK.due("what -1", x.hire(0, 0, -1), HonestGold.BAD);
        CHECK.due("what 2", x.hire(0, 0, 2), HonestGold.BAD);
        CHECK.due("nobody is there", new HonestGold().hire(9, 9, 0), 0);
        CHECK.due("nobody is there", new HonestGold().hire(9, 9, 1), 0);
    }

    private static void shelves() {
        HonestGold x = Check.told("gold;one 0 10 0 0;one 0 2 0 0;one 0 5 0 0;");
        CHECK.due("1, 2, 3 pieces with 10, 2, 5: 10, 6, 10", x.shelves(1, 1, -1), 6);
        CHECK.due("the first way", x.shelves(1, 1, 0), 0);
        CHECK.due("the first way", x.shelves(1, 1, 1), 2);
        CHECK.due("the first way", x.shelves(1, 1, 2), 1);
        HonestGold y = Check.told("gold;one 0 9 0 0;one 0 9 0 0;one 0 1 0 0;");
        CHECK.due("7 pieces with the false one", y.shelves(1, 3, -1), 7);
        CHECK.due("of like ways the first", y.shelves(1, 3, 0), 0);
        CHECK.due("of like ways the first", y.shelves(1, 3, 1), 1);
        CHECK.due("of like ways the first", y.shelves(1, 3, 2), 2);
        HonestGold z = Check.told("gold;one 0 1 0 0;one 0 9 0 0;one 0 12 0 0;");
        CHECK.due("by rows of people, not of bags", z.shelves(1, 3, 0), 2);
        CHECK.due("by rows of people, not of bags", z.shelves(1, 3, 1), 0);
        CHECK.due("by rows of people, not of bags", z.shelves(1, 3, 2), 1);
        CHECK.due("bags alike: as they stand", z.shelves(4, 0, 0), 0);
        CHECK.due("bags alike: as they stand", z.shelves(4, 0, 2), 2);
        CHECK.due("how much", z.shelves(20, 9, -1), 38);
        CHECK.due("an empty bag", z.shelves(0, 9, -1), 0);
        CHECK.due("as they stand", z.shelves(0, 9, 1), 1);
        CHECK.due("nobody is there", new HonestGold().shelves(1, 1, -1), 0);
        int bad = x.status(0);
        CHECK.due("a -1", x.shelves(-1, 0, -1), -10);
        CHECK.due("a 21", x.shelves(21, 0, -1), -10);
        CHECK.due("c -1", x.shelves(0, -1, -1), -10);
        CHECK.due("c 10", x.shelves(0, 10, -1), -10);
        CHECK.due("p -2", x.shelves(0, 0, -2), -10);
        CHECK.due("p not there", x.shelves(0, 0, 3), -10);
        CHECK.due("all of these are BAD", x.status(0), bad + 6);
    }
}
