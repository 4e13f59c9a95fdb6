/** The sentences on what gold weighs at their edges: promises 13 to 19. */
public final class WeighingEdgesTest {
    private static final Check CHECK = new Check();
    private static final int NONE = HonestGold.NONE;

    public static void main(String[] args) {
        weighsAnyPiecesNotOnesOwn();
        allOfThoseWhoHaveThem();
        whenItIsSoToday();
        whenJustAsMuch();
        whenOneLied();
        whenAMinister();
        whenNever();
        whenItTakesLongest();
        whenBeyondTheLastDay();
        bagOfOneStep();
        bagThroughAllHands();
        bagWithNoWay();
        bagInTheLightestHand();
        bagThatWeighsNothing();
        bagHeavierByTheLongerRow();
        bagByFewestHands();
        bagByRisingHands();
        debtOfNothing();
        debtJustPaid();
        debtNeverPaid();
        hireForJustSoMuch();
        hireForNothing();
        hireTheLeastOfLikeOnes();
        hireAllSix();
        shelvesOfOne();
        shelvesOfSix();
        shelvesOfEmptyBags();
        shelvesOfLikeBags();
        shelvesInTheFirstWay();
        askedForLessBehindMore();
        CHECK.end();
    }

    private static HonestGold of(String ones) {
        return Check.told("gold;" + ones);
    }

    /** "WEIGHS: n PIECES (0 .. 99) in one's hand today", one's own or not. */
    private static void weighsAnyPiecesNotOnesOwn() {
        HonestGold x = of("one 0 12 0 0;one 0 0 30 0;");
        CHECK.due("99 with one who has none", x.weighs(0, 99), 1188);
        CHECK.due("1", x.weighs(0, 1), 12);
        CHECK.due("0", x.weighs(0, 0), 0);
        CHECK.due("99 with one of honesty 0", x.weighs(1, 99), 0);
        x.lie(0, 4);
        CHECK.due("today", x.weighs(0, 99), 792);
    }

    /** "ALL: what all PIECES weigh with those who have them" */
    private static void allOfThoseWhoHaveThem() {
        CHECK.due("nobody", new HonestGold().all(), 0);
        CHECK.due("one without pieces", of("one 1 12 0 0;").all(), 0);
        CHECK.due("one without honesty", of("one 0 0 30 0;").all(), 0);
        HonestGold x = of("one 0 12 30 0;one 1 12 30 0;one 2 12 30 0;one 3 12 30 0;one 4 12 30 0;one 5 12 30 0;");
        CHECK.due("six with the most, day 0", x.all(), 360 + 360 + 180 + 390 + 0 + 60);
        x.day();
        CHECK.due("six with the most, day 1", x.all(), 360 + 360 + 180 + 390 + 180 + 60);
    }

    /** "in how many DAYS (0 .. 60 ..)": 0 is today. */
    private static void whenItIsSoToday() {
        HonestGold x = of("one 0 0 0 0;one 4 12 30 0;one 0 12 30 0;");
        CHECK.due("nothing weighs 0", x.when(0, 0), 0);
        CHECK.due("a minister's nothing weighs 0", x.when(1, 0), 0);
        CHECK.due("just now", x.when(2, 360), 0);
    }

    /** "weigh w (0 .. 999) or more" */
    private static void whenJustAsMuch() {
        HonestGold x = of("one 0 4 10 0;");
        for (int h = 4; h <= 12; h++) {
            CHECK.due("just as much", x.when(0, 10 * h), h - 4);
            CHECK.due("one more", x.when(0, 10 * h + 1), h == 12 ? NONE : h - 3);
        }
    }

    /** "nobody LYING any more": who LIED today is mended one DAY later. */
    private static void whenOneLied() {
        HonestGold x = of("one 0 5 10 0;one 0 5 10 0;lie 0 1;");
        CHECK.due("now", x.when(0, 40), 0);
        CHECK.due("not tomorrow", x.when(0, 41), 2);
        CHECK.due("at last", x.when(0, 120), 9);
        CHECK.due("the other did not lie", x.when(1, 51), 1);
        x.day();
        CHECK.due("a day on", x.when(0, 41), 1);
        CHECK.due("a day on", x.when(0, 120), 8);
    }

    /** A minister's days are looked at by their numbers. */
    private static void whenAMinister() {
        HonestGold x = of("one 4 12 10 0;");
        int[] due = {1, 0, 0, 1, 0, 0, 1};
        for (int day = 0; day < due.length; day++) {
            CHECK.due("on day " + day, x.when(0, 60), due[day]);
            x.day();
        }
        HonestGold low = of("one 4 10 10 0;");
        CHECK.due("day 1: 55", low.when(0, 55), 1);
        CHECK.due("day 2: 60", low.when(0, 56), 2);
        HonestGold skipped = of("one 4 9 10 0;");
        CHECK.due("day 3 is 0, day 4: 60", skipped.when(0, 60), 4);
    }

    /** "none" */
    private static void whenNever() {
        HonestGold x = of("one 0 0 30 0;one 1 0 30 0;one 2 0 30 0;one 3 0 30 0;one 4 0 30 0;one 5 0 30 0;");
        int[] most = {360, 360, 180, 390, 180, 60};
        int[] days = {12, 0, 12, 12, 13, 1};
        for (int p = 0; p < 6; p++) {
            CHECK.due("the most with kind " + p, x.when(p, most[p]), days[p]);
            CHECK.due("more than that", x.when(p, most[p] + 1), NONE);
            CHECK.due("999", x.when(p, 999), NONE);
        }
    }

    /** Of the 60 DAYS no one needs more than these: 13 behind a LIE, and one more for a minister's DAY. */
    private static void whenItTakesLongest() {
        HonestGold x = of("one 4 0 30 0;one 0 0 30 0;");
        x.day();
        x.day();
        x.lie(0, 4);
        x.lie(1, 4);
        CHECK.due("day 15 is a minister's 0", x.when(0, 180), 14);
        CHECK.due("a plain one", x.when(1, 331), 13);
    }

    /** "(.. beyond DAY 999, too)": the days are told on there; day 999 lies behind the 512 calls promised. */
    private static void whenBeyondTheLastDay() {
        HonestGold x = of("one 4 12 10 0;one 0 0 10 0;");
        for (int d = 0; d < 999; d++) {
            x.day();
        }
        CHECK.due("day 999 leaves 0 by 3", x.of(0, 6), 0);
        CHECK.due("one day beyond", x.when(0, 60), 1);
        x.lie(1, 4);
        x.lie(1, 4);
        x.lie(1, 4);
        CHECK.due("thirteen days beyond", x.when(1, 120), 13);
    }

    /** "the i-th hand .. (p the first ..)"; "-5: not so many" */
    private static void bagOfOneStep() {
        HonestGold x = of("one 0 9 0 0;one 0 5 0 0;hands 1 0;");
        CHECK.due("how much", x.bag(1, 0, 9, NONE), 45);
        CHECK.due("hand 0", x.bag(1, 0, 9, 0), 1);
        CHECK.due("hand 1", x.bag(1, 0, 9, 1), 0);
        CHECK.due("hand 2", x.bag(1, 0, 9, 2), -5);
        CHECK.due("hand 99", x.bag(1, 0, 9, 99), -5);
        CHECK.due("the greatest i", x.bag(1, 0, 9, Integer.MAX_VALUE), -5);
        CHECK.due("99 pieces", x.bag(1, 0, 99, NONE), 495);
    }

    /** Six hands are the most. */
    private static void bagThroughAllHands() {
        HonestGold x = of("one 0 9 0 0;one 0 8 0 0;one 0 7 0 0;one 0 6 0 0;one 0 5 0 0;one 0 4 0 0;"
            + "hands 3 5;hands 5 0;hands 0 4;hands 4 1;hands 1 2;");
        int[] row = {3, 5, 0, 4, 1, 2};
        CHECK.due("how much", x.bag(3, 2, 9, NONE), 36);
        for (int i = 0; i < 6; i++) {
            CHECK.due("hand " + i, x.bag(3, 2, 9, i), row[i]);
        }
        CHECK.due("hand 6", x.bag(3, 2, 9, 6), -5);
    }

    /** "none: no way"; "NONE: none (whatever i is)" */
    private static void bagWithNoWay() {
        HonestGold x = of("one 0 9 0 0;one 0 9 0 0;one 0 9 0 0;hands 0 1;hands 2 1;");
        for (int i : new int[] {NONE, 0, 1, 5, 6, Integer.MAX_VALUE}) {
            CHECK.due("one way alone, i " + i, x.bag(1, 0, 1, i), NONE);
            CHECK.due("a dead end, i " + i, x.bag(0, 2, 1, i), NONE);
            CHECK.due("no hands, i " + i, x.bag(1, 2, 0, i), NONE);
        }
        x.hands(1, 2, 1);
        CHECK.due("then there is one", x.bag(0, 2, 1, 2), 2);
        x.hands(0, 1, 0);
        CHECK.due("and none again", x.bag(0, 2, 1, NONE), NONE);
    }

    /** "it weighs what it does in the lightest of all the hands, p, q, too, today" */
    private static void bagInTheLightestHand() {
        int[][] honesty = {{2, 9, 9}, {9, 2, 9}, {9, 9, 2}};
        for (int[] h : honesty) {
            HonestGold x = new HonestGold();
            for (int p = 0; p < 3; p++) {
                x.one(0, h[p], 0, 0);
            }
            x.hands(0, 1, 1);
            x.hands(1, 2, 1);
            CHECK.due("the lightest", x.bag(0, 2, 10, NONE), 20);
            x.day();
            CHECK.due("today", x.bag(0, 2, 10, NONE), 30);
        }
    }

    /** 0 is a weight, and no "none". */
    private static void bagThatWeighsNothing() {
        HonestGold x = of("one 0 9 0 0;one 4 9 0 0;one 0 9 0 0;one 0 0 0 0;hands 0 1 2;hands 1 2;hands 2 3;");
        CHECK.due("with a minister on day 0", x.bag(0, 1, 9, NONE), 0);
        CHECK.due("with one of honesty 0", x.bag(0, 3, 9, NONE), 0);
        CHECK.due("by the shortest row", x.bag(0, 3, 9, 1), 2);
        CHECK.due("no pieces", x.bag(0, 2, 0, NONE), 0);
        CHECK.due("no pieces, hand 1", x.bag(0, 2, 0, 1), 2);
    }

    /** "the most it can weigh" comes ahead of how many hands there are. */
    private static void bagHeavierByTheLongerRow() {
        HonestGold x = of("one 0 9 0 0;one 0 5 0 0;one 0 6 0 0;one 0 6 0 0;one 0 9 0 0;hands 0 1 3;hands 1 4;hands 3 2;hands 2 4;");
        CHECK.due("how much", x.bag(0, 4, 1, NONE), 6);
        int[] row = {0, 3, 2, 4, -5};
        for (int i = 0; i < row.length; i++) {
            CHECK.due("hand " + i, x.bag(0, 4, 1, i), row[i]);
        }
        x.lie(2, 1);
        CHECK.due("alike then: by fewest hands", x.bag(0, 4, 1, 1), 1);
        CHECK.due("how much", x.bag(0, 4, 1, NONE), 5);
        x.lie(2, 1);
        CHECK.due("lighter then", x.bag(0, 4, 1, 1), 1);
    }

    /** "(.. fewest hands, then rising)" */
    private static void bagByFewestHands() {
        HonestGold x = of("one 0 9 0 0;one 0 9 0 0;one 0 9 0 0;one 0 9 0 0;hands 0 1 2;hands 1 2;hands 2 3;");
        CHECK.due("not through 1, though it is first", x.bag(0, 3, 1, 1), 2);
        CHECK.due("to q", x.bag(0, 3, 1, 2), 3);
        CHECK.due("three hands", x.bag(0, 3, 1, 3), -5);
        x.hands(0, 3, 1);
        CHECK.due("straight", x.bag(0, 3, 1, 1), 3);
        CHECK.due("two hands", x.bag(0, 3, 1, 2), -5);
    }

    private static void bagByRisingHands() {
        HonestGold x = of("one 0 9 0 0;one 0 9 0 0;one 0 9 0 0;one 0 9 0 0;one 0 9 0 0;one 0 9 0 0;"
            + "hands 0 2 1;hands 1 4;hands 2 3;hands 3 5;hands 4 5;");
        CHECK.due("0 1 4 5 is ahead of 0 2 3 5", x.bag(0, 5, 1, 1), 1);
        CHECK.due("0 1 4 5 is ahead of 0 2 3 5", x.bag(0, 5, 1, 2), 4);
        x.hands(1, 3, 1);
        CHECK.due("0 1 3 5 is ahead of 0 1 4 5", x.bag(0, 5, 1, 2), 3);
        x.lie(1, 1);
        CHECK.due("0 2 3 5 is heavier", x.bag(0, 5, 1, 1), 2);
        HonestGold back = of("one 0 9 0 0;one 0 9 0 0;one 0 9 0 0;one 0 9 0 0;one 0 9 0 0;hands 4 3 2;hands 3 0;hands 2 1 0;");
        CHECK.due("4 2 0 is ahead of 4 3 0", back.bag(4, 0, 1, 1), 2);
    }

    /** "DEBT: the fewest PIECES (0 .. 99) that weigh w (0 .. 999) or more": 0 weigh 0. */
    private static void debtOfNothing() {
        HonestGold x = of("one 0 0 0 0;one 1 0 0 0;one 2 0 0 0;one 3 0 0 0;one 4 0 0 0;one 5 0 0 0;");
        for (int p = 0; p < 6; p++) {
            CHECK.due("0 with kind " + p, x.debt(p, 0), 0);
        }
    }

    private static void debtJustPaid() {
        HonestGold x = of("one 0 10 0 0;one 1 0 0 0;one 2 1 0 0;one 3 10 0 0;one 5 0 0 0;one 2 3 0 0;");
        int[][] due = {{0, 10, 1}, {0, 11, 2}, {0, 989, 99}, {0, 990, 99}, {1, 999, 84}, {1, 996, 83}, {1, 12, 1},
            {2, 1, 2}, {2, 49, 98}, {3, 999, 91}, {3, 11, 1}, {3, 12, 2}, {4, 59, 59}, {4, 60, 60}, {5, 1, 1}, {5, 2, 2}};
        for (int[] d : due) {
            CHECK.due(d[1] + " by " + d[0], x.debt(d[0], d[1]), d[2]);
        }
    }

    /** "none" */
    private static void debtNeverPaid() {
        HonestGold x = of("one 0 10 30 0;one 0 0 30 0;one 2 1 30 0;one 4 12 30 0;one 5 12 30 0;one 3 8 30 0;");
        int[][] least = {{0, 991}, {1, 1}, {2, 50}, {3, 1}, {4, 61}, {5, 892}};
        for (int[] d : least) {
            CHECK.due(d[1] + " by " + d[0], x.debt(d[0], d[1]), NONE);
            CHECK.due("999 by " + d[0], x.debt(d[0], 999), NONE);
            CHECK.due("one less by " + d[0], x.debt(d[0], d[1] - 1) != NONE);
        }
        x.day();
        CHECK.due("a minister pays on day 1", x.debt(3, 1), 1);
    }

    /** "those (bits) whose PAY is b or less together" */
    private static void hireForJustSoMuch() {
        HonestGold x = of("one 0 9 0 7;one 0 8 0 20;one 0 1 0 1;");
        int[][] due = {{0, 0, 0}, {1, 4, 1}, {6, 4, 1}, {7, 1, 9}, {8, 5, 10}, {20, 5, 10}, {26, 5, 10}, {27, 3, 17},
            {28, 7, 18}, {120, 7, 18}};
        for (int[] d : due) {
            CHECK.due("who for " + d[0], x.hire(d[0], 1, 0), d[1]);
            CHECK.due("how much for " + d[0], x.hire(d[0], 1, 1), d[2]);
        }
    }

    private static void hireForNothing() {
        HonestGold x = of("one 0 9 0 0;one 0 9 0 1;one 0 0 0 0;one 3 0 0 0;");
        CHECK.due("who asks for no pay and weighs", x.hire(0, 1, 0), 1 + 8);
        CHECK.due("how much", x.hire(0, 1, 1), 10);
        CHECK.due("no pieces weigh nothing: nobody", x.hire(120, 0, 0), 0);
        CHECK.due("how much", x.hire(120, 0, 1), 0);
        CHECK.due("nobody is there", new HonestGold().hire(120, 99, 0), 0);
        CHECK.due("nobody is there", new HonestGold().hire(120, 99, 1), 0);
    }

    /** "of like ones the least" */
    private static void hireTheLeastOfLikeOnes() {
        HonestGold x = of("one 0 5 0 5;one 0 5 0 5;one 0 5 0 5;one 0 10 0 10;one 0 0 0 0;");
        CHECK.due("one of three", x.hire(5, 1, 0), 1);
        CHECK.due("two of three, not the fourth", x.hire(10, 1, 0), 3);
        CHECK.due("three of three, not one and the fourth", x.hire(15, 1, 0), 7);
        CHECK.due("two and the fourth", x.hire(20, 1, 0), 11);
        CHECK.due("who weighs nothing is not hired", x.hire(120, 1, 0), 15);
        HonestGold late = of("one 0 1 0 10;one 0 5 0 5;one 0 5 0 5;one 0 9 0 10;");
        CHECK.due("10 is more than 9", late.hire(10, 1, 0), 6);
        late.lie(1, 1);
        CHECK.due("9 and 9: by bits, not by how many, 6 is less than 8", late.hire(10, 1, 0), 6);
        late.lie(1, 1);
        CHECK.due("9 is more than 8", late.hire(10, 1, 0), 8);
    }

    /** "PAY b (0 .. 120)": as much as six can ask for. */
    private static void hireAllSix() {
        HonestGold x = of("one 3 12 0 20;one 3 12 0 20;one 3 12 0 20;one 3 12 0 20;one 3 12 0 20;one 3 12 0 20;");
        CHECK.due("all for 120", x.hire(120, 99, 0), 63);
        CHECK.due("the most there is", x.hire(120, 99, 1), 6 * 1287);
        CHECK.due("five for 119", x.hire(119, 99, 0), 31);
        CHECK.due("how much", x.hire(119, 99, 1), 5 * 1287);
        CHECK.due("one for 20", x.hire(20, 1, 0), 1);
        CHECK.due("none for 19", x.hire(19, 99, 0), 0);
        CHECK.due("nothing for 19", x.hire(19, 99, 1), 0);
    }

    /** "as many bags as there are PEOPLE": one of a PIECES alone, whatever c is. */
    private static void shelvesOfOne() {
        HonestGold x = of("one 0 7 0 0;");
        CHECK.due("how much", x.shelves(20, 9, NONE), 140);
        CHECK.due("the bag", x.shelves(20, 9, 0), 0);
        CHECK.due("how much of nothing", x.shelves(0, 9, NONE), 0);
        CHECK.due("nobody is there", new HonestGold().shelves(20, 9, NONE), 0);
    }

    /** "of a, a + c, a + 2 c, ... PIECES": the 6th has a + 5 c. */
    private static void shelvesOfSix() {
        HonestGold x = of("one 0 1 0 0;one 0 2 0 0;one 0 3 0 0;one 0 4 0 0;one 0 5 0 0;one 0 6 0 0;");
        CHECK.due("65 with honesty 1", x.shelves(20, 9, NONE), 65);
        int[] way = {5, 2, 1, 0, 3, 4};
        for (int p = 0; p < 6; p++) {
            CHECK.due("the bag of " + p, x.shelves(20, 9, p), way[p]);
        }
        HonestGold back = of("one 0 6 0 0;one 0 5 0 0;one 0 4 0 0;one 0 3 0 0;one 0 2 0 0;one 0 1 0 0;");
        CHECK.due("6 with honesty 1", back.shelves(1, 1, NONE), 6);
        for (int p = 0; p < 6; p++) {
            CHECK.due("the bag of " + p, back.shelves(1, 1, p), p);
        }
    }

    /** a = 0: the first bag is empty and weighs nothing with anybody. */
    private static void shelvesOfEmptyBags() {
        HonestGold x = of("one 0 0 0 0;one 0 12 0 0;one 1 0 0 0;one 3 0 0 0;");
        for (int c = 0; c <= 9; c += 9) {
            CHECK.due("the lightest is empty", x.shelves(0, c, NONE), 0);
            for (int p = 0; p < 4; p++) {
                CHECK.due("all ways are alike: the first", x.shelves(0, c, p), p);
            }
        }
    }

    /** c = 0: all bags are alike. */
    private static void shelvesOfLikeBags() {
        HonestGold x = of("one 0 9 0 0;one 0 3 0 0;one 1 0 0 0;");
        CHECK.due("the lightest hand", x.shelves(20, 0, NONE), 60);
        for (int p = 0; p < 3; p++) {
            CHECK.due("the first way", x.shelves(20, 0, p), p);
        }
    }

    /** "the bag of one in the first such way (rising; 0 the first bag)" */
    private static void shelvesInTheFirstWay() {
        HonestGold x = of("one 0 3 0 0;one 0 9 0 0;one 0 5 0 0;");
        CHECK.due("3 by 7, 9 by 1, 5 by 4: 9", x.shelves(1, 3, NONE), 9);
        int[] way = {1, 0, 2};
        for (int p = 0; p < 3; p++) {
            CHECK.due("3 by 4, 9 by 1, 5 by 7 weigh 9, too, and come first", x.shelves(1, 3, p), way[p]);
        }
        HonestGold minister = of("one 0 9 0 0;one 4 9 0 0;one 0 1 0 0;");
        CHECK.due("a minister's weighs nothing on day 0", minister.shelves(1, 3, NONE), 0);
        CHECK.due("the first way", minister.shelves(1, 3, 1), 1);
        minister.day();
        CHECK.due("10 by 1, 5 by 4 (20), 2 by 7: 10 on day 1", minister.shelves(1, 3, NONE), 10);
    }

    /** What was asked ahead leaves nothing behind: of fewer pieces, of fewer people. */
    private static void askedForLessBehindMore() {
        HonestGold x = of("one 0 10 0 1;one 0 2 0 1;one 0 5 0 1;one 0 12 0 1;one 0 12 0 1;one 0 12 0 1;hands 0 3;hands 3 1;");
        x.image(0);
        for (int round = 0; round < 2; round++) {
            x.from(0);
            x.shelves(20, 9, NONE);
            x.bag(0, 1, 99, NONE);
            x.hire(120, 99, 0);
            CHECK.due("shelves", x.shelves(1, 1, NONE), 12);
            CHECK.due("bag", x.bag(0, 1, 1, NONE), 2);
            CHECK.due("bag's hand", x.bag(0, 1, 1, 1), 3);
            CHECK.due("hire", x.hire(2, 1, 1), 24);
            CHECK.due("read", Check.read(x, "gold;one 0 10 0 0;one 0 2 0 0;one 0 5 0 0;"), 4);
            CHECK.due("1, 2, 3 with three", x.shelves(1, 1, NONE), 6);
            CHECK.due("the bag of 1", x.shelves(1, 1, 1), 2);
            CHECK.due("no hands", x.bag(0, 1, 1, 0), NONE);
            CHECK.due("three for hire", x.hire(120, 1, 0), 7);
        }
        HonestGold like = of("one 0 1 0 0;one 0 1 0 0;one 0 1 0 0;");
        CHECK.due("20 is the lightest of 20, 29, 38", like.shelves(20, 9, NONE), 20);
        CHECK.due("1 is the lightest of 1, 2, 3", like.shelves(1, 1, NONE), 1);
        for (int p = 0; p < 3; p++) {
            CHECK.due("the first way", like.shelves(1, 1, p), p);
        }
    }
}
