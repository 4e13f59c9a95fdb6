/** The sentences on PEOPLE, KINDS, LIES, HANDS and DAYS at their edges: promises 1 to 4, 8 to 12. */
public final class PeopleEdgesTest {
    private static final Check CHECK = new Check();

    public static void main(String[] args) {
        daysGoByForNobody();
        goldTellsHowManyThereWere();
        goldLeavesFour();
        nobodyLiedBehindGold();
        sixComeAndSixMoreBehindGold();
        oneComesAsNobodyElse();
        nobodyHandsAtFirst();
        handsGoOneWay();
        weightsOfKinds();
        ministersDays();
        bankersSixty();
        liesOfKinds();
        anyManyLies();
        zeroIsKept();
        twelveIsKept();
        nobodyLiedBehindADay();
        aLieThatTakesNothingIsOne();
        lastDayStays();
        lastDayIsUndone();
        handedPiecesMayBeMoreThan30();
        ninetyNineAreHanded();
        whatIsOfOne();
        CHECK.end();
    }

    private static HonestGold plainSix() {
        HonestGold x = new HonestGold();
        for (int p = 0; p < 6; p++) {
            x.one(0, 6, 30, 0);
        }
        return x;
    }

    /** "nobody is there" */
    private static void daysGoByForNobody() {
        HonestGold x = new HonestGold();
        CHECK.due("a day of nobody", x.day(), 1);
        CHECK.due("it may be undone", x.count(5), 1);
        CHECK.due("and is", x.undo(), 0);
        CHECK.due("winds of nobody", x.winds(999, 10), 1);
        CHECK.due("0", x.part(0), 0);
        CHECK.due("by 1", x.part(1), 1);
        CHECK.due("an image of nobody", x.image(0), 1);
        x.one(0, 0, 0, 0);
        CHECK.due("from nobody", x.from(0), 1);
        CHECK.due("nobody is there", x.count(0), 0);
    }

    /** "how many PEOPLE there were" */
    private static void goldTellsHowManyThereWere() {
        for (int people = 0; people <= 6; people++) {
            HonestGold x = new HonestGold();
            for (int p = 0; p < people; p++) {
                x.one(p, p, p, p);
            }
            CHECK.due("gold with " + people, x.gold(), people);
            CHECK.due("gold again", x.gold(), 0);
        }
    }

    /** "All as at first (but for IMAGES, THE TEXT, THE FRACTION, STATUS)" */
    private static void goldLeavesFour() {
        HonestGold x = new HonestGold();
        Twins.six(x);
        x.undo();
        x.type(0);
        x.lie(6, 1);
        x.gold();
        x.undo();
        for (int what = 0; what <= 5; what++) {
            CHECK.due("behind gold count(" + what + ")", x.count(what), 0);
        }
        CHECK.due("the text", x.count(6), 150);
        CHECK.due("the text is as it was", x.read(), 10);
        x.gold();
        CHECK.due("the fraction: 87, and 7 of 10 of 78", x.part(0), 708);
        CHECK.due("by 5", x.part(1), 5);
        CHECK.due("BAD", x.status(0), 1);
        CHECK.due("NO", x.status(1), 1);
        CHECK.due("FULL", x.status(2), 1);
        CHECK.due("image 0", x.from(0), 1);
        CHECK.due("image 0 has six", x.count(0), 6);
        CHECK.due("image 0 has no notes", x.count(4), 0);
        x.gold();
        CHECK.due("image 1", x.from(1), 1);
        CHECK.due("image 1 has six notes", x.count(4), 6);
        CHECK.due("image 1 has eight that may be undone", x.count(5), 8);
        CHECK.due("image 1 is of day 3", x.count(1), 3);
    }

    /** "Who LIED today (bits; none at first)" */
    private static void nobodyLiedBehindGold() {
        CHECK.due("none at first", new HonestGold().count(3), 0);
        HonestGold x = plainSix();
        for (int p = 0; p < 6; p++) {
            x.lie(p, 1);
        }
        x.gold();
        CHECK.due("nobody", x.count(3), 0);
        for (int p = 0; p < 6; p++) {
            x.one(0, 6, 30, 0);
            CHECK.due("did not lie", x.of(p, 4), 0);
        }
        x.day();
        CHECK.due("is mended", x.of(5, 1), 7);
    }

    /** "PEOPLE 0 .. 5, as they come"; "One comes: the number." */
    private static void sixComeAndSixMoreBehindGold() {
        HonestGold x = new HonestGold();
        for (int round = 0; round < 2; round++) {
            for (int p = 0; p < 6; p++) {
                CHECK.due("one comes", x.one(p, 12, 30, 20), p);
                CHECK.due("how many", x.count(0), p + 1);
            }
            CHECK.due("a 7th", x.one(0, 0, 0, 0), HonestGold.FULL);
            x.gold();
        }
        CHECK.due("the first one again", x.one(0, 0, 0, 0), 0);
    }

    /** One who comes has neither LIED nor HANDS, whoever stood there, and leaves the others' as they are. */
    private static void oneComesAsNobodyElse() {
        HonestGold x = Check.told("gold;one 0 6 9 1;one 0 6 9 1;hands 1 0;hands 0 1;lie 1 1;lie 0 1;");
        x.gold();
        x.one(0, 6, 9, 1);
        x.lie(0, 1);
        x.day();
        x.lie(0, 1);
        CHECK.due("one comes on a later day", x.one(0, 6, 9, 1), 1);
        CHECK.due("no lie", x.of(1, 4), 0);
        CHECK.due("no hands", x.of(1, 5), 0);
        CHECK.due("the other lied still", x.of(0, 4), 1);
        CHECK.due("the day stays", x.count(1), 1);
        CHECK.due("nobody hands to one who comes", x.of(0, 5), 0);
    }

    /** "whether p hands to q (unlike; not at first)" */
    private static void nobodyHandsAtFirst() {
        HonestGold x = plainSix();
        for (int p = 0; p < 6; p++) {
            CHECK.due("at first", x.of(p, 5), 0);
            for (int q = 0; q < 6; q++) {
                CHECK.due(p + " to " + q, x.hands(p, q, 1), p == q ? HonestGold.BAD : 0);
                CHECK.due(p + " to " + q + " again", x.hands(p, q, 1), p == q ? HonestGold.BAD : 1);
            }
            CHECK.due("all others", x.of(p, 5), 63 - (1 << p));
        }
    }

    /** "one way"; "(1, 0)" */
    private static void handsGoOneWay() {
        for (int p = 0; p < 6; p++) {
            for (int q = 0; q < 6; q++) {
                if (p != q) {
                    HonestGold x = plainSix();
                    x.hands(p, q, 1);
                    for (int r = 0; r < 6; r++) {
                        CHECK.due(p + " to " + q + ": " + r, x.of(r, 5), r == p ? 1 << q : 0);
                    }
                    CHECK.due("the other way", x.hands(q, p, 0), 0);
                    CHECK.due("still", x.hands(p, q, 0), 1);
                    CHECK.due("no more", x.hands(p, q, 0), 0);
                    CHECK.due("none", x.of(p, 5), 0);
                }
            }
        }
    }

    private static int weight(int kind, int honesty, int n) {
        HonestGold x = new HonestGold();
        x.one(kind, honesty, 0, 0);
        return x.weighs(0, n);
    }

    /** "PLAIN: n times h"; "CHILD (under PLAIN): n times 12"; "HALF (under PLAIN): half (cut)"; "SMITH (under PLAIN): PLAIN and n" */
    private static void weightsOfKinds() {
        int[][] due = {
            {0, 0, 99, 0}, {0, 1, 1, 1}, {0, 12, 0, 0}, {0, 12, 99, 1188},
            {1, 0, 1, 12}, {1, 0, 99, 1188}, {1, 12, 99, 1188}, {1, 5, 0, 0},
            {2, 1, 1, 0}, {2, 1, 2, 1}, {2, 1, 3, 1}, {2, 11, 99, 544}, {2, 12, 99, 594}, {2, 0, 99, 0}, {2, 12, 0, 0},
            {3, 0, 1, 1}, {3, 0, 99, 99}, {3, 12, 99, 1287}, {3, 12, 0, 0},
            {4, 12, 99, 0}, {5, 12, 0, 0}};
        for (int[] d : due) {
            CHECK.due(d[2] + " with kind " + d[0] + " of honesty " + d[1], weight(d[0], d[1], d[2]), d[3]);
        }
    }

    /** "MINISTER (under HALF): as HALF, 0 on DAYS that leave 0 by 3" */
    private static void ministersDays() {
        HonestGold x = Check.told("gold;one 4 12 11 0;one 2 12 11 0;");
        for (int day = 0; day <= 60; day++) {
            int due = day % 3 == 0 ? 0 : 66;
            CHECK.due("the minister on day " + day, x.weighs(0, 11), due);
            CHECK.due("and all of one's own", x.of(0, 6), due);
            CHECK.due("the half-true one on day " + day, x.weighs(1, 11), 66);
            x.day();
        }
        HonestGold odd = Check.told("gold;one 4 10 11 0;");
        odd.day();
        CHECK.due("11 by 11: 60 and a half, cut", odd.weighs(0, 11), 60);
    }

    /** "BANKER (under SMITH): as SMITH, 60 at most" */
    private static void bankersSixty() {
        CHECK.due("59", weight(5, 0, 59), 59);
        CHECK.due("60", weight(5, 0, 60), 60);
        CHECK.due("61 are 60", weight(5, 0, 61), 60);
        CHECK.due("5 by 12", weight(5, 11, 5), 60);
        CHECK.due("5 by 13 are 60", weight(5, 12, 5), 60);
        CHECK.due("4 by 13", weight(5, 12, 4), 52);
        CHECK.due("99 by 13 are 60", weight(5, 12, 99), 60);
        CHECK.due("a smith's are more", weight(3, 0, 61), 61);
    }

    /** "s"; "1 more than PLAIN"; "half (cut up) of PLAIN"; "twice PLAIN"; "as HALF"; "as SMITH" */
    private static void liesOfKinds() {
        int[][] loss = {{1, 2, 3, 4}, {2, 3, 4, 5}, {1, 1, 2, 2}, {2, 4, 6, 8}, {1, 1, 2, 2}, {2, 4, 6, 8}};
        for (int kind = 0; kind < 6; kind++) {
            for (int s = 1; s <= 4; s++) {
                for (int honesty = 0; honesty <= 12; honesty++) {
                    HonestGold x = new HonestGold();
                    x.one(kind, honesty, 0, 0);
                    int due = Math.max(0, honesty - loss[kind][s - 1]);
                    CHECK.due("kind " + kind + " of honesty " + honesty + ", a lie of " + s, x.lie(0, s), due);
                    CHECK.due("honesty then", x.of(0, 1), due);
                }
            }
        }
    }

    /** "A LIE (of one on a DAY, any many)" */
    private static void anyManyLies() {
        HonestGold x = Check.told("gold;one 2 12 9 0;one 0 12 9 0;");
        for (int i = 1; i <= 12; i++) {
            CHECK.due("lie " + i, x.lie(0, 1), 12 - i);
            CHECK.due("one who lied", x.count(3), 1);
        }
        CHECK.due("the other did not", x.of(1, 4), 0);
        CHECK.due("then the other", x.lie(1, 4), 8);
        CHECK.due("two who lied", x.count(3), 2);
        HonestGold six = plainSix();
        for (int p = 5; p >= 0; p--) {
            six.lie(p, 1);
            CHECK.due("those who lied", six.count(3), 6 - p);
        }
    }

    /** "HONESTY is so much less (0 kept)" */
    private static void zeroIsKept() {
        HonestGold x = Check.told("gold;one 0 5 9 0;");
        CHECK.due("5 less 4", x.lie(0, 4), 1);
        CHECK.due("1 less 4", x.lie(0, 4), 0);
        CHECK.due("0 less 4", x.lie(0, 4), 0);
        CHECK.due("0 less 1", x.lie(0, 1), 0);
        CHECK.due("weighs nothing", x.of(0, 6), 0);
        x.day();
        x.day();
        CHECK.due("it was 0 that is mended", x.of(0, 1), 1);
    }

    /** "HONESTY of those who did not LIE is 1 more (12 kept)" */
    private static void twelveIsKept() {
        HonestGold x = Check.told("gold;one 0 10 1 0;one 0 11 1 0;one 0 12 1 0;one 0 12 1 0;one 0 0 1 0;one 1 12 1 0;");
        x.lie(3, 1);
        int[][] due = {{11, 12, 12, 11, 1, 12}, {12, 12, 12, 12, 2, 12}, {12, 12, 12, 12, 3, 12}};
        for (int day = 0; day < due.length; day++) {
            CHECK.due("the day", x.day(), day + 1);
            for (int p = 0; p < 6; p++) {
                CHECK.due("honesty of " + p + " on day " + (day + 1), x.of(p, 1), due[day][p]);
            }
        }
    }

    /** "nobody LIED" */
    private static void nobodyLiedBehindADay() {
        HonestGold x = plainSix();
        for (int p = 0; p < 6; p++) {
            x.lie(p, 1);
        }
        x.day();
        CHECK.due("who lied", x.count(3), 0);
        for (int p = 0; p < 6; p++) {
            CHECK.due("lied", x.of(p, 4), 0);
            CHECK.due("not mended", x.of(p, 1), 5);
        }
    }

    /** A LIE at HONESTY 0 takes nothing, yet who told it LIED and is not mended that DAY. */
    private static void aLieThatTakesNothingIsOne() {
        HonestGold x = Check.told("gold;one 0 0 9 0;");
        CHECK.due("0", x.lie(0, 1), 0);
        CHECK.due("lied", x.of(0, 4), 1);
        CHECK.due("it may be undone", x.count(5), 1);
        x.day();
        CHECK.due("not mended", x.of(0, 1), 0);
        x.day();
        CHECK.due("then mended", x.of(0, 1), 1);
    }

    /** Day 999 lies behind the 512 calls that are promised; the class keeps to the sentence all the same. */
    private static HonestGold lateSix() {
        HonestGold x = plainSix();
        for (int day = 1; day <= 999; day++) {
            CHECK.due("the day", x.day(), day);
        }
        return x;
    }

    /** "DAYS have numbers, 0 at first (999 at most)"; "the DAY is one more (999 stays)" */
    private static void lastDayStays() {
        CHECK.due("at first", new HonestGold().count(1), 0);
        HonestGold x = lateSix();
        CHECK.due("day 999", x.count(1), 999);
        x.lie(0, 2);
        CHECK.due("999 stays", x.day(), 999);
        CHECK.due("it stays", x.count(1), 999);
        CHECK.due("nobody lied then", x.count(3), 0);
        CHECK.due("not mended", x.of(0, 1), 10);
        CHECK.due("999 stays", x.day(), 999);
        CHECK.due("mended", x.of(0, 1), 11);
    }

    /** "UNDO: .. as ahead of the last .. DAY gone by", of a DAY that stayed, too. */
    private static void lastDayIsUndone() {
        HonestGold x = lateSix();
        x.lie(0, 2);
        x.day();
        CHECK.due("undo", x.undo(), 999);
        CHECK.due("lied again", x.of(0, 4), 1);
        CHECK.due("undo the lie", x.undo(), 999);
        CHECK.due("honesty", x.of(0, 1), 12);
        CHECK.due("undo the last day that was one more", x.undo(), 998);
    }

    /** "PIECES (0 .. 30)" is what one comes with; handed on they are all with one. */
    private static void handedPiecesMayBeMoreThan30() {
        HonestGold x = plainSix();
        for (int p = 1; p < 6; p++) {
            x.hands(p, 0, 1);
            CHECK.due("all that p has", x.give(p, 0, 30), 0);
            CHECK.due("with the first one", x.of(0, 2), 30 + 30 * p);
            CHECK.due("as many as ever", x.count(2), 180);
        }
        CHECK.due("180 weigh", x.of(0, 6), 180 * 6);
        CHECK.due("and so do all", x.all(), 180 * 6);
        CHECK.due("none is left", x.give(5, 0, 1), HonestGold.NO);
        CHECK.due("when 180 weigh 999", x.when(0, 999), 0);
        x.lie(0, 1);
        CHECK.due("when 180 weigh 999: 900, 900, 1080", x.when(0, 999), 2);
    }

    /** "n PIECES (1 .. 99) are handed on: how many p has left" */
    private static void ninetyNineAreHanded() {
        HonestGold x = plainSix();
        for (int p = 1; p < 4; p++) {
            x.hands(p, 0, 1);
            x.give(p, 0, 30);
        }
        x.hands(0, 5, 1);
        CHECK.due("99 of 120", x.give(0, 5, 99), 21);
        CHECK.due("q has them", x.of(5, 2), 129);
        CHECK.due("22 of 21", x.give(0, 5, 22), HonestGold.NO);
        CHECK.due("21 of 21", x.give(0, 5, 21), 0);
        x.undo();
        x.undo();
        CHECK.due("all are back", x.of(0, 2), 120);
        CHECK.due("1", x.give(0, 5, 1), 119);
        CHECK.due("20", x.give(0, 5, 20), 99);
        CHECK.due("all 99", x.give(0, 5, 99), 0);
        x.undo();
        x.give(0, 5, 1);
        CHECK.due("99 of 98", x.give(0, 5, 99), HonestGold.NO);
    }

    /** "KIND (0), HONESTY (1), PIECES (2), PAY (3), LIED (4; 1, 0), HANDS (5; bits), what one's own weigh today (6)" */
    private static void whatIsOfOne() {
        HonestGold x = Check.told("gold;one 5 12 30 20;one 0 0 0 0;one 0 1 1 1;one 0 1 1 1;one 0 1 1 1;one 0 1 1 1;"
            + "hands 0 1 2 3 4 5;hands 5 0 1 2 3 4;lie 0 1;");
        int[][] due = {{5, 10, 30, 20, 1, 62, 60}, {0, 0, 0, 0, 0, 0, 0}, {0, 1, 1, 1, 0, 0, 1},
            {0, 1, 1, 1, 0, 0, 1}, {0, 1, 1, 1, 0, 0, 1}, {0, 1, 1, 1, 0, 31, 1}};
        for (int p = 0; p < 6; p++) {
            for (int what = 0; what <= 6; what++) {
                CHECK.due("of(" + p + ", " + what + ")", x.of(p, what), due[p][what]);
            }
        }
    }
}
