import java.math.BigInteger;

/** The sentences on how honest one is at their edges: promises 20 to 26. */
public final class HonestyEdgesTest {
    private static final Check CHECK = new Check();
    private static final int NONE = HonestGold.NONE;
    private static final int ALL_KINDS = 63;
    private static final int ALL_HONESTIES = 8191;

    public static void main(String[] args) {
        notesAsTheyCome();
        notesChangeNothingElse();
        forgetTellsHowManyThereWere();
        isWithoutNotes();
        isByAllNotesOfIt();
        isByTheHonestyOfNow();
        isByTheDayOfTheNote();
        honestByTheKindItIs();
        honestAtTheEnds();
        nextWithNoKind();
        nextWithOneKind();
        nextOfAllKinds();
        nextIsTwentyAtMost();
        nextOfToday();
        twoByTenCut();
        twoThatGetAsMuch();
        twoOfLittleHonesty();
        windsOfJustSoMuch();
        windsByOdds();
        windsInLowestTerms();
        windsChangeNoPieces();
        yearsOfNone();
        yearsOfNothing();
        yearsOfNobody();
        yearsByOddsOfEachSize();
        yearsByWhatIsCut();
        yearsBehindLiesOfToday();
        yearsOfTheMost();
        yearsOnTheLastDay();
        CHECK.end();
    }

    private static HonestGold of(String ones) {
        return Check.told("gold;" + ones);
    }

    private static void fraction(HonestGold x, int w, int c, long above, long below) {
        CHECK.due("winds(" + w + ", " + c + ")", x.winds(w, c), 1);
        CHECK.due("above", x.part(0), above);
        CHECK.due("below", x.part(1), below);
    }

    /** "NOTES 0 .. 5, as they come"; "how many there are" */
    private static void notesAsTheyCome() {
        HonestGold x = of("one 0 9 0 0;one 0 9 0 0;");
        int[][] notes = {{0, 0, 0, 0}, {1, 99, 2000, 99}, {0, 1, 2, 3}, {1, 4, 5, 6}, {0, 99, 0, 0}, {1, 0, 2000, 0}};
        for (int i = 0; i < 6; i++) {
            int[] n = notes[i];
            CHECK.due("a note", x.note(n[0], n[1], n[2], n[3]), i + 1);
            CHECK.due("count(4)", x.count(4), i + 1);
        }
        CHECK.due("a 7th", x.note(0, 0, 0, 0), HonestGold.FULL);
        CHECK.due("as they came", x.digest(), Check.mix(2, 0, 0, 0, 6, 0, 0, 0, 9, 0, 0, 0, 0, 0, 9, 0, 0, 0, 0,
            0, 0, 0, 0, 1, 99, 2000, 99, 0, 1, 2, 3, 1, 4, 5, 6, 0, 99, 0, 0, 1, 0, 2000, 0, 0, 1));
    }

    /** A NOTE may be undone by forget alone; it may be told of any day, behind today, too. */
    private static void notesChangeNothingElse() {
        HonestGold x = of("one 0 9 7 0;");
        x.lie(0, 1);
        x.note(0, 1, 1, 99);
        CHECK.due("steps stay", x.count(5), 1);
        CHECK.due("undo leaves it", x.undo(), 0);
        CHECK.due("notes", x.count(4), 1);
        x.forget();
        x.day();
        x.note(0, 1, 1, 0);
        x.forget();
        CHECK.due("forget leaves steps", x.count(5), 1);
        CHECK.due("and is not undone", x.undo(), 0);
        CHECK.due("notes", x.count(4), 0);
    }

    /** "No NOTES: how many there were" */
    private static void forgetTellsHowManyThereWere() {
        HonestGold x = of("one 0 9 0 0;");
        for (int notes = 0; notes <= 6; notes++) {
            for (int i = 0; i < notes; i++) {
                CHECK.due("a note", x.note(0, 1, 0, 0), i + 1);
            }
            CHECK.due("forget", x.forget(), notes);
            CHECK.due("count(4)", x.count(4), 0);
            CHECK.due("all kinds again", x.is(0, 0), ALL_KINDS);
        }
    }

    /** No NOTES of one: nothing is ruled out. */
    private static void isWithoutNotes() {
        HonestGold x = of("one 5 0 0 0;one 0 12 0 0;");
        x.note(1, 1, 2000, 0);
        CHECK.due("kinds", x.is(0, 0), ALL_KINDS);
        CHECK.due("honesties", x.is(0, 1), ALL_HONESTIES);
        CHECK.due("the other is none", x.is(1, 0), 0);
        CHECK.due("by no honesty", x.is(1, 1), 0);
    }

    /** "KINDS (bits) by which all NOTES of it are so": each NOTE rules out more, the 6th, too. */
    private static void isByAllNotesOfIt() {
        HonestGold x = of("one 0 7 0 0;");
        x.note(0, 0, 0, 0);
        CHECK.due("0 weigh 0 by all", x.is(0, 0), ALL_KINDS);
        x.note(0, 0, 0, 99);
        x.note(0, 7, 56, 1);
        CHECK.due("smith, banker", x.is(0, 0), 8 + 32);
        x.note(0, 7, 56, 2);
        x.note(0, 1, 8, 3);
        CHECK.due("still", x.is(0, 0), 8 + 32);
        x.note(0, 8, 64, 4);
        CHECK.due("the 6th: the smith", x.is(0, 0), 8);
        CHECK.due("a plain one of 8", x.is(0, 1), 1 << 8);
        for (int kind = 0; kind < 6; kind++) {
            HonestGold one = new HonestGold();
            one.one(kind, 7, 0, 0);
            one.note(0, 7, new int[] {49, 84, 24, 56, 0, 56}[kind], 3);
            CHECK.due("by day 3, kind " + kind, one.is(0, 0), new int[] {1, 2, 4, 8 + 32, 16, 8 + 32}[kind]);
            one.note(0, 7, 1, 3);
            CHECK.due("two notes that do not go together", one.is(0, 0), 0);
            CHECK.due("by no honesty", one.is(0, 1), 0);
        }
    }

    private static void isByTheHonestyOfNow() {
        HonestGold x = of("one 0 7 0 0;");
        x.note(0, 10, 70, 1);
        CHECK.due("plain", x.is(0, 0), 1);
        x.lie(0, 1);
        CHECK.due("a smith by 6; a banker weighs 60 at most", x.is(0, 0), 8);
        x.undo();
        x.day();
        CHECK.due("nothing by 8", x.is(0, 0), 0);
        CHECK.due("honesty 7 still", x.is(0, 1), 1 << 7);
    }

    /** "on DAY d (0 .. 99)": not today's. */
    private static void isByTheDayOfTheNote() {
        for (int d = 0; d <= 99; d++) {
            HonestGold x = of("one 2 8 0 0;one 4 8 0 0;");
            x.note(0, 2, 8, d);
            x.note(1, 2, 0, d);
            CHECK.due("8 on day " + d, x.is(0, 0), d % 3 == 0 ? 4 : 4 + 16);
            CHECK.due("0 on day " + d, x.is(1, 0), d % 3 == 0 ? 16 : 0);
            CHECK.due("0 on day " + d + " by honesty", x.is(1, 1), d % 3 == 0 ? ALL_HONESTIES : 1);
        }
    }

    /** "how much (bits 0 .. 12) one may be so that they are (KIND as it is)" */
    private static void honestByTheKindItIs() {
        HonestGold x = of("one 0 0 0 0;one 1 0 0 0;one 2 0 0 0;one 3 0 0 0;one 5 0 0 0;one 4 0 0 0;");
        for (int p = 0; p < 6; p++) {
            x.note(p, 9, 36, 1);
        }
        CHECK.due("plain: 4", x.is(0, 1), 1 << 4);
        CHECK.due("child: none", x.is(1, 1), 0);
        CHECK.due("half: 8", x.is(2, 1), 1 << 8);
        CHECK.due("smith: 3", x.is(3, 1), 1 << 3);
        CHECK.due("banker: 3", x.is(4, 1), 1 << 3);
        CHECK.due("minister: 8", x.is(5, 1), 1 << 8);
        x.forget();
        x.note(2, 1, 3, 1);
        CHECK.due("half, cut: 6 and 7", x.is(2, 1), (1 << 6) + (1 << 7));
        x.note(4, 9, 60, 1);
        CHECK.due("banker of 60: 6 and more", x.is(4, 1), ALL_HONESTIES - 63);
        x.note(1, 9, 108, 1);
        CHECK.due("child: any", x.is(1, 1), ALL_HONESTIES);
    }

    private static void honestAtTheEnds() {
        HonestGold x = of("one 0 5 0 0;one 3 5 0 0;");
        x.note(0, 1, 0, 0);
        CHECK.due("0", x.is(0, 1), 1);
        x.forget();
        x.note(0, 1, 12, 0);
        CHECK.due("12", x.is(0, 1), 1 << 12);
        x.forget();
        x.note(0, 1, 13, 0);
        CHECK.due("13 is none", x.is(0, 1), 0);
        x.note(1, 1, 0, 0);
        CHECK.due("a smith's 1 never weighs 0", x.is(1, 1), 0);
    }

    /** "none: no KIND" */
    private static void nextWithNoKind() {
        HonestGold x = of("one 0 7 0 0;one 0 7 0 0;");
        x.note(0, 0, 1, 0);
        CHECK.due("no kind", x.next(0), NONE);
        CHECK.due("all kinds", x.next(1), 8);
        x.forget();
        CHECK.due("all kinds again", x.next(0), 8);
    }

    /** "of like ones the least": one KIND is told by no weighing better than by 0 PIECES. */
    private static void nextWithOneKind() {
        for (int kind = 0; kind < 6; kind++) {
            if (kind != 5) {
                HonestGold x = new HonestGold();
                x.one(kind, 7, 0, 0);
                x.note(0, 20, new int[] {140, 240, 70, 160, 0}[kind], 3);
                CHECK.due("one kind", x.is(0, 0), 1 << kind);
                CHECK.due("0 pieces", x.next(0), 0);
            }
        }
    }

    /** "by which the most of these KINDS with which they weigh alike are fewest", each honesty, on day 0 and day 1. */
    private static void nextOfAllKinds() {
        for (int day = 0; day <= 1; day++) {
            for (int honesty = 0; honesty <= 12; honesty++) {
                HonestGold x = new HonestGold();
                for (int d = 0; d < day; d++) {
                    x.day();
                }
                x.one(0, honesty, 0, 0);
                CHECK.due("honesty " + honesty + ", day " + day, x.next(0), bestOfAllKinds(honesty, day));
            }
        }
    }

    private static int bestOfAllKinds(int h, int day) {
        int best = 0;
        int fewest = 7;
        for (int n = 0; n <= 20; n++) {
            int half = n * h / 2;
            int[] w = {n * h, n * 12, half, n * h + n, day % 3 == 0 ? 0 : half, Math.min(60, n * h + n)};
            int most = 0;
            for (int a : w) {
                int alike = 0;
                for (int b : w) {
                    alike += a == b ? 1 : 0;
                }
                most = Math.max(most, alike);
            }
            if (most < fewest) {
                fewest = most;
                best = n;
            }
        }
        return best;
    }

    /** "how many PIECES (0 .. 20)": 16 tell smith and banker by honesty 3, 21 by honesty 2, 31 by honesty 1. */
    private static void nextIsTwentyAtMost() {
        int[] due = {0, 0, 0, 16, 13, 11, 9, 8, 7, 7, 6, 6, 5};
        for (int honesty = 0; honesty <= 12; honesty++) {
            HonestGold x = new HonestGold();
            x.one(5, honesty, 0, 0);
            x.note(0, 2, 2 * honesty + 2, 0);
            int other = honesty == 11 ? 2 : 0;
            CHECK.due("smith, banker (and child by 11)", x.is(0, 0), 8 + 32 + other);
            CHECK.due("by honesty " + honesty, x.next(0), due[honesty]);
        }
    }

    /** "to weigh today" */
    private static void nextOfToday() {
        HonestGold x = of("one 2 12 0 0;");
        x.note(0, 2, 12, 1);
        CHECK.due("half, minister", x.is(0, 0), 4 + 16);
        int[] due = {1, 0, 0, 1, 0, 0, 1};
        for (int day = 0; day < due.length; day++) {
            CHECK.due("on day " + day, x.next(0), due[day]);
            x.day();
        }
    }

    /** "how much more one's own PIECES weigh now than they would behind that LIE, by 10 (cut)" */
    private static void twoByTenCut() {
        int[][] due = {{0, 8, 2}, {9, 8, 2}, {10, 4 + 8, 2}, {11, 4 + 8, 2}, {19, 4 + 8, 2}, {20, 4, 2}, {29, 4, 2}, {30, 4, 1 + 2}};
        for (int[] d : due) {
            HonestGold x = new HonestGold();
            x.one(0, 1, d[0], 0);
            x.one(0, 1, 0, 0);
            x.one(0, 12, 20, 0);
            CHECK.due(d[0] + " beside one to whom truth is 0", x.two(0, 1), d[1]);
            CHECK.due(d[0] + " beside one to whom truth is 4", x.two(0, 2), d[2]);
        }
        HonestGold more = of("one 0 1 30 0;one 0 12 20 0;one 0 1 30 0;hands 2 0;");
        more.give(2, 0, 9);
        CHECK.due("39: 3 still", more.two(0, 1), 1 + 2);
        more.give(2, 0, 1);
        CHECK.due("40: 4", more.two(0, 1), 1);
    }

    /** "pairs that rest (.. neither would get more by doing otherwise)": as much is not more. */
    private static void twoThatGetAsMuch() {
        int[] pieces = {0, 10, 20, 30};
        int[][] due = {
            {8, 2 + 8, 2, 2},
            {4 + 8, 2 + 4 + 8, 2 + 4, 2 + 4},
            {4, 2 + 4, 2 + 4, 2 + 4},
            {4, 2 + 4, 2 + 4, 1 + 2 + 4}};
        for (int a = 0; a < 4; a++) {
            for (int b = 0; b < 4; b++) {
                HonestGold x = new HonestGold();
                x.one(0, 1, pieces[a], 0);
                x.one(0, 1, pieces[b], 0);
                CHECK.due("truth is " + a + " and " + b, x.two(0, 1), due[a][b]);
            }
        }
    }

    /** A LIE of size 2 takes no more than there is, and by KIND. */
    private static void twoOfLittleHonesty() {
        HonestGold x = of("one 0 0 30 0;one 0 12 20 0;one 3 3 10 0;one 3 4 10 0;one 2 1 30 0;one 2 0 30 0;");
        CHECK.due("honesty 0 has nothing to lose", x.two(0, 1), 2);
        CHECK.due("a smith of 3 loses 3: 30", x.two(2, 1), 1 + 2);
        CHECK.due("a smith of 4 loses 4: 40", x.two(3, 1), 1);
        CHECK.due("a half-true one of 1 loses 1: 15, by 10 is 1", x.two(4, 0), 4 + 8);
        CHECK.due("a half-true one of 0 loses nothing", x.two(5, 0), 8);
        HonestGold child = of("one 1 12 30 0;one 5 12 30 0;one 5 4 12 0;one 0 0 0 0;");
        CHECK.due("a child weighs as ever", child.two(0, 3), 8);
        CHECK.due("a banker beyond 60 behind the lie, too", child.two(1, 3), 8);
        CHECK.due("a banker of 60 has 12 then: 48 is 4", child.two(2, 3), 4);
        HonestGold minister = of("one 4 12 20 0;one 0 0 0 0;");
        CHECK.due("a minister on day 0", minister.two(0, 1), 8);
        minister.day();
        CHECK.due("a minister on day 1: 10", minister.two(0, 1), 4 + 8);
    }

    /** "if they weigh less than w (0 .. 999) today" */
    private static void windsOfJustSoMuch() {
        HonestGold x = of("one 0 7 9 0;");
        fraction(x, 62, 10, 9, 1);
        fraction(x, 63, 10, 9, 1);
        fraction(x, 64, 10, 0, 1);
        fraction(x, 999, 10, 0, 1);
        fraction(x, 0, 10, 9, 1);
        HonestGold nothing = of("one 0 0 9 0;one 4 9 9 0;");
        fraction(nothing, 0, 10, 18, 1);
        fraction(nothing, 1, 10, 0, 1);
        nothing.day();
        fraction(nothing, 10, 10, 9, 1);
        HonestGold heavy = of("one 1 0 30 0;one 1 0 30 0;one 1 0 30 0;hands 1 0;hands 2 0;");
        heavy.give(1, 0, 30);
        heavy.give(2, 0, 23);
        fraction(heavy, 996, 10, 83, 1);
        fraction(heavy, 997, 10, 0, 1);
        heavy.give(2, 0, 1);
        fraction(heavy, 999, 10, 84, 1);
    }

    /** "by c of 10 (0 .. 10) all of one's PIECES, apart, are blown away" */
    private static void windsByOdds() {
        HonestGold x = of("one 0 1 1 0;");
        long[][] due = {{1, 1}, {9, 10}, {4, 5}, {7, 10}, {3, 5}, {1, 2}, {2, 5}, {3, 10}, {1, 5}, {1, 10}, {0, 1}};
        for (int c = 0; c <= 10; c++) {
            fraction(x, 999, c, due[c][0], due[c][1]);
        }
        HonestGold two = of("one 0 1 1 0;one 0 2 1 0;one 0 3 1 0;");
        fraction(two, 2, 3, 27, 10);
        fraction(two, 3, 3, 12, 5);
        fraction(two, 4, 3, 21, 10);
    }

    /** "THE FRACTION is 0 by 1 at first; lowest terms, below above 0" */
    private static void windsInLowestTerms() {
        CHECK.due("at first", new HonestGold().part(0), 0);
        CHECK.due("by 1", new HonestGold().part(1), 1);
        HonestGold x = of("one 0 1 30 0;one 0 1 30 0;one 0 1 30 0;one 0 1 30 0;one 0 1 30 0;one 0 1 29 0;");
        fraction(x, 999, 0, 179, 1);
        fraction(x, 999, 1, 1611, 10);
        fraction(x, 999, 2, 716, 5);
        fraction(x, 999, 5, 179, 2);
        fraction(x, 30, 5, 329, 2);
        fraction(x, 30, 10, 150, 1);
        fraction(x, 999, 10, 0, 1);
        fraction(of("one 0 12 0 0;"), 999, 5, 0, 1);
        fraction(new HonestGold(), 999, 5, 0, 1);
    }

    private static void windsChangeNoPieces() {
        HonestGold x = of("one 0 1 30 0;one 0 1 30 0;lie 0 1;");
        x.day();
        x.winds(999, 10);
        CHECK.due("pieces", x.count(2), 60);
        CHECK.due("steps", x.count(5), 1);
        CHECK.due("the day", x.count(1), 1);
    }

    /** "n (0 .. 60)": of 0 it is what ALL weighs now. */
    private static void yearsOfNone() {
        HonestGold x = of("one 0 5 9 0;one 4 9 9 0;lie 0 1;");
        CHECK.due("seed 0", x.years(0, 0), 36);
        CHECK.due("seed 999999", x.years(999999, 0), 36);
    }

    /** "s: 0: nothing": SEED 0 is 12345 at first, one 0 and nothing. */
    private static void yearsOfNothing() {
        HonestGold x = of("one 0 5 9 0;one 0 12 1 0;");
        CHECK.due("a day goes by", x.years(0, 1), 54 + 12);
        CHECK.due("no lie was told", x.count(3), 0);
    }

    /** "(not there: nobody)" */
    private static void yearsOfNobody() {
        for (int people = 1; people <= 6; people++) {
            HonestGold x = new HonestGold();
            for (int p = 0; p < people; p++) {
                x.one(0, 12, 1, 0);
            }
            for (int p = 0; p < 6; p++) {
                int seed = seedOf(p, 4);
                CHECK.due(p + " of " + people, x.years(seed, 1), 12 * people - (p < people ? 4 : 0));
            }
        }
    }

    /** "else a LIE of that size", of each of six. */
    private static void yearsByOddsOfEachSize() {
        HonestGold x = of("one 0 12 9 0;one 0 12 9 0;one 0 12 9 0;one 0 12 9 0;one 0 12 9 0;one 0 12 9 0;");
        for (int p = 0; p < 6; p++) {
            for (int s = 0; s <= 4; s++) {
                CHECK.due("one " + p + ", size " + s, x.years(seedOf(p, s), 1), 6 * 108 - 9 * s);
            }
        }
    }

    /** "X by 1048576 (cut)", "X by 65536 (cut)": SEEDS whose first X lies just behind, just ahead of the next one. */
    private static void yearsByWhatIsCut() {
        HonestGold x = of("one 0 12 1 0;one 0 12 1 0;one 0 12 1 0;one 0 12 1 0;one 0 12 1 0;one 0 12 1 0;");
        int[][] due = {{241, 3}, {822, 2}, {5059, 0}, {959, 4}, {1403, 3}, {3009, 0}};
        for (int[] d : due) {
            CHECK.due("a lie of size " + d[1], x.years(d[0], 1), 72 - d[1]);
        }
        HonestGold kinds = of("one 0 12 1 0;one 1 12 1 0;one 2 12 2 0;one 3 12 1 0;one 2 12 4 0;one 0 12 5 0;");
        int all = 12 + 12 + 12 + 13 + 24 + 60;
        CHECK.due("5 tells 4", kinds.years(3, 1), all - 20);
        CHECK.due("0 tells 3", kinds.years(13, 1), all - 3);
        CHECK.due("3 tells 4", kinds.years(16, 1), all - 8);
        CHECK.due("0 tells 4", kinds.years(9, 1), all - 4);
        CHECK.due("2 tells 4", kinds.years(15, 1), all - 2);
        CHECK.due("4 tells 4", kinds.years(22, 1), all - 4);
    }

    private static BigInteger behind(BigInteger x) {
        return x.multiply(BigInteger.valueOf(1103515245)).add(BigInteger.valueOf(12345)).mod(BigInteger.valueOf(2147483648L));
    }

    /** The least seed whose first year has p tell a lie of size s. */
    private static int seedOf(int p, int s) {
        for (int seed = 0; seed <= 999999; seed++) {
            long x = behind(BigInteger.valueOf(seed)).longValue();
            if (x / 65536 % 6 == p && x / 1048576 % 5 == s) {
                return seed;
            }
        }
        throw new IllegalStateException("no such seed");
    }

    /** Who LIED today is not mended by the first DAY of them. */
    private static void yearsBehindLiesOfToday() {
        HonestGold x = of("one 0 5 9 0;one 0 5 9 0;lie 0 1;");
        CHECK.due("4 stays, 5 is 6", x.years(0, 1), 36 + 54);
        x.day();
        CHECK.due("5 and 7", x.years(0, 1), 45 + 63);
    }

    /** "YEARS by a SEED (0 .. 999999), n (0 .. 60)" */
    private static void yearsOfTheMost() {
        HonestGold x = new HonestGold();
        Twins.three(x);
        CHECK.due("seed 0, 60", x.years(0, 60), 187);
        CHECK.due("seed 999999, 60", x.years(999999, 60), 231);
        CHECK.due("seed 0, 2", x.years(0, 2), 96);
    }

    /** "the DAY is one more (999 stays)", in years, too; it lies behind the 512 calls that are promised. */
    private static void yearsOnTheLastDay() {
        HonestGold x = of("one 4 12 10 0;");
        for (int d = 0; d < 998; d++) {
            x.day();
        }
        CHECK.due("day 998", x.years(0, 0), 60);
        CHECK.due("day 999", x.years(0, 1), 0);
        CHECK.due("day 999 stays", x.years(0, 2), 0);
    }
}
