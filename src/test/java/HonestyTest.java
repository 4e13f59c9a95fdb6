/** Promises 20 to 26: note, forget, is, next, two, winds, years. */
public final class HonestyTest {
    private static final Check CHECK = new Check();
    private static final String SIX =
        "gold;one 0 7 3 5;one 1 7 3 5;one 2 7 3 5;one 3 7 3 5;one 4 7 3 5;one 5 7 3 5;";

    public static void main(String[] args) {
        noteAndForget();
        is();
        next();
        two();
        winds();
        years();
        CHECK.end();
    }

    private static void noteAndForget() {
        HonestGold x = Check.told("gold;one 0 7 3 5;");
        CHECK.due("p", x.note(1, 0, 0, 0), HonestGold.BAD);
        CHECK.due("p", x.note(-1, 0, 0, 0), HonestGold.BAD);
        CHECK.due("n", x.note(0, 100, 0, 0), HonestGold.BAD);
        CHECK.due("n", x.note(0, -1, 0, 0), HonestGold.BAD);
        CHECK.due("w", x.note(0, 0, 2001, 0), HonestGold.BAD);
        CHECK.due("w", x.note(0, 0, -1, 0), HonestGold.BAD);
        CHECK.due("d", x.note(0, 0, 0, 100), HonestGold.BAD);
        CHECK.due("d", x.note(0, 0, 0, -1), HonestGold.BAD);
        CHECK.due("none", x.forget(), 0);
        for (int i = 1; i <= 6; i++) {
            CHECK.due("note " + i, x.note(0, 99, 2000, 99), i);
        }
        CHECK.due("a bad 7th", x.note(0, 0, 0, 100), HonestGold.BAD);
        CHECK.due("a 7th", x.note(0, 0, 0, 0), HonestGold.FULL);
        CHECK.due("it was refused", x.status(2), 1);
        CHECK.due("forget", x.forget(), 6);
        CHECK.due("count", x.count(4), 0);
        CHECK.due("note again", x.note(0, 0, 0, 0), 1);
    }

    private static void is() {
        HonestGold x = Check.told(SIX);
        CHECK.due("no notes: all kinds", x.is(0, 0), 63);
        CHECK.due("no notes: all honesties", x.is(0, 1), 8191);
        x.note(0, 3, 24, 1);
        CHECK.due("smith or banker by honesty 7", x.is(0, 0), 8 + 32);
        CHECK.due("plain by honesty 8", x.is(0, 1), 1 << 8);
        CHECK.due("no notes of another one", x.is(1, 0), 63);
        x.note(0, 20, 60, 1);
        CHECK.due("then the banker", x.is(0, 0), 32);
        CHECK.due("no plain one", x.is(0, 1), 0);
        x.note(2, 3, 10, 1);
        CHECK.due("half or minister", x.is(2, 0), 4 + 16);
        CHECK.due("honesty 7 alone", x.is(2, 1), 1 << 7);
        x.note(2, 3, 0, 3);
        CHECK.due("on day 3 the minister", x.is(2, 0), 16);
        CHECK.due("no half one", x.is(2, 1), 0);
        x.note(1, 3, 36, 1);
        CHECK.due("a child may be of any honesty", x.is(1, 1), 8191);
        CHECK.due("what 2", x.is(0, 2), HonestGold.BAD);
        CHECK.due("what -1", x.is(0, -1), HonestGold.BAD);
        CHECK.due("not there", x.is(6, 0), HonestGold.BAD);
        x.forget();
        x.note(0, 1, 0, 1);
        x.lie(0, 4);
        x.lie(0, 4);
        CHECK.due("by honesty as it is: 0 now", x.is(0, 0), 1 + 4 + 16);
    }

    private static void next() {
        HonestGold x = Check.told(SIX);
        x.note(0, 3, 24, 1);
        CHECK.due("smith or banker: 8 by 8 are beyond 60", x.next(0), 8);
        x.note(0, 20, 60, 1);
        CHECK.due("one kind: 0 tell as much as any", x.next(0), 0);
        x.note(0, 0, 1, 1);
        CHECK.due("no kind", x.next(0), HonestGold.NONE);
        x.note(2, 3, 10, 1);
        CHECK.due("half or minister on day 0", x.next(2), 1);
        x.day();
        x.forget();
        x.note(2, 3, 12, 2);
        CHECK.due("half or minister on day 1: no weighing tells them", x.next(2), 0);
        HonestGold b = Check.told("gold;one 5 2 1 1;one 0 12 1 1;");
        b.note(0, 5, 15, 1);
        CHECK.due("smith or banker by honesty 2: 21 would tell, 20 do not", b.next(0), 0);
        b.note(1, 9, 108, 1);
        CHECK.due("plain or child by honesty 12: nothing tells", b.next(1), 0);
        CHECK.due("not there", x.next(6), HonestGold.BAD);
        CHECK.due("below", x.next(-1), HonestGold.BAD);
    }

    /** Truth is worth 0, 1, 3, 4, 2, 2 to these six: a fifth of their pieces, for the last by its one honesty. */
    private static void two() {
        HonestGold x = Check.told("gold;one 0 12 4 0;one 0 12 5 0;one 0 12 15 0;one 0 12 20 0;one 0 12 10 0;one 0 1 20 0;");
        CHECK.due("0 and 2: a lies, b is better off true", x.two(0, 5), 2);
        CHECK.due("0 and 1: b is as well off true beside a liar", x.two(0, 1), 2 + 8);
        CHECK.due("1 and 0", x.two(1, 0), 4 + 8);
        CHECK.due("1 and 2: one of them lies", x.two(1, 4), 2 + 4);
        CHECK.due("4 and 3: b is as well off lying beside a true one", x.two(3, 2), 1 + 4);
        CHECK.due("3 and 4", x.two(2, 3), 1 + 2);
        CHECK.due("4 and 2: b lies", x.two(3, 4), 4);
        CHECK.due("2 and 2: one of them lies", x.two(5, 4), 2 + 4);
        CHECK.due("alike", x.two(0, 0), HonestGold.BAD);
        CHECK.due("not there", x.two(0, 6), HonestGold.BAD);
        CHECK.due("not there", x.two(6, 0), HonestGold.BAD);
        CHECK.due("below", x.two(-1, 0), HonestGold.BAD);
        CHECK.due("nothing is changed", x.count(3), 0);
        HonestGold y = Check.told("gold;one 0 12 20 0;one 0 12 24 0;");
        CHECK.due("4 and 4: neither lies", y.two(0, 1), 1);
        HonestGold z = Check.told("gold;one 1 12 30 0;one 5 12 30 0;");
        CHECK.due("child and banker weigh as ever: both lie", z.two(0, 1), 8);
        HonestGold m = Check.told("gold;one 4 12 30 0;one 0 12 20 0;");
        CHECK.due("on day 0 a minister has nothing to lose", m.two(0, 1), 2);
        m.day();
        CHECK.due("on day 1 15 by 1: 1 by 10", m.two(0, 1), 2);
    }

    private static void winds() {
        HonestGold x = Check.told("gold;one 0 7 9 3;one 0 1 4 3;");
        CHECK.due("winds", x.winds(63, 5), 1);
        CHECK.due("9 and 4 by a half", x.part(0), 11);
        CHECK.due("by 1", x.part(1), 1);
        x.winds(64, 5);
        CHECK.due("13 by a half", x.part(0), 13);
        CHECK.due("by 2", x.part(1), 2);
        x.winds(999, 3);
        CHECK.due("13 by 7 of 10", x.part(0), 91);
        CHECK.due("by 10", x.part(1), 10);
        x.winds(999, 0);
        CHECK.due("no wind", x.part(0), 13);
        CHECK.due("by 1", x.part(1), 1);
        x.winds(999, 3);
        CHECK.due("nothing weighs less than nothing", x.winds(0, 10), 1);
        CHECK.due("all are left", x.part(0), 13);
        CHECK.due("w", x.winds(-1, 0), HonestGold.BAD);
        CHECK.due("w", x.winds(1000, 0), HonestGold.BAD);
        CHECK.due("c", x.winds(0, -1), HonestGold.BAD);
        CHECK.due("c", x.winds(0, 11), HonestGold.BAD);
        CHECK.due("the fraction stays", x.part(0), 13);
        x.winds(999, 10);
        CHECK.due("all are blown away", x.part(0), 0);
        CHECK.due("0 by 1", x.part(1), 1);
        CHECK.due("no piece is gone", x.count(2), 13);
    }

    private static void years() {
        HonestGold x = Check.told(SIX);
        x.lie(0, 1);
        x.day();
        x.lie(1, 1);
        long before = x.digest();
        CHECK.due("no year", x.years(5, 0), x.all());
        CHECK.due("seed", x.years(-1, 0), HonestGold.BAD);
        CHECK.due("seed", x.years(1000000, 0), HonestGold.BAD);
        CHECK.due("n", x.years(0, -1), HonestGold.BAD);
        CHECK.due("n", x.years(0, 61), HonestGold.BAD);
        int answer = x.years(999999, 60);
        CHECK.due("nothing is changed", x.digest(), before);
        CHECK.due("the same seed, the same answer", x.years(999999, 60), answer);
        for (int n = 0; n <= 60; n += 3) {
            int seed = 999999 - 16661 * n;
            CHECK.due("years(" + seed + ", " + n + ") by hand", x.years(seed, n), byHand(Check.told(SIX), seed, n));
        }
        HonestGold few = Check.told("gold;one 0 12 30 0;one 3 12 30 0;");
        CHECK.due("5:1, 3:1, 4:1 are nobody", few.years(424242, 3), 750);
        CHECK.due("0:2 behind them, and no mending that day", few.years(424242, 4), 690);
        CHECK.due("1:3 behind that", few.years(424242, 5), 540);
        HonestGold late = Check.told("gold;one 4 12 10 0;");
        for (int d = 0; d < 999; d++) {
            late.day();
        }
        CHECK.due("day 999 stays, and is a minister's 0", late.years(0, 1), 0);
    }

    /** The same years by the calls that change the treasury. */
    private static int byHand(HonestGold x, int seed, int n) {
        x.lie(0, 1);
        x.day();
        x.lie(1, 1);
        java.math.BigInteger value = java.math.BigInteger.valueOf(seed);
        for (int i = 0; i < n; i++) {
            value = value.multiply(java.math.BigInteger.valueOf(1103515245)).add(java.math.BigInteger.valueOf(12345))
                .mod(java.math.BigInteger.valueOf(2147483648L));
            int p = (int) (value.longValue() / 65536 % 6);
            int s = (int) (value.longValue() / 1048576 % 5);
            if (s != 0) {
                x.lie(p, s);
            }
            x.day();
        }
        return x.all();
    }
}
