/**
 * The bounds of every number of every call: the least and the greatest one that is allowed have their
 * answers, and the one beyond each of them is refused as BAD, changing nothing but STATUS.
 */
public final class BoundsTest {
    private static final Check CHECK = new Check();
    private static final Twins TWINS = new Twins(CHECK);
    private static final int LAST = Integer.MAX_VALUE;

    private interface Asked {
        long with(HonestGold x, int v);
    }

    private final Twins.Told told;

    private BoundsTest(Twins.Told told) {
        this.told = told;
    }

    public static void main(String[] args) {
        BoundsTest three = new BoundsTest(Twins::three);
        three.treasury();
        three.days();
        three.weighing();
        three.pairsOfThree();
        three.honesty();
        three.keeping();
        BoundsTest six = new BoundsTest(Twins::six);
        six.eachOfSix();
        six.pairsOfSix();
        new BoundsTest(Twins::nobody).nobodyIsThere();
        CHECK.end();
    }

    private void range(String call, Asked asked, int least, long atLeast, int most, long atMost) {
        rangeElse(call, asked, least, atLeast, most, atMost, HonestGold.BAD);
    }

    /** As range, where another answer is told for BAD. */
    private void rangeElse(String call, Asked asked, int least, long atLeast, int most, long atMost, long bad) {
        taken(call, asked, least, atLeast);
        taken(call, asked, most, atMost);
        refused(call, asked, least - 1, bad);
        refused(call, asked, Integer.MIN_VALUE, bad);
        if (most != LAST) {
            refused(call, asked, most + 1, bad);
            refused(call, asked, LAST, bad);
        }
    }

    private void taken(String call, Asked asked, int v, long answer) {
        HonestGold x = new HonestGold();
        told.tell(x);
        int refused = x.status(Twins.BAD);
        CHECK.due(call + " by " + v, asked.with(x, v), answer);
        CHECK.due(call + " by " + v + " is not BAD", x.status(Twins.BAD), refused);
    }

    private void refused(String call, Asked asked, int v, long answer) {
        TWINS.refused(call + " by " + v, told, x -> asked.with(x, v), answer, Twins.BAD);
    }

    private void treasury() {
        range("one: kind", (x, v) -> x.one(v, 1, 1, 1), 0, 3, 5, 3);
        range("one: honesty", (x, v) -> x.one(0, v, 1, 1), 0, 3, 12, 3);
        range("one: pieces", (x, v) -> x.one(0, 1, v, 1), 0, 3, 30, 3);
        range("one: pay", (x, v) -> x.one(0, 1, 1, v), 0, 3, 20, 3);
        range("hands: is", (x, v) -> x.hands(0, 1, v), 0, 1, 1, 1);
        range("type", HonestGold::type, 0, 26, 127, 26);
    }

    private void days() {
        range("lie: p", (x, v) -> x.lie(v, 1), 0, 7, 2, 11);
        range("lie: s", (x, v) -> x.lie(0, v), 1, 7, 4, 4);
        range("give: n", (x, v) -> x.give(0, 1, v), 1, 6, 99, HonestGold.NO);
        range("of: p", (x, v) -> x.of(v, 1), 0, 8, 2, 12);
        range("of: what", (x, v) -> x.of(0, v), 0, 0, 6, 56);
    }

    private void weighing() {
        range("weighs: p", (x, v) -> x.weighs(v, 1), 0, 8, 2, 6);
        range("weighs: n", (x, v) -> x.weighs(0, v), 0, 0, 99, 792);
        range("when: p", (x, v) -> x.when(v, 60), 0, 1, 2, 0);
        range("when: w", (x, v) -> x.when(0, v), 0, 0, 999, HonestGold.NONE);
        range("debt: p", (x, v) -> x.debt(v, 60), 0, 8, 2, 10);
        range("debt: w", (x, v) -> x.debt(0, v), 0, 0, 999, HonestGold.NONE);
        range("hire: b", (x, v) -> x.hire(v, 1, 0), 0, 0, 120, 7);
        range("hire: n", (x, v) -> x.hire(120, v, 1), 0, 0, 99, 792 + 297 + 594);
        range("hire: what", (x, v) -> x.hire(120, 1, v), 0, 7, 1, 17);
        rangeElse("bag: n", (x, v) -> x.bag(0, 1, v, -1), 0, 0, 99, 297, -10);
        rangeElse("bag: i", (x, v) -> x.bag(0, 1, 1, v), -1, 3, LAST, -5, -10);
        rangeElse("shelves: a", (x, v) -> x.shelves(v, 1, -1), 0, 0, 20, 66, -10);
        rangeElse("shelves: c", (x, v) -> x.shelves(1, v, -1), 0, 3, 9, 8, -10);
        rangeElse("shelves: p", (x, v) -> x.shelves(1, 9, v), -1, 8, 2, 2, -10);
    }

    /** "unlike": the bound that is no end of PEOPLE is the other one of the two. */
    private void pairsOfThree() {
        range("hands: p ahead of q", (x, v) -> x.hands(v, 2, 1), 0, 0, 1, 1);
        range("hands: p behind q", (x, v) -> x.hands(v, 0, 1), 1, 0, 2, 0);
        range("hands: q behind p", (x, v) -> x.hands(0, v, 1), 1, 1, 2, 0);
        range("hands: q ahead of p", (x, v) -> x.hands(2, v, 1), 0, 0, 1, 0);
        range("give: p ahead of q", (x, v) -> x.give(v, 2, 1), 0, HonestGold.NO, 1, 7);
        range("give: p behind q", (x, v) -> x.give(v, 0, 1), 1, HonestGold.NO, 2, HonestGold.NO);
        range("give: q behind p", (x, v) -> x.give(0, v, 1), 1, 6, 2, HonestGold.NO);
        range("give: q ahead of p", (x, v) -> x.give(2, v, 1), 0, HonestGold.NO, 1, HonestGold.NO);
        rangeElse("bag: p ahead of q", (x, v) -> x.bag(v, 2, 1, -1), 0, 3, 1, 3, -10);
        rangeElse("bag: p behind q", (x, v) -> x.bag(v, 0, 1, -1), 1, HonestGold.NONE, 2, HonestGold.NONE, -10);
        rangeElse("bag: q behind p", (x, v) -> x.bag(0, v, 1, -1), 1, 3, 2, 3, -10);
        rangeElse("bag: q ahead of p", (x, v) -> x.bag(2, v, 1, -1), 0, HonestGold.NONE, 1, HonestGold.NONE, -10);
        range("two: a ahead of b", (x, v) -> x.two(v, 2), 0, 12, 1, 12);
        range("two: a behind b", (x, v) -> x.two(v, 0), 1, 14, 2, 10);
        range("two: b behind a", (x, v) -> x.two(0, v), 1, 14, 2, 12);
        range("two: b ahead of a", (x, v) -> x.two(2, v), 0, 10, 1, 10);
    }

    private void honesty() {
        range("note: p", (x, v) -> x.note(v, 1, 1, 1), 0, 3, 2, 3);
        range("note: n", (x, v) -> x.note(0, v, 1, 1), 0, 3, 99, 3);
        range("note: w", (x, v) -> x.note(0, 1, v, 1), 0, 3, 2000, 3);
        range("note: d", (x, v) -> x.note(0, 1, 1, v), 0, 3, 99, 3);
        range("is: p", (x, v) -> x.is(v, 0), 0, 0, 2, 4 + 16);
        range("is: what", (x, v) -> x.is(0, v), 0, 0, 1, 1 << 7);
        range("next: p", HonestGold::next, 0, HonestGold.NONE, 2, 0);
        range("winds: w", (x, v) -> x.winds(v, 5), 0, 1, 999, 1);
        range("winds: c", (x, v) -> x.winds(50, v), 0, 1, 10, 1);
        range("years: seed", (x, v) -> x.years(v, 0), 0, 140, 999999, 140);
        range("years: n", (x, v) -> x.years(0, v), 0, 140, 60, 187);
    }

    private void keeping() {
        range("part", HonestGold::part, 0, 25, 1, 2);
        range("image", HonestGold::image, 0, 1, 1, 1);
        range("from", HonestGold::from, 0, 1, 1, HonestGold.NO);
        range("count", HonestGold::count, 0, 3, 6, 25);
        rangeElse("status", HonestGold::status, 0, 1, 2, 0, -1);
    }

    /** "PEOPLE 0 .. 5": 5 is one of six, 6 is nobody. */
    private void eachOfSix() {
        range("lie: p of six", (x, v) -> x.lie(v, 1), 0, 11, 5, 6);
        range("of: p of six", (x, v) -> x.of(v, 2), 0, 28, 5, 25);
        range("weighs: p of six", (x, v) -> x.weighs(v, 2), 0, 24, 5, 18);
        range("when: p of six", (x, v) -> x.when(v, 60), 0, 0, 5, 0);
        range("debt: p of six", (x, v) -> x.debt(v, 60), 0, 5, 5, 7);
        range("is: p of six", (x, v) -> x.is(v, 0), 0, 1 + 2, 5, 2);
        range("next: p of six", HonestGold::next, 0, 0, 5, 0);
        rangeElse("shelves: p of six", (x, v) -> x.shelves(20, 9, v), -1, 0, 5, 5, -10);
    }

    private void pairsOfSix() {
        range("hands: p of six", (x, v) -> x.hands(v, 0, 1), 1, 0, 5, 1);
        range("hands: q of six", (x, v) -> x.hands(0, v, 1), 1, 1, 5, 0);
        range("give: p of six", (x, v) -> x.give(v, 0, 1), 1, HonestGold.NO, 5, 24);
        range("give: q of six", (x, v) -> x.give(0, v, 1), 1, 27, 5, HonestGold.NO);
        rangeElse("bag: p of six", (x, v) -> x.bag(v, 0, 1, 1), 1, 2, 5, 0, -10);
        rangeElse("bag: q of six", (x, v) -> x.bag(0, v, 1, 1), 1, 1, 5, 1, -10);
        range("two: a of six", (x, v) -> x.two(v, 0), 1, 2, 5, 2);
        range("two: b of six", (x, v) -> x.two(0, v), 1, 4, 5, 4);
    }

    /** "nobody is there": there is no one to ask of, be it 0. */
    private void nobodyIsThere() {
        for (int p : new int[] {0, 1, 5, 6, -1, -2, LAST, Integer.MIN_VALUE}) {
            refused("hands: p of nobody", (x, v) -> x.hands(v, v == 0 ? 1 : 0, 1), p, HonestGold.BAD);
            refused("lie of nobody", (x, v) -> x.lie(v, 1), p, HonestGold.BAD);
            refused("give of nobody", (x, v) -> x.give(v, v == 0 ? 1 : 0, 1), p, HonestGold.BAD);
            refused("of nobody", (x, v) -> x.of(v, 0), p, HonestGold.BAD);
            refused("weighs with nobody", (x, v) -> x.weighs(v, 0), p, HonestGold.BAD);
            refused("when with nobody", (x, v) -> x.when(v, 0), p, HonestGold.BAD);
            refused("bag of nobody", (x, v) -> x.bag(v, v == 0 ? 1 : 0, 0, -1), p, -10);
            refused("debt of nobody", (x, v) -> x.debt(v, 0), p, HonestGold.BAD);
            refused("note of nobody", (x, v) -> x.note(v, 0, 0, 0), p, HonestGold.BAD);
            refused("is nobody", (x, v) -> x.is(v, 0), p, HonestGold.BAD);
            refused("next with nobody", HonestGold::next, p, HonestGold.BAD);
            refused("two of nobody", (x, v) -> x.two(v, v == 0 ? 1 : 0), p, HonestGold.BAD);
            if (p != HonestGold.NONE) {
                refused("shelves with nobody", (x, v) -> x.shelves(0, 0, v), p, -10);
            }
        }
    }
}
