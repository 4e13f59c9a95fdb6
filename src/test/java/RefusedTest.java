/** Refusals that are not of a bound, which one comes first, and calls that are none: what is left behind each. */
public final class RefusedTest {
    private static final Check CHECK = new Check();
    private static final Twins TWINS = new Twins(CHECK);

    public static void main(String[] args) {
        giveNo();
        undoNo();
        fromNo();
        full();
        badComesFirst();
        notAsMuchIsNoRefusal();
        askingChangesNothing();
        askingSixChangesNothing();
        askingNobodyChangesNothing();
        whatIsEmptyIsEmptied();
        CHECK.end();
    }

    private static void no(String what, Twins.Told told, Twins.Call call) {
        TWINS.refused(what, told, call, HonestGold.NO, Twins.NO);
    }

    private static void full(String what, Twins.Call call) {
        TWINS.refused(what, Twins::six, call, HonestGold.FULL, Twins.FULL);
    }

    private static void bad(String what, Twins.Told told, Twins.Call call) {
        TWINS.refused(what, told, call, HonestGold.BAD, Twins.BAD);
    }

    /** "NO: p does not hand to q, has not so many." */
    private static void giveNo() {
        no("p does not hand to q", Twins::three, x -> x.give(0, 2, 1));
        no("q hands to p: one way", Twins::three, x -> x.give(1, 0, 1));
        no("one more than p has", Twins::three, x -> x.give(0, 1, 8));
        no("99", Twins::three, x -> x.give(0, 1, 99));
        no("neither", Twins::three, x -> x.give(2, 0, 99));
        Twins.Told noMore = x -> {
            Twins.three(x);
            x.hands(0, 1, 0);
        };
        no("p does not hand to q any more", noMore, x -> x.give(0, 1, 1));
        Twins.Told empty = x -> {
            Twins.three(x);
            x.give(0, 1, 7);
        };
        no("p has none", empty, x -> x.give(0, 1, 1));
        HonestGold x = new HonestGold();
        Twins.three(x);
        CHECK.due("just as many as p has", x.give(0, 1, 7), 0);
    }

    /** "NO: none may be." */
    private static void undoNo() {
        no("undo of nothing", Twins::nobody, HonestGold::undo);
        no("undo behind gold", x -> {
            Twins.six(x);
            x.gold();
        }, HonestGold::undo);
        no("undo behind read", x -> {
            Twins.six(x);
            x.read();
        }, HonestGold::undo);
        no("undo behind one that comes", x -> {
            Twins.three(x);
            x.one(0, 0, 0, 0);
        }, HonestGold::undo);
        no("undo behind hands told", x -> {
            Twins.three(x);
            x.hands(2, 0, 1);
        }, HonestGold::undo);
        no("a fourth undo of three", x -> {
            Twins.three(x);
            undoSome(x, 3);
        }, HonestGold::undo);
        no("a ninth undo of ten", x -> {
            Twins.six(x);
            undoSome(x, 8);
        }, HonestGold::undo);
        no("undo behind an image of nothing to undo", x -> {
            Twins.three(x);
            x.from(0);
        }, HonestGold::undo);
    }

    private static void undoSome(HonestGold x, int steps) {
        for (int i = 0; i < steps; i++) {
            CHECK.due("one of " + steps + " that may be undone", x.undo() >= 0);
        }
    }

    /** "NO: none was kept." */
    private static void fromNo() {
        no("image 0 of a new object", Twins::nobody, x -> x.from(0));
        no("image 1 of a new object", Twins::nobody, x -> x.from(1));
        no("image 1, if 0 is kept", Twins::three, x -> x.from(1));
        no("image 0, if 1 is kept", x -> x.image(1), x -> x.from(0));
    }

    /** "FULL: 6." of PEOPLE and of NOTES; a TEXT of "150 bytes at most". */
    private static void full() {
        full("a 7th one, of the least", x -> x.one(0, 0, 0, 0));
        full("a 7th one, of the most", x -> x.one(5, 12, 30, 20));
        full("a 151st byte, the least", x -> x.type(0));
        full("a 151st byte, the greatest", x -> x.type(127));
        full("a 7th note, of the least", x -> x.note(0, 0, 0, 0));
        full("a 7th note, of the most", x -> x.note(5, 99, 2000, 99));
    }

    /** "Refused .. the first of: BAD -2 a number is not as told; NO -3 as told; FULL -4" */
    private static void badComesFirst() {
        bad("a 7th one of a bad kind", Twins::six, x -> x.one(6, 0, 0, 0));
        bad("a 7th one of bad honesty", Twins::six, x -> x.one(0, 13, 0, 0));
        bad("a 7th one of bad pieces", Twins::six, x -> x.one(0, 0, 31, 0));
        bad("a 7th one of bad pay", Twins::six, x -> x.one(0, 0, 0, 21));
        bad("a bad 151st byte", Twins::six, x -> x.type(128));
        bad("a bad 151st byte, below", Twins::six, x -> x.type(-1));
        bad("a 7th note of nobody", Twins::six, x -> x.note(6, 0, 0, 0));
        bad("a 7th note of bad pieces", Twins::six, x -> x.note(0, 100, 0, 0));
        bad("a 7th note of a bad weight", Twins::six, x -> x.note(0, 0, 2001, 0));
        bad("a 7th note of a bad day", Twins::six, x -> x.note(0, 0, 0, 100));
        bad("0 pieces where p does not hand to q", Twins::three, x -> x.give(0, 2, 0));
        bad("100 pieces where p does not hand to q", Twins::three, x -> x.give(0, 2, 100));
        bad("100 pieces where p has not so many", Twins::three, x -> x.give(0, 1, 100));
        bad("alike, though one does not hand to oneself", Twins::three, x -> x.give(0, 0, 1));
        bad("from an image that can not be", Twins::nobody, x -> x.from(2));
        TWINS.refused("a bag of bad i, though no way", Twins::three, x -> x.bag(2, 0, 1, -2), -10, Twins.BAD);
    }

    /** "NONE", "-5: not so many" and "-10 less the FAULT" are told neither as BAD nor as NO nor as FULL. */
    private static void notAsMuchIsNoRefusal() {
        TWINS.asks("when: none", Twins::three, x -> x.when(0, 999), HonestGold.NONE);
        TWINS.asks("debt: none", Twins::three, x -> x.debt(0, 999), HonestGold.NONE);
        TWINS.asks("next: no kind", Twins::three, x -> x.next(0), HonestGold.NONE);
        TWINS.asks("bag: no way", Twins::three, x -> x.bag(2, 0, 1, -1), HonestGold.NONE);
        TWINS.asks("bag: no way, hand 0", Twins::three, x -> x.bag(2, 0, 1, 0), HonestGold.NONE);
        TWINS.asks("bag: not so many", Twins::three, x -> x.bag(0, 2, 1, 3), -5);
        TWINS.asks("read: an empty text", Twins::nobody, HonestGold::read, -10);
        Twins.Told spoilt = x -> {
            Twins.three(x);
            x.type('g');
        };
        TWINS.asks("read: a fault", spoilt, HonestGold::read, -35);
    }

    /** "(Nothing is changed by these.)" */
    private static void askingChangesNothing() {
        TWINS.asks("of", Twins::three, x -> x.of(0, 1), 8);
        TWINS.asks("weighs", Twins::three, x -> x.weighs(0, 1), 8);
        TWINS.asks("all", Twins::three, HonestGold::all, 140);
        TWINS.asks("when", Twins::three, x -> x.when(0, 60), 1);
        TWINS.asks("bag", Twins::three, x -> x.bag(0, 2, 1, -1), 3);
        TWINS.asks("bag's hand", Twins::three, x -> x.bag(0, 2, 1, 1), 1);
        TWINS.asks("debt", Twins::three, x -> x.debt(0, 60), 8);
        TWINS.asks("hire", Twins::three, x -> x.hire(120, 1, 0), 7);
        TWINS.asks("shelves", Twins::three, x -> x.shelves(20, 1, -1), 66);
        TWINS.asks("is", Twins::three, x -> x.is(0, 1), 1 << 7);
        TWINS.asks("next", Twins::three, x -> x.next(2), 0);
        TWINS.asks("two", Twins::three, x -> x.two(0, 2), 4 + 8);
        TWINS.asks("years", Twins::three, x -> x.years(0, 60), 187);
        TWINS.asks("years", Twins::three, x -> x.years(999999, 60), 231);
        TWINS.asks("part", Twins::three, x -> x.part(0), 25);
        TWINS.asks("status", Twins::three, x -> x.status(0), 1);
        TWINS.asks("count", Twins::three, x -> x.count(1), 1);
        TWINS.asks("digest", Twins::three, HonestGold::digest, Check.mix(3, 1, 25, 0, 2, 3, 25,
            0, 8, 7, 3, 0, 2, 3, 2, 8, 2, 0, 4, 4, 12, 10, 5, 0, 0, 0, 3, 21, 1, 2, 2, 12, 1, 25, 2));
    }

    private static void askingSixChangesNothing() {
        TWINS.asks("of", Twins::six, x -> x.of(5, 4), 1);
        TWINS.asks("weighs", Twins::six, x -> x.weighs(5, 99), 60);
        TWINS.asks("when", Twins::six, x -> x.when(4, 150), 1);
        TWINS.asks("bag", Twins::six, x -> x.bag(0, 5, 9, 5), 5);
        TWINS.asks("debt", Twins::six, x -> x.debt(5, 999), HonestGold.NONE);
        TWINS.asks("hire", Twins::six, x -> x.hire(120, 99, 0), 63 - 16);
        TWINS.asks("shelves", Twins::six, x -> x.shelves(20, 9, 5), 5);
        TWINS.asks("is", Twins::six, x -> x.is(5, 0), 2);
        TWINS.asks("next", Twins::six, x -> x.next(5), 0);
        TWINS.asks("two", Twins::six, x -> x.two(0, 5), 4);
        TWINS.asks("status", Twins::six, x -> x.status(2), 0);
        TWINS.asks("count", Twins::six, x -> x.count(6), 150);
    }

    /** "nobody is there" */
    private static void askingNobodyChangesNothing() {
        TWINS.asks("all", Twins::nobody, HonestGold::all, 0);
        TWINS.asks("hire", Twins::nobody, x -> x.hire(120, 99, 0), 0);
        TWINS.asks("hire, how much", Twins::nobody, x -> x.hire(120, 99, 1), 0);
        TWINS.asks("shelves: 0: nobody is there", Twins::nobody, x -> x.shelves(20, 9, -1), 0);
        TWINS.asks("years", Twins::nobody, x -> x.years(999999, 60), 0);
        TWINS.asks("digest", Twins::nobody, HonestGold::digest, Check.mix(0, 0, 0, 0, 0, 0, 0, 0, 1));
        for (int what = 0; what <= 6; what++) {
            int asked = what;
            TWINS.asks("count(" + what + ")", Twins::nobody, x -> x.count(asked), 0);
        }
        for (int what = 0; what <= 2; what++) {
            int asked = what;
            TWINS.asks("status(" + what + ")", Twins::nobody, x -> x.status(asked), 0);
        }
        TWINS.asks("above", Twins::nobody, x -> x.part(0), 0);
        TWINS.asks("below", Twins::nobody, x -> x.part(1), 1);
    }

    /** No NOTES, an empty TEXT, no PEOPLE: there were 0, and nothing is changed. */
    private static void whatIsEmptyIsEmptied() {
        Twins.Told bare = x -> {
            Twins.six(x);
            x.clear();
            x.forget();
        };
        TWINS.asks("clear of an empty text", bare, HonestGold::clear, 0);
        TWINS.asks("forget without notes", bare, HonestGold::forget, 0);
        Twins.Told gone = x -> {
            Twins.six(x);
            x.gold();
        };
        TWINS.asks("gold with nobody", gone, HonestGold::gold, 0);
        TWINS.asks("gold of a new object", Twins::nobody, HonestGold::gold, 0);
    }
}
