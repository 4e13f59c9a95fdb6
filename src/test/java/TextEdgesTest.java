/** The sentences on THE TEXT at their edges, promises 5 to 7: what can be read, and each FAULT that is named. */
public final class TextEdgesTest {
    private static final Check CHECK = new Check();
    private static final Twins TWINS = new Twins(CHECK);
    private static final String SIX =
        "gold;one 0 0 0 0;one 0 0 0 0;one 0 0 0 0;one 0 0 0 0;one 0 0 0 0;one 0 0 0 0;";
    private static final String TWO = "gold;one 0 9 9 9;one 0 9 9 9;";

    public static void main(String[] args) {
        atMost150Bytes();
        clearTellsHowManyItHad();
        aFullTextIsRead();
        aTextMayBeReadAgain();
        goldAloneIsNobody();
        numbersOfOne();
        figuresOfANumber();
        handsToOthersAny();
        handsToThoseAlone();
        liesOfAText();
        blanksBetween();
        readTakesThePlaceOfAll();
        nobodyLiedButByTheText();
        readLeavesFour();
        aWordThatIsNone();
        goldAgain();
        anythingAheadOfGold();
        aSeventhOne();
        runsOfThreeFigures();
        numbersOfOneNotAsTold();
        numbersOfLiesNotAsTold();
        oneWhoIsNotThereYet();
        oneselfWhereAnotherIsTold();
        bytesThatBeginNone();
        tokensThatCanNotStandThere();
        textsThatEndTooEarly();
        anEmptyText();
        theFirstFaultIsTold();
        aMendedTextIsRead();
        CHECK.end();
    }

    /** Where ^ stands, the FAULT is due; the sign itself is left out. All stays, and it is no refusal. */
    private static void fault(String marked) {
        int place = marked.indexOf('^');
        faultAt(place, marked.substring(0, place) + marked.substring(place + 1));
    }

    private static void faultAt(int place, String text) {
        Twins.Told told = x -> {
            Twins.three(x);
            x.clear();
            Twins.type(x, text);
        };
        TWINS.asks("read of '" + text + "'", told, HonestGold::read, -10 - place);
    }

    private static HonestGold good(String text, int items) {
        HonestGold x = new HonestGold();
        CHECK.due("read of '" + text + "'", Check.read(x, text), items);
        CHECK.due("the text stays", x.count(6), text.length());
        return x;
    }

    private static void ofOne(HonestGold x, int p, int... due) {
        for (int what = 0; what < due.length; what++) {
            CHECK.due("of(" + p + ", " + what + ")", x.of(p, what), due[what]);
        }
    }

    /** "A byte (0 .. 127) comes behind THE TEXT: how many it has"; "150 bytes at most" */
    private static void atMost150Bytes() {
        HonestGold x = new HonestGold();
        for (int i = 0; i < 150; i++) {
            CHECK.due("byte " + i, x.type(i % 128), i + 1);
            CHECK.due("count(6)", x.count(6), i + 1);
        }
        CHECK.due("a 151st", x.type(0), HonestGold.FULL);
        CHECK.due("150 still", x.count(6), 150);
    }

    /** "THE TEXT is empty: how many it had" */
    private static void clearTellsHowManyItHad() {
        for (int length : new int[] {0, 1, 149, 150}) {
            HonestGold x = new HonestGold();
            Twins.type(x, ";".repeat(length));
            CHECK.due("clear", x.clear(), length);
            CHECK.due("it is empty", x.count(6), 0);
            CHECK.due("and was", x.clear(), 0);
            CHECK.due("the first byte again", x.type(';'), 1);
        }
    }

    /** "a TEXT (150 bytes at most)" is read to its last byte. */
    private static void aFullTextIsRead() {
        HonestGold x = good(Twins.FULL_TEXT, 10);
        ofOne(x, 5, 5, 4, 30, 20, 1, 31);
        String hands = TWO + "hands 0 1;".repeat(11);
        good(hands + "lie 0 4" + " ".repeat(3) + ";", 15);
        fault(hands + "lie 0 4" + " ".repeat(4) + "^");
        fault(hands + " ".repeat(10) + "^x");
        fault(" ".repeat(150) + "^");
    }

    private static void aTextMayBeReadAgain() {
        HonestGold x = good("gold;one 0 9 9 9;lie 0 1;", 3);
        x.day();
        CHECK.due("again", x.read(), 3);
        CHECK.due("day 0", x.count(1), 0);
        CHECK.due("honesty", x.of(0, 1), 8);
        Twins.type(x, "lie 0 1;");
        CHECK.due("with one item more", x.read(), 4);
        CHECK.due("honesty", x.of(0, 1), 7);
    }

    /** "gold (once, first of all)": it is an ITEM, and enough. */
    private static void goldAloneIsNobody() {
        HonestGold x = new HonestGold();
        Twins.six(x);
        CHECK.due("gold;", Check.read(x, "gold;"), 1);
        CHECK.due("nobody is there", x.count(0), 0);
        CHECK.due("nothing weighs", x.all(), 0);
    }

    /** "one KIND HONESTY PIECES PAY": the least and the greatest. */
    private static void numbersOfOne() {
        HonestGold x = good("gold;one 0 0 0 0;one 5 12 30 20;", 3);
        ofOne(x, 0, 0, 0, 0, 0, 0, 0);
        ofOne(x, 1, 5, 12, 30, 20, 0, 0);
        CHECK.due("six", Check.read(x, SIX), 7);
        CHECK.due("are there", x.count(0), 6);
    }

    /** "figures (1 or 2 are one number)" */
    private static void figuresOfANumber() {
        HonestGold x = good("gold;one 00 09 00 01;one 05 9 9 9;lie 01 04;hands 00 01;", 5);
        ofOne(x, 0, 0, 9, 0, 1, 0, 2);
        ofOne(x, 1, 5, 1, 9, 9, 1, 0);
        fault("gold;one 0 9 9 ^009;");
        fault("gold;one ^99 9 9 9;");
    }

    /** "hands p and those to whom one hands (others; any ..)": none of them, and all. */
    private static void handsToOthersAny() {
        HonestGold x = good(SIX + "hands 5;hands 0 5 4 3 2 1;hands 5 0 1 2 3 4;", 10);
        CHECK.due("0 to all", x.of(0, 5), 62);
        CHECK.due("5 to all", x.of(5, 5), 31);
        CHECK.due("1 to none", x.of(1, 5), 0);
        CHECK.due("one told twice", good(TWO + "hands 0 1 1;", 4).of(0, 5), 2);
    }

    /** "(.. those alone)" */
    private static void handsToThoseAlone() {
        HonestGold x = good(SIX + "hands 0 1 2;hands 1 0;hands 0 3;hands 1;", 11);
        CHECK.due("0 to the last told alone", x.of(0, 5), 8);
        CHECK.due("1 to none any more", x.of(1, 5), 0);
    }

    /** "lie p s": the least and the greatest, any many, 0 kept. */
    private static void liesOfAText() {
        HonestGold x = good("gold;one 0 12 9 0;one 1 12 9 0;one 0 3 9 0;lie 0 1;lie 1 4;lie 1 4;lie 2 4;", 8);
        int[] due = {11, 2, 0};
        for (int p = 0; p < 3; p++) {
            CHECK.due("honesty", x.of(p, 1), due[p]);
            CHECK.due("lied", x.of(p, 4), 1);
        }
        x.day();
        CHECK.due("not mended", x.of(0, 1), 11);
    }

    /** "blanks (32) between": any many, ahead and at the end, too; none where a TOKEN ends by itself. */
    private static void blanksBetween() {
        HonestGold x = good("  gold  ;  one  1  2  3  4  ;  ", 2);
        ofOne(x, 0, 1, 2, 3, 4);
        x = good("gold;one1 2 3 4;one5 6 7 8;hands1 0;lie1 1;", 5);
        ofOne(x, 1, 5, 4, 7, 8, 1, 1);
        fault("gold;one 1 2 3 4^hands;");
        fault("gold;^onehands 1 2 3 4;");
        fault("gold;one 1 12 3^;");
        fault("^go ld;");
    }

    /** "takes the place of all .. (DAY 0, NOTES none; nothing to undo)" */
    private static void readTakesThePlaceOfAll() {
        HonestGold x = new HonestGold();
        Twins.six(x);
        CHECK.due("read", Check.read(x, "gold;one 0 9 9 9;lie 0 1;one 1 1 1 1;"), 4);
        int[] due = {2, 0, 10, 1, 0, 0, 37};
        for (int what = 0; what <= 6; what++) {
            CHECK.due("count(" + what + ")", x.count(what), due[what]);
        }
        CHECK.due("nothing to undo, not even the lie", x.undo(), HonestGold.NO);
        ofOne(x, 0, 0, 8, 9, 9, 1, 0);
        ofOne(x, 1, 1, 1, 1, 1, 0, 0);
        x.one(0, 0, 0, 0);
        ofOne(x, 2, 0, 0, 0, 0, 0, 0);
    }

    /** Who LIED, and to whom one hands, is told by this TEXT alone: not by one that was read, or failed, ahead of it. */
    private static void nobodyLiedButByTheText() {
        HonestGold x = new HonestGold();
        CHECK.due("with lies", Check.read(x, TWO + "lie 0 1;lie 1 1;hands 0 1;hands 1 0;"), 7);
        CHECK.due("years ask aside", x.years(0, 1), 144);
        CHECK.due("with a fault behind lies", Check.read(x, TWO + "lie 0 1;lie 1 1;hands 0 1;hands 1 0;;"), -75);
        CHECK.due("without", Check.read(x, TWO), 3);
        CHECK.due("nobody lied", x.count(3), 0);
        ofOne(x, 0, 0, 9, 9, 9, 0, 0);
        ofOne(x, 1, 0, 9, 9, 9, 0, 0);
    }

    /** "all but IMAGES, THE TEXT, THE FRACTION, STATUS" */
    private static void readLeavesFour() {
        HonestGold x = new HonestGold();
        Twins.six(x);
        x.type(0);
        x.lie(6, 1);
        x.lie(6, 1);
        CHECK.due("read", x.read(), 10);
        CHECK.due("the text", x.count(6), 150);
        CHECK.due("the fraction", x.part(0), 708);
        CHECK.due("by 5", x.part(1), 5);
        CHECK.due("BAD", x.status(0), 2);
        CHECK.due("NO", x.status(1), 0);
        CHECK.due("FULL", x.status(2), 1);
        CHECK.due("image 1", x.from(1), 1);
        CHECK.due("its steps", x.count(5), 8);
        CHECK.due("its notes", x.count(4), 6);
        CHECK.due("image 0", x.from(0), 1);
        CHECK.due("its pieces", x.count(2), 165);
    }

    /** "a word that is none" */
    private static void aWordThatIsNone() {
        String[] none = {"a", "z", "on", "ones", "onz", "ane", "hand", "handss", "hangs", "zzzzz", "li", "lies", "lit", "line"};
        for (String word : none) {
            fault("gold;^" + word + " 0 1 1 1;");
            fault("gold;one 0 1 1 1;^" + word);
        }
        for (String word : new String[] {"gol", "golds", "golc", "old", "hold", "g", "zzzz"}) {
            fault("^" + word + ";");
        }
        fault("gold;one 0 ^zero 1 1;");
    }

    /** "gold again" */
    private static void goldAgain() {
        fault("gold;^gold;");
        fault("gold;one 0 1 1 1;^gold;");
        fault("gold;  ^gold");
        fault("gold ^gold;");
    }

    /** "anything ahead of it" */
    private static void anythingAheadOfGold() {
        fault("^one 0 1 1 1;gold;");
        fault(" ^hands;gold;");
        fault("^lie 0 1;");
        fault("^;gold;");
        fault("^0 gold;");
        fault("  ^1gold;");
        fault("^agold;");
    }

    /** "a 7th one at its word" */
    private static void aSeventhOne() {
        fault(SIX + "^one 0 0 0 0;");
        fault(SIX + "lie 5 1; ^one");
        fault(SIX + "hands 5 0;^one 9 99 999;");
        good(SIX + "lie 5 1;", 8);
    }

    /** "a run of three figures or more (at its first one)" */
    private static void runsOfThreeFigures() {
        fault("gold;one ^000 1 1 1;");
        fault("gold;one 0 ^001 1 1;");
        fault("gold;one 0 1 ^0001 1;");
        fault("gold;one 0 1 1 ^00000000000000000000000000000001;");
        fault("gold;one 0 1 1 1 ^111;");
        fault(TWO + "hands ^000 1;");
        fault(TWO + "hands 0 ^001;");
        fault(TWO + "lie ^000 1;");
        fault(TWO + "lie 0 ^001;");
        fault("^123;");
        fault("gold;one 0 1 1 ^4294967297;");
    }

    /** "a number not as told": each of one's, one beyond the greatest. */
    private static void numbersOfOneNotAsTold() {
        fault("gold;one ^6 1 1 1;");
        fault("gold;one ^10 1 1 1;");
        fault("gold;one 0 ^13 1 1;");
        fault("gold;one 0 ^99 1 1;");
        fault("gold;one 0 1 ^31 1;");
        fault("gold;one 0 1 ^99 1;");
        fault("gold;one 0 1 1 ^21;");
        fault("gold;one 0 1 1 ^99;");
    }

    /** "a number not as told": a LIE's size is 1 .. 4. */
    private static void numbersOfLiesNotAsTold() {
        fault(TWO + "lie 0 ^0;");
        fault(TWO + "lie 0 ^00;");
        fault(TWO + "lie 0 ^5;");
        fault(TWO + "lie 1 ^10;");
    }

    /** "also of one who is not there yet" */
    private static void oneWhoIsNotThereYet() {
        fault("gold;hands ^0;one 0 9 9 9;");
        fault("gold;lie ^0 1;one 0 9 9 9;");
        fault(TWO + "hands ^2 0;one 0 9 9 9;");
        fault(TWO + "hands 0 1 ^2;one 0 9 9 9;");
        fault(TWO + "lie ^2 1;one 0 9 9 9;");
        fault(SIX + "hands ^6;");
        fault(SIX + "hands 5 ^6;");
        fault(SIX + "lie ^6 1;");
        fault(SIX + "lie ^32 1;");
        good(TWO + "hands 1 0;lie 1 1;one 0 9 9 9;hands 2 1 0;lie 2 1;", 8);
    }

    /** "oneself where another is told" */
    private static void oneselfWhereAnotherIsTold() {
        fault("gold;one 0 9 9 9;hands 0 ^0;");
        fault(TWO + "hands 1 0 ^1;");
        fault(TWO + "hands 0 1 ^00 1;");
        fault(SIX + "hands 5 0 1 2 3 4 ^5;");
    }

    /** "a byte that begins none, too" */
    private static void bytesThatBeginNone() {
        for (int c = 0; c <= 127; c++) {
            boolean begins = c == ' ' || c == ';' || c >= '0' && c <= '9' || c >= 'a' && c <= 'z';
            if (!begins) {
                faultAt(0, (char) c + "gold;");
                faultAt(5, "gold;" + (char) c + "one 0 9 9 9;");
                faultAt(11, "gold;one 0 " + (char) c + " 9 9;");
            }
        }
        fault("gold^\t;");
        fault("gold;^\none 0 9 9 9;");
        fault("^Gold;");
        fault("^golD;");
        fault("gold;one ^-1 9 9 9;");
        fault("gold;one 0 9 9 9^.");
    }

    /** "the first TOKEN that can not stand there" */
    private static void tokensThatCanNotStandThere() {
        fault("gold;^;");
        fault("gold;^0;");
        fault("gold ^0;");
        fault("gold ^one 0 9 9 9;");
        fault("gold;one^;");
        fault("gold;one 0^;");
        fault("gold;one 0 9^;");
        fault("gold;one 0 9 9^;");
        fault("gold;one 0 9 9 9 ^9;");
        fault("gold;one 0 9 9 9 ^one;");
        fault("gold;one ^one;");
        fault(TWO + "hands^;");
        fault(TWO + "hands ^lie;");
        fault(TWO + "hands 0 ^lie 0 1;");
        fault(TWO + "lie^;");
        fault(TWO + "lie 0^;");
        fault(TWO + "lie 0 1 ^1;");
        fault(TWO + "lie 0 1 ^hands;");
    }

    /** "the TEXT's length, if it ends too early" */
    private static void textsThatEndTooEarly() {
        fault("gold^");
        fault("gold   ^");
        fault("gold;one^");
        fault("gold;one ^");
        fault("gold;one 0^");
        fault("gold;one 0 9^");
        fault("gold;one 0 9 9^");
        fault("gold;one 0 9 9 9^");
        fault("gold;one 0 9 9 9  ^");
        fault(TWO + "hands^");
        fault(TWO + "hands 0^");
        fault(TWO + "hands 0 1 ^");
        fault(TWO + "lie^");
        fault(TWO + "lie 0^");
        fault(TWO + "lie 0 4^");
    }

    /** "(an empty one, too)" */
    private static void anEmptyText() {
        fault("^");
        fault(" ^");
        fault("     ^");
        TWINS.asks("of a new object", Twins::nobody, HonestGold::read, -10);
    }

    /** "the first TOKEN": what is wrong behind it does not matter, what is right does not help. */
    private static void theFirstFaultIsTold() {
        fault("gold;one ^6 13 31 21;gold;;");
        fault("gold;one 5 ^13 31 21;gold;;");
        fault("gold;one 5 12 ^31 21;gold;;");
        fault("gold;one 5 12 30 ^21;gold;;");
        fault(TWO + "hands 0 ^0 7 x;");
        fault(TWO + "lie ^7 7;");
        fault("gold;^x;one 0 9 9 9;");
    }

    /** A FAULT is of that reading alone. */
    private static void aMendedTextIsRead() {
        HonestGold x = new HonestGold();
        Twins.type(x, "gold;one 0 9 9 9");
        CHECK.due("too early", x.read(), -26);
        CHECK.due("again", x.read(), -26);
        x.type(';');
        CHECK.due("then not", x.read(), 2);
        CHECK.due("one is there", x.count(0), 1);
        x.type(';');
        CHECK.due("a fault behind it", x.read(), -27);
        CHECK.due("one is there still", x.count(0), 1);
        CHECK.due("another text", Check.read(x, "gold;"), 1);
        CHECK.due("nobody is there", x.count(0), 0);
    }
}
