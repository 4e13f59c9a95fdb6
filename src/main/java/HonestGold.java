/** A treasury whose gold weighs by the honesty of the hand that holds it. */
public final class HonestGold {
    public static final int NONE = -1, BAD = -2, NO = -3, FULL = -4;

    private static final int PEOPLE_AT_MOST = 6;
    private static final int KINDS = 6;
    private static final int HONESTY_AT_MOST = 12;
    private static final int OWN_PIECES_AT_MOST = 30;
    private static final int PAY_AT_MOST = 20;
    private static final int LIE_AT_MOST = 4;
    private static final int LAST_DAY = 999;
    private static final int BANKER_WEIGHT_AT_MOST = 60;
    private static final int PIECES_ASKED_AT_MOST = 99;
    private static final int WEIGHT_ASKED_AT_MOST = 999;
    private static final int DAYS_AHEAD_AT_MOST = 60;
    private static final int HIRE_PAY_AT_MOST = 120;
    private static final int FIRST_BAG_AT_MOST = 20;
    private static final int BAG_STEP_AT_MOST = 9;
    private static final int NOTES_AT_MOST = 6;
    private static final int NOTE_WEIGHT_AT_MOST = 2000;
    private static final int NOTE_DAY_AT_MOST = 99;
    private static final int NEXT_PIECES_AT_MOST = 20;
    private static final int ODDS = 10;
    private static final int SEED_AT_MOST = 999999;
    private static final int YEARS_AT_MOST = 60;
    private static final int STEPS_AT_MOST = 8;
    private static final int TEXT_AT_MOST = 150;
    private static final int BYTE_AT_MOST = 127;
    private static final int IMAGES = 2;
    private static final int COUNTS = 7;
    private static final int NOT_SO_MANY = -5;
    private static final int BAD_IN_A_ROW = -10;
    private static final int FAULT_AT_0 = -10;

    private final Treasury now;
    /** Readings and forecasts happen here, so that a fault or a question leaves all as it is. */
    private final Treasury aside;
    private final Treasury[] images;
    private final Reader reader;
    private final Ways ways;
    private long above;
    private long below;
    private int badCalls;
    private int noCalls;
    private int fullCalls;

    public HonestGold() {
        now = new Treasury();
        aside = new Treasury();
        images = new Treasury[IMAGES];
        reader = new Reader();
        ways = new Ways();
        above = 0;
        below = 1;
    }

    // ---- a treasury

    public int gold() {
        int were = now.people();
        now.empty();
        return were;
    }

    public int one(int kind, int honesty, int pieces, int pay) {
        if (!within(kind, 0, KINDS - 1) || !within(honesty, 0, HONESTY_AT_MOST)
                || !within(pieces, 0, OWN_PIECES_AT_MOST) || !within(pay, 0, PAY_AT_MOST)) {
            return refuseBad();
        }
        if (now.people() >= PEOPLE_AT_MOST) {
            return refuseFull();
        }
        now.forgetSteps();
        return now.join(kind, honesty, pieces, pay);
    }

    public int hands(int p, int q, int is) {
        if (!twoOfThem(p, q) || !within(is, 0, 1)) {
            return refuseBad();
        }
        int before = now.handsOf(p);
        int bit = 1 << q;
        now.forgetSteps();
        now.tellHands(p, is == 1 ? before | bit : before & ~bit);
        return (before & bit) != 0 ? 1 : 0;
    }

    public int type(int c) {
        if (!within(c, 0, BYTE_AT_MOST)) {
            return refuseBad();
        }
        if (reader.length() >= TEXT_AT_MOST) {
            return refuseFull();
        }
        return reader.append(c);
    }

    public int clear() {
        int had = reader.length();
        reader.drop();
        return had;
    }

    public int read() {
        int items = reader.readInto(aside);
        if (reader.faultAt() >= 0) {
            return FAULT_AT_0 - reader.faultAt();
        }
        now.copyFrom(aside);
        return items;
    }

    // ---- days

    public int lie(int p, int s) {
        if (!now.isThere(p) || !within(s, 1, LIE_AT_MOST)) {
            return refuseBad();
        }
        now.keepStep();
        now.tellLie(p, s);
        return now.honestyOf(p);
    }

    public int give(int p, int q, int n) {
        if (!twoOfThem(p, q) || !within(n, 1, PIECES_ASKED_AT_MOST)) {
            return refuseBad();
        }
        if ((now.handsOf(p) & 1 << q) == 0 || now.piecesOf(p) < n) {
            return refuseNo();
        }
        now.keepStep();
        now.handOn(p, q, n);
        return now.piecesOf(p);
    }

    public int day() {
        now.keepStep();
        now.passDay();
        return now.today();
    }

    public int undo() {
        if (now.steps() == 0) {
            return refuseNo();
        }
        now.stepBack();
        return now.today();
    }

    public int of(int p, int what) {
        if (!now.isThere(p)) {
            return refuseBad();
        }
        switch (what) {
            case 0: return now.kindOf(p);
            case 1: return now.honestyOf(p);
            case 2: return now.piecesOf(p);
            case 3: return now.payOf(p);
            case 4: return now.liedOf(p);
            case 5: return now.handsOf(p);
            case 6: return now.ownWeight(p);
            default: return refuseBad();
        }
    }

    // ---- what it weighs

    public int weighs(int p, int n) {
        if (!now.isThere(p) || !within(n, 0, PIECES_ASKED_AT_MOST)) {
            return refuseBad();
        }
        return now.weightWith(p, n);
    }

    public int all() {
        return now.allWeight();
    }

    public int when(int p, int w) {
        if (!now.isThere(p) || !within(w, 0, WEIGHT_ASKED_AT_MOST)) {
            return refuseBad();
        }
        return now.daysUntil(p, w);
    }

    public int bag(int p, int q, int n, int i) {
        if (!twoOfThem(p, q) || !within(n, 0, PIECES_ASKED_AT_MOST) || i < NONE) {
            refuseBad();
            return BAD_IN_A_ROW;
        }
        int most = ways.carry(now, p, q, n);
        if (most == NONE || i == NONE) {
            return most;
        }
        return ways.handAt(now, p, i);
    }

    public int debt(int p, int w) {
        if (!now.isThere(p) || !within(w, 0, WEIGHT_ASKED_AT_MOST)) {
            return refuseBad();
        }
        return now.fewestPieces(p, w);
    }

    public int hire(int b, int n, int what) {
        if (!within(b, 0, HIRE_PAY_AT_MOST) || !within(n, 0, PIECES_ASKED_AT_MOST) || !within(what, 0, 1)) {
            return refuseBad();
        }
        int who = ways.weighers(now, b, n);
        return what == 0 ? who : ways.weightTogether(who);
    }

    public int shelves(int a, int c, int p) {
        if (!within(a, 0, FIRST_BAG_AT_MOST) || !within(c, 0, BAG_STEP_AT_MOST) || p != NONE && !now.isThere(p)) {
            refuseBad();
            return BAD_IN_A_ROW;
        }
        int lightest = ways.shelve(now, a, c);
        return p == NONE ? lightest : ways.bagOf(p, now.people());
    }

    // ---- how honest

    public int note(int p, int n, int w, int d) {
        if (!now.isThere(p) || !within(n, 0, PIECES_ASKED_AT_MOST)
                || !within(w, 0, NOTE_WEIGHT_AT_MOST) || !within(d, 0, NOTE_DAY_AT_MOST)) {
            return refuseBad();
        }
        if (now.notes().size() >= NOTES_AT_MOST) {
            return refuseFull();
        }
        return now.notes().add(p, n, w, d);
    }

    public int forget() {
        int were = now.notes().size();
        now.notes().drop();
        return were;
    }

    public int is(int p, int what) {
        if (!now.isThere(p) || !within(what, 0, 1)) {
            return refuseBad();
        }
        return what == 0 ? now.notes().kindsThatFit(now, p) : now.notes().honestiesThatFit(now, p);
    }

    public int next(int p) {
        if (!now.isThere(p)) {
            return refuseBad();
        }
        int fitting = now.notes().kindsThatFit(now, p);
        return Notes.bestWeighing(now, fitting, now.honestyOf(p));
    }

    public int two(int a, int b) {
        if (!twoOfThem(a, b)) {
            return refuseBad();
        }
        int truthOfA = now.truthWorth(a);
        int truthOfB = now.truthWorth(b);
        int rest = 0;
        for (int pair = 0; pair < 4; pair++) {
            boolean lyingA = (pair & 1) != 0;
            boolean lyingB = (pair & 2) != 0;
            if (isContent(truthOfA, lyingA, lyingB) && isContent(truthOfB, lyingB, lyingA)) {
                rest |= 1 << pair;
            }
        }
        return rest;
    }

    public int winds(int w, int c) {
        if (!within(w, 0, WEIGHT_ASKED_AT_MOST) || !within(c, 0, ODDS)) {
            return refuseBad();
        }
        int tenths = 0;
        for (int p = 0; p < now.people(); p++) {
            int staying = now.ownWeight(p) < w ? ODDS - c : ODDS;
            tenths += staying * now.piecesOf(p);
        }
        keepFraction(tenths, ODDS);
        return 1;
    }

    public int years(int seed, int n) {
        if (!within(seed, 0, SEED_AT_MOST) || !within(n, 0, YEARS_AT_MOST)) {
            return refuseBad();
        }
        aside.copyFrom(now);
        long x = seed;
        for (int i = 0; i < n; i++) {
            x = (x * 1103515245L + 12345L) % 2147483648L;
            int p = (int) (x / 65536L % 6L);
            int s = (int) (x / 1048576L % 5L);
            if (s != 0) {
                aside.tellLie(p, s);
            }
            aside.passDay();
        }
        return aside.allWeight();
    }

    // ---- what there is

    public long part(int what) {
        switch (what) {
            case 0: return above;
            case 1: return below;
            default: return refuseBad();
        }
    }

    public int image(int i) {
        if (!within(i, 0, IMAGES - 1)) {
            return refuseBad();
        }
        if (images[i] == null) {
            images[i] = new Treasury();
        }
        images[i].copyFrom(now);
        return 1;
    }

    public int from(int i) {
        if (!within(i, 0, IMAGES - 1)) {
            return refuseBad();
        }
        if (images[i] == null) {
            return refuseNo();
        }
        now.copyFrom(images[i]);
        return 1;
    }

    public int status(int what) {
        switch (what) {
            case 0: return badCalls;
            case 1: return noCalls;
            case 2: return fullCalls;
            default:
                refuseBad();
                return -1;
        }
    }

    public int count(int what) {
        return within(what, 0, COUNTS - 1) ? counted(what) : refuseBad();
    }

    public long digest() {
        long h = 1307;
        for (int what = 0; what < COUNTS; what++) {
            h = 31 * h + counted(what);
        }
        h = now.mixInto(h);
        h = 31 * h + above;
        return 31 * h + below;
    }

    // ---- helpers of the face

    private static boolean within(int value, int least, int most) {
        return value >= least && value <= most;
    }

    private boolean twoOfThem(int p, int q) {
        return now.isThere(p) && now.isThere(q) && p != q;
    }

    private int refuseBad() {
        badCalls++;
        return BAD;
    }

    private int refuseNo() {
        noCalls++;
        return NO;
    }

    private int refuseFull() {
        fullCalls++;
        return FULL;
    }

    private int counted(int what) {
        switch (what) {
            case 0: return now.people();
            case 1: return now.today();
            case 2: return now.allPieces();
            case 3: return now.liars();
            case 4: return now.notes().size();
            case 5: return now.steps();
            default: return reader.length();
        }
    }

    /** Whether one would not get more by doing otherwise than told, the other one staying as told. */
    private static boolean isContent(int truth, boolean lying, boolean otherLying) {
        int lieWorth = otherLying ? 1 : 3;
        return lying ? lieWorth >= truth : truth >= lieWorth;
    }

    private void keepFraction(long over, long under) {
        long a = over;
        long b = under;
        for (int i = 0; i < 100 && b != 0; i++) {
            long rest = a % b;
            a = b;
            b = rest;
        }
        if (a > 0) {
            above = over / a;
            below = under / a;
        }
    }

    // ---- the kinds, each under the one it extends

    static class Plain {
        int weight(int n, int honesty, int day) {
            return n * honesty;
        }

        int loss(int size) {
            return size;
        }
    }

    static final class Child extends Plain {
        int weight(int n, int honesty, int day) {
            return n * HONESTY_AT_MOST;
        }

        int loss(int size) {
            return super.loss(size) + 1;
        }
    }

    static class Half extends Plain {
        int weight(int n, int honesty, int day) {
            return super.weight(n, honesty, day) / 2;
        }

        int loss(int size) {
            return (super.loss(size) + 1) / 2;
        }
    }

    static class Smith extends Plain {
        int weight(int n, int honesty, int day) {
            return super.weight(n, honesty, day) + n;
        }

        int loss(int size) {
            return 2 * super.loss(size);
        }
    }

    static final class Minister extends Half {
        int weight(int n, int honesty, int day) {
            return day % 3 == 0 ? 0 : super.weight(n, honesty, day);
        }
    }

    static final class Banker extends Smith {
        int weight(int n, int honesty, int day) {
            return Math.min(BANKER_WEIGHT_AT_MOST, super.weight(n, honesty, day));
        }
    }

    /** All that an image keeps: the people, the day, the notes and what may be undone. */
    static final class Treasury {
        private final Plain plain;
        private final Plain[] kinds;
        private final int[] kind;
        private final int[] honesty;
        private final int[] pieces;
        private final int[] pay;
        private final int[] hands;
        private final Notes notes;
        private final Past past;
        private int people;
        private int day;
        private int lied;

        Treasury() {
            plain = new Plain();
            kinds = new Plain[] {plain, new Child(), new Half(), new Smith(), new Minister(), new Banker()};
            kind = new int[PEOPLE_AT_MOST];
            honesty = new int[PEOPLE_AT_MOST];
            pieces = new int[PEOPLE_AT_MOST];
            pay = new int[PEOPLE_AT_MOST];
            hands = new int[PEOPLE_AT_MOST];
            notes = new Notes();
            past = new Past();
        }

        void empty() {
            people = 0;
            day = 0;
            lied = 0;
            notes.drop();
            past.drop();
        }

        void copyFrom(Treasury other) {
            if (other == null) {
                return;
            }
            for (int p = 0; p < PEOPLE_AT_MOST; p++) {
                kind[p] = other.kind[p];
                honesty[p] = other.honesty[p];
                pieces[p] = other.pieces[p];
                pay[p] = other.pay[p];
                hands[p] = other.hands[p];
            }
            people = other.people;
            day = other.day;
            lied = other.lied;
            notes.copyFrom(other.notes);
            past.copyFrom(other.past);
        }

        int people() {
            return people;
        }

        boolean isThere(int p) {
            return p >= 0 && p < people && p < PEOPLE_AT_MOST;
        }

        int kindOf(int p) {
            return isThere(p) ? kind[p] : 0;
        }

        int honestyOf(int p) {
            return isThere(p) ? honesty[p] : 0;
        }

        int piecesOf(int p) {
            return isThere(p) ? pieces[p] : 0;
        }

        int payOf(int p) {
            return isThere(p) ? pay[p] : 0;
        }

        int handsOf(int p) {
            return isThere(p) ? hands[p] : 0;
        }

        int liedOf(int p) {
            return isThere(p) ? lied >> p & 1 : 0;
        }

        int today() {
            return day;
        }

        int liars() {
            return Integer.bitCount(lied);
        }

        Notes notes() {
            return notes;
        }

        int allPieces() {
            int sum = 0;
            for (int p = 0; p < people; p++) {
                sum += piecesOf(p);
            }
            return sum;
        }

        int join(int newKind, int newHonesty, int newPieces, int newPay) {
            int p = people;
            if (p < 0 || p >= PEOPLE_AT_MOST) {
                return FULL;
            }
            kind[p] = newKind;
            honesty[p] = newHonesty;
            pieces[p] = newPieces;
            pay[p] = newPay;
            hands[p] = 0;
            people = p + 1;
            return p;
        }

        void tellHands(int p, int bits) {
            if (isThere(p)) {
                hands[p] = bits;
            }
        }

        /** Nobody lies where nobody is: the years ask for such ones. */
        void tellLie(int p, int size) {
            if (isThere(p)) {
                honesty[p] = honestyBehindLie(p, size);
                lied |= 1 << p;
            }
        }

        void handOn(int p, int q, int n) {
            if (isThere(p) && isThere(q)) {
                pieces[p] -= n;
                pieces[q] += n;
            }
        }

        void passDay() {
            for (int p = 0; p < people; p++) {
                if (isThere(p)) {
                    honesty[p] = honestyAfter(p, 1);
                }
            }
            lied = 0;
            day = Math.min(LAST_DAY, day + 1);
        }

        int steps() {
            return past.size();
        }

        void forgetSteps() {
            past.drop();
        }

        void keepStep() {
            past.open();
            for (int p = 0; p < PEOPLE_AT_MOST; p++) {
                past.put(p, honesty[p]);
                past.put(PEOPLE_AT_MOST + p, pieces[p]);
            }
            past.put(Past.LIED, lied);
            past.put(Past.DAY, day);
        }

        void stepBack() {
            if (past.size() == 0) {
                return;
            }
            for (int p = 0; p < PEOPLE_AT_MOST; p++) {
                honesty[p] = past.last(p);
                pieces[p] = past.last(PEOPLE_AT_MOST + p);
            }
            lied = past.last(Past.LIED);
            day = past.last(Past.DAY);
            past.dropLast();
        }

        /** What pieces weigh by a kind that one need not be of. */
        int weightBy(int k, int n, int h, int d) {
            return kindNumbered(k).weight(n, h, d);
        }

        int weightWith(int p, int n) {
            return kindNumbered(kindOf(p)).weight(n, honestyOf(p), day);
        }

        int ownWeight(int p) {
            return weightWith(p, piecesOf(p));
        }

        int allWeight() {
            int sum = 0;
            for (int p = 0; p < people; p++) {
                sum += ownWeight(p);
            }
            return sum;
        }

        /** The days are told on beyond the last one here, for ministers weigh by their numbers. */
        int daysUntil(int p, int w) {
            for (int days = 0; days <= DAYS_AHEAD_AT_MOST; days++) {
                if (weightBy(kindOf(p), piecesOf(p), honestyAfter(p, days), day + days) >= w) {
                    return days;
                }
            }
            return NONE;
        }

        int fewestPieces(int p, int w) {
            for (int n = 0; n <= PIECES_ASKED_AT_MOST; n++) {
                if (weightWith(p, n) >= w) {
                    return n;
                }
            }
            return NONE;
        }

        int truthWorth(int p) {
            int behind = weightBy(kindOf(p), piecesOf(p), honestyBehindLie(p, 2), day);
            return (ownWeight(p) - behind) / 10;
        }

        long mixInto(long start) {
            long h = start;
            for (int p = 0; p < people; p++) {
                h = 31 * h + kindOf(p);
                h = 31 * h + honestyOf(p);
                h = 31 * h + piecesOf(p);
                h = 31 * h + payOf(p);
                h = 31 * h + liedOf(p);
                h = 31 * h + handsOf(p);
            }
            return notes.mixInto(h);
        }

        private Plain kindNumbered(int k) {
            if (k < 0 || k >= kinds.length || kinds[k] == null) {
                return plain;
            }
            return kinds[k];
        }

        private int honestyBehindLie(int p, int size) {
            return Math.max(0, honestyOf(p) - kindNumbered(kindOf(p)).loss(size));
        }

        /** Honesty so many days on, nobody lying any more; the first night mends nothing in one who lied. */
        private int honestyAfter(int p, int days) {
            int mended = Math.max(0, days - liedOf(p));
            return Math.min(HONESTY_AT_MOST, honestyOf(p) + mended);
        }
    }

    /** What may be undone: one row of numbers a step, the newest last. */
    static final class Past {
        static final int LIED = 2 * PEOPLE_AT_MOST;
        static final int DAY = LIED + 1;
        private static final int ROW = DAY + 1;

        private final int[] rows;
        private int steps;

        Past() {
            rows = new int[STEPS_AT_MOST * ROW];
        }

        int size() {
            return steps;
        }

        void drop() {
            steps = 0;
        }

        void dropLast() {
            steps = Math.max(0, steps - 1);
        }

        /** Makes room for a step, at the cost of the oldest one if need be. */
        void open() {
            if (steps < STEPS_AT_MOST) {
                steps++;
                return;
            }
            for (int i = ROW; i < rows.length; i++) {
                rows[i - ROW] = rows[i];
            }
        }

        void put(int field, int value) {
            int at = placeOf(field);
            if (at >= 0 && at < rows.length) {
                rows[at] = value;
            }
        }

        int last(int field) {
            int at = placeOf(field);
            return at >= 0 && at < rows.length ? rows[at] : 0;
        }

        void copyFrom(Past other) {
            for (int i = 0; i < STEPS_AT_MOST * ROW; i++) {
                rows[i] = other.rows[i];
            }
            steps = other.steps;
        }

        private int placeOf(int field) {
            return (steps - 1) * ROW + field;
        }
    }

    /** What was weighed, and what it tells of those with whom it was. */
    static final class Notes {
        private final int[] who;
        private final int[] pieces;
        private final int[] weight;
        private final int[] day;
        private int size;

        Notes() {
            who = new int[NOTES_AT_MOST];
            pieces = new int[NOTES_AT_MOST];
            weight = new int[NOTES_AT_MOST];
            day = new int[NOTES_AT_MOST];
        }

        int size() {
            return size;
        }

        void drop() {
            size = 0;
        }

        int add(int p, int n, int w, int d) {
            if (size < 0 || size >= NOTES_AT_MOST) {
                return FULL;
            }
            who[size] = p;
            pieces[size] = n;
            weight[size] = w;
            day[size] = d;
            size++;
            return size;
        }

        void copyFrom(Notes other) {
            for (int i = 0; i < NOTES_AT_MOST; i++) {
                who[i] = other.who[i];
                pieces[i] = other.pieces[i];
                weight[i] = other.weight[i];
                day[i] = other.day[i];
            }
            size = other.size;
        }

        int kindsThatFit(Treasury t, int p) {
            int bits = 0;
            for (int k = 0; k < KINDS; k++) {
                if (allFit(t, p, k, t.honestyOf(p))) {
                    bits |= 1 << k;
                }
            }
            return bits;
        }

        int honestiesThatFit(Treasury t, int p) {
            int bits = 0;
            for (int h = 0; h <= HONESTY_AT_MOST; h++) {
                if (allFit(t, p, t.kindOf(p), h)) {
                    bits |= 1 << h;
                }
            }
            return bits;
        }

        /** The least number of pieces that leaves the fewest of these kinds alike at worst. */
        static int bestWeighing(Treasury t, int bits, int h) {
            if (bits == 0) {
                return NONE;
            }
            int best = 0;
            int fewest = KINDS + 1;
            for (int n = 0; n <= NEXT_PIECES_AT_MOST; n++) {
                int alike = mostAlike(t, bits, n, h);
                if (alike < fewest) {
                    fewest = alike;
                    best = n;
                }
            }
            return best;
        }

        long mixInto(long start) {
            long h = start;
            for (int i = 0; i < size && i < NOTES_AT_MOST; i++) {
                h = 31 * h + who[i];
                h = 31 * h + pieces[i];
                h = 31 * h + weight[i];
                h = 31 * h + day[i];
            }
            return h;
        }

        private boolean allFit(Treasury t, int p, int k, int h) {
            for (int i = 0; i < size && i < NOTES_AT_MOST; i++) {
                if (who[i] == p && t.weightBy(k, pieces[i], h, day[i]) != weight[i]) {
                    return false;
                }
            }
            return true;
        }

        /** How many of the kinds the largest group has that n pieces could not tell apart today. */
        private static int mostAlike(Treasury t, int bits, int n, int h) {
            int most = 0;
            for (int k = 0; k < KINDS; k++) {
                int alike = 0;
                int w = t.weightBy(k, n, h, t.today());
                for (int other = 0; other < KINDS; other++) {
                    if ((bits >> other & 1) != 0 && t.weightBy(other, n, h, t.today()) == w) {
                        alike++;
                    }
                }
                if ((bits >> k & 1) != 0) {
                    most = Math.max(most, alike);
                }
            }
            return most;
        }
    }

    /** The text, and the treasury that it tells. */
    static final class Reader {
        private static final int END = 0, WORD = 1, NUMBER = 2, STOP = 3, OTHER = 4;
        private static final int NO_NUMBER = -1;

        private final int[] text;
        private int length;
        private int tokenStart;
        private int tokenEnd;
        private int token;
        private int number;
        private int fault;

        Reader() {
            text = new int[TEXT_AT_MOST];
            fault = NONE;
        }

        int length() {
            return length;
        }

        void drop() {
            length = 0;
        }

        int append(int c) {
            if (length < 0 || length >= TEXT_AT_MOST) {
                return FULL;
            }
            text[length] = c;
            length++;
            return length;
        }

        /** Where the last reading met its fault; NONE if it met none. */
        int faultAt() {
            return fault;
        }

        /** How many items were read; worthless if there was a fault. */
        int readInto(Treasury t) {
            t.empty();
            fault = NONE;
            tokenEnd = 0;
            step();
            takeGold();
            int items = 1;
            for (int i = 0; i < TEXT_AT_MOST && fault == NONE && token != END; i++) {
                items++;
                if (isWord("one") && t.people() < PEOPLE_AT_MOST) {
                    takeOne(t);
                } else if (isWord("hands")) {
                    takeHands(t);
                } else if (isWord("lie")) {
                    takeLie(t);
                } else {
                    failHere();
                }
            }
            return items;
        }

        private void takeGold() {
            if (!isWord("gold")) {
                failHere();
                return;
            }
            step();
            takeStop();
        }

        private void takeOne(Treasury t) {
            step();
            int kind = takeNumber(0, KINDS - 1);
            int honesty = takeNumber(0, HONESTY_AT_MOST);
            int pieces = takeNumber(0, OWN_PIECES_AT_MOST);
            int pay = takeNumber(0, PAY_AT_MOST);
            takeStop();
            t.join(kind, honesty, pieces, pay);
        }

        private void takeHands(Treasury t) {
            step();
            int last = t.people() - 1;
            int p = takeNumber(0, last);
            int bits = 0;
            for (int i = 0; i < TEXT_AT_MOST && fault == NONE && token == NUMBER; i++) {
                if (number == p) {
                    failHere();
                } else {
                    bits |= 1 << takeNumber(0, last);
                }
            }
            takeStop();
            t.tellHands(p, bits);
        }

        private void takeLie(Treasury t) {
            step();
            int p = takeNumber(0, t.people() - 1);
            int size = takeNumber(1, LIE_AT_MOST);
            takeStop();
            t.tellLie(p, size);
        }

        /** Behind a fault nothing is taken any more: the first one is told. */
        private int takeNumber(int least, int most) {
            if (token != NUMBER || number < least || number > most) {
                failHere();
            }
            if (fault != NONE) {
                return 0;
            }
            int taken = number;
            step();
            return taken;
        }

        private void takeStop() {
            if (token != STOP) {
                failHere();
            }
            if (fault == NONE) {
                step();
            }
        }

        private void failHere() {
            if (fault == NONE) {
                fault = tokenStart;
            }
        }

        private boolean isWord(String word) {
            if (token != WORD || tokenEnd - tokenStart != word.length()) {
                return false;
            }
            for (int i = 0; i < word.length(); i++) {
                if (byteAt(tokenStart + i) != word.charAt(i)) {
                    return false;
                }
            }
            return true;
        }

        /** Goes on to the token behind this one; the end's place is the text's length. */
        private void step() {
            tokenStart = runEnd(tokenEnd, ' ', ' ');
            int first = byteAt(tokenStart);
            if (first == NONE) {
                token = END;
                tokenEnd = tokenStart;
            } else if (first >= 'a' && first <= 'z') {
                token = WORD;
                tokenEnd = runEnd(tokenStart, 'a', 'z');
            } else if (first >= '0' && first <= '9') {
                token = NUMBER;
                tokenEnd = runEnd(tokenStart, '0', '9');
                number = numberBetween(tokenStart, tokenEnd);
            } else {
                token = first == ';' ? STOP : OTHER;
                tokenEnd = tokenStart + 1;
            }
        }

        private int runEnd(int start, int least, int most) {
            int at = start;
            while (at < length && byteAt(at) >= least && byteAt(at) <= most) {
                at++;
            }
            return at;
        }

        private int numberBetween(int start, int end) {
            int ones = byteAt(end - 1) - '0';
            switch (end - start) {
                case 1: return ones;
                case 2: return 10 * (byteAt(start) - '0') + ones;
                default: return NO_NUMBER;
            }
        }

        private int byteAt(int at) {
            return at >= 0 && at < length && at < TEXT_AT_MOST ? text[at] : NONE;
        }
    }

    /** Which of all ways is best: of a bag through hands, of weighers for pay, of bags on shelves. */
    static final class Ways {
        private static final int SETS = 1 << PEOPLE_AT_MOST;
        private static final int FAR = 99;
        private static final int HEAVIER_THAN_ALL = 1000000;

        private final int[] heft;
        private final int[] far;
        private final int[] lightest;
        private final int[] bagWeights;

        Ways() {
            heft = new int[PEOPLE_AT_MOST];
            far = new int[PEOPLE_AT_MOST];
            lightest = new int[SETS];
            bagWeights = new int[PEOPLE_AT_MOST * PEOPLE_AT_MOST];
        }

        /** The most a bag can weigh from p to q; behind it handAt tells its way. */
        int carry(Treasury t, int p, int q, int n) {
            weighEach(t, n);
            int most = NONE;
            for (int r = 0; r < t.people(); r++) {
                int w = heftOf(r);
                if (w > most && measure(t, p, q, w) < FAR) {
                    most = w;
                }
            }
            measure(t, p, q, most);
            return most;
        }

        /** From each hand to the least one that is one hand nearer: of the shortest rows the first. */
        int handAt(Treasury t, int p, int i) {
            if (i > farOf(p)) {
                return NOT_SO_MANY;
            }
            int at = p;
            for (int k = 0; k < i && k < PEOPLE_AT_MOST; k++) {
                at = nearerHand(t, at);
            }
            return at;
        }

        private int nearerHand(Treasury t, int at) {
            for (int r = 0; r < t.people(); r++) {
                if ((t.handsOf(at) >> r & 1) != 0 && farOf(r) == farOf(at) - 1) {
                    return r;
                }
            }
            return at;
        }

        /** How many steps each is from q through hands of weight w or more; answers that of p. */
        private int measure(Treasury t, int p, int q, int w) {
            for (int r = 0; r < PEOPLE_AT_MOST; r++) {
                far[r] = r == q && heftOf(q) >= w ? 0 : FAR;
            }
            for (int steps = 1; steps < PEOPLE_AT_MOST; steps++) {
                for (int r = 0; r < PEOPLE_AT_MOST; r++) {
                    if (far[r] == FAR && heftOf(r) >= w && handsToOneAt(t, r, steps - 1)) {
                        far[r] = steps;
                    }
                }
            }
            return farOf(p);
        }

        private boolean handsToOneAt(Treasury t, int r, int distance) {
            for (int other = 0; other < t.people(); other++) {
                if ((t.handsOf(r) >> other & 1) != 0 && farOf(other) == distance) {
                    return true;
                }
            }
            return false;
        }

        /** The least set of those whose hands weigh most for the pay; behind it weightTogether tells how much. */
        int weighers(Treasury t, int b, int n) {
            weighEach(t, n);
            int best = 0;
            for (int set = 0; set < 1 << t.people(); set++) {
                if (payTogether(t, set) <= b && weightTogether(set) > weightTogether(best)) {
                    best = set;
                }
            }
            return best;
        }

        int weightTogether(int set) {
            int sum = 0;
            for (int r = 0; r < PEOPLE_AT_MOST; r++) {
                if ((set >> r & 1) != 0) {
                    sum += heftOf(r);
                }
            }
            return sum;
        }

        private static int payTogether(Treasury t, int set) {
            int sum = 0;
            for (int r = 0; r < PEOPLE_AT_MOST; r++) {
                if ((set >> r & 1) != 0) {
                    sum += t.payOf(r);
                }
            }
            return sum;
        }

        /**
         * What the lightest bag weighs at best; behind it bagOf tells the way. The row has for each
         * set of bags that the first people hold the best for those behind them.
         */
        int shelve(Treasury t, int a, int c) {
            weighBags(t, a, c);
            int bags = t.people();
            int everyBag = (1 << bags) - 1;
            for (int set = everyBag; set >= 0; set--) {
                int best = set == everyBag ? HEAVIER_THAN_ALL : NONE;
                for (int b = 0; b < bags; b++) {
                    if ((set >> b & 1) == 0) {
                        best = Math.max(best, lightestWith(set, b));
                    }
                }
                putLightest(set, best);
            }
            return bags == 0 ? 0 : lightestOf(0);
        }

        /** Each takes the first bag behind which the best can still be had. */
        int bagOf(int p, int bags) {
            int set = 0;
            int taken = 0;
            for (int r = 0; r <= p && r < PEOPLE_AT_MOST; r++) {
                taken = firstBag(set, bags);
                set |= 1 << taken;
            }
            return taken;
        }

        private int firstBag(int set, int bags) {
            for (int b = 0; b < bags; b++) {
                if ((set >> b & 1) == 0 && lightestWith(set, b) >= lightestOf(0)) {
                    return b;
                }
            }
            return 0;
        }

        /** The lightest at best, if the one whose turn it is takes a bag, and of those behind. */
        private int lightestWith(int set, int b) {
            int holder = Integer.bitCount(set);
            return Math.min(bagWeight(holder, b), lightestOf(set | 1 << b));
        }

        private void weighBags(Treasury t, int a, int c) {
            for (int r = 0; r < PEOPLE_AT_MOST; r++) {
                for (int b = 0; b < PEOPLE_AT_MOST; b++) {
                    bagWeights[r * PEOPLE_AT_MOST + b] = t.weightWith(r, a + b * c);
                }
            }
        }

        private int bagWeight(int r, int b) {
            int at = r * PEOPLE_AT_MOST + b;
            return at >= 0 && at < bagWeights.length ? bagWeights[at] : NONE;
        }

        private void weighEach(Treasury t, int n) {
            for (int r = 0; r < PEOPLE_AT_MOST; r++) {
                heft[r] = t.isThere(r) ? t.weightWith(r, n) : NONE;
            }
        }

        private int heftOf(int r) {
            return r >= 0 && r < PEOPLE_AT_MOST ? heft[r] : NONE;
        }

        private int farOf(int r) {
            return r >= 0 && r < PEOPLE_AT_MOST ? far[r] : FAR;
        }

        private int lightestOf(int set) {
            return set >= 0 && set < SETS ? lightest[set] : NONE;
        }

        private void putLightest(int set, int best) {
            if (set >= 0 && set < SETS) {
                lightest[set] = best;
            }
        }
    }
}
