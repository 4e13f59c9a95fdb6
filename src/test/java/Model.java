import java.util.ArrayList;
import java.util.Arrays;
import java.util.List;
import java.util.regex.Matcher;
import java.util.regex.Pattern;

/** The document once more, in the plainest way that the whole library allows: every way is tried. */
final class Model {
    static final class Person {
        int kind, honesty, pieces, pay;
        boolean lied;
        boolean[] hands = new boolean[6];

        Person(int kind, int honesty, int pieces, int pay) {
            this.kind = kind;
            this.honesty = honesty;
            this.pieces = pieces;
            this.pay = pay;
        }

        Person copy() {
            Person c = new Person(kind, honesty, pieces, pay);
            c.lied = lied;
            c.hands = hands.clone();
            return c;
        }
    }

    static final class World {
        List<Person> people = new ArrayList<>();
        int day = 0;
        List<int[]> notes = new ArrayList<>();
        List<World> past = new ArrayList<>();

        World copy(boolean withPast) {
            World c = new World();
            for (Person p : people) {
                c.people.add(p.copy());
            }
            c.day = day;
            for (int[] n : notes) {
                c.notes.add(n.clone());
            }
            if (withPast) {
                for (World w : past) {
                    c.past.add(w.copy(false));
                }
            }
            return c;
        }
    }

    World w = new World();
    World[] images = new World[2];
    String text = "";
    long above = 0;
    long below = 1;
    int[] status = new int[3];

    private int bad() {
        status[0]++;
        return -2;
    }

    private int no() {
        status[1]++;
        return -3;
    }

    private int full() {
        status[2]++;
        return -4;
    }

    private boolean there(int p) {
        return p >= 0 && p < w.people.size();
    }

    private static boolean in(int v, int least, int most) {
        return least <= v && v <= most;
    }

    static int weight(int kind, int n, int h, int d) {
        switch (kind) {
            case 0: return n * h;
            case 1: return n * 12;
            case 2: return n * h / 2;
            case 3: return n * h + n;
            case 4: return d % 3 == 0 ? 0 : n * h / 2;
            default: return n * (h + 1) > 60 ? 60 : n * (h + 1);
        }
    }

    static int loss(int kind, int s) {
        switch (kind) {
            case 0: return s;
            case 1: return s + 1;
            case 2:
            case 4: return s > 2 ? 2 : 1;
            default: return s + s;
        }
    }

    private int in(Person p, int n) {
        return weight(p.kind, n, p.honesty, w.day);
    }

    private int own(Person p) {
        return in(p, p.pieces);
    }

    int gold() {
        int were = w.people.size();
        w = new World();
        return were;
    }

    int one(int k, int h, int n, int pay) {
        if (!in(k, 0, 5) || !in(h, 0, 12) || !in(n, 0, 30) || !in(pay, 0, 20)) {
            return bad();
        }
        if (w.people.size() == 6) {
            return full();
        }
        w.people.add(new Person(k, h, n, pay));
        w.past.clear();
        return w.people.size() - 1;
    }

    int hands(int p, int q, int is) {
        if (!there(p) || !there(q) || p == q || !in(is, 0, 1)) {
            return bad();
        }
        boolean did = w.people.get(p).hands[q];
        w.people.get(p).hands[q] = is == 1;
        w.past.clear();
        return did ? 1 : 0;
    }

    int type(int c) {
        if (!in(c, 0, 127)) {
            return bad();
        }
        if (text.length() == 150) {
            return full();
        }
        text += (char) c;
        return text.length();
    }

    int clear() {
        int had = text.length();
        text = "";
        return had;
    }

    int read() {
        Matcher m = Pattern.compile("[a-z]+|[0-9]+|;|[^ ]", Pattern.DOTALL).matcher(text);
        World made = new World();
        int items = 0;
        List<String> item = new ArrayList<>();
        while (m.find()) {
            item.add(m.group());
            if (!canStand(made, item, items)) {
                return -10 - m.start();
            }
            if (m.group().equals(";")) {
                carryOut(made, item);
                items++;
                item.clear();
            }
        }
        if (items == 0 || !item.isEmpty()) {
            return -10 - text.length();
        }
        w = made;
        return items;
    }

    /** Whether the last token of an item that is begun can stand there. */
    private static boolean canStand(World made, List<String> item, int items) {
        int last = item.size() - 1;
        String token = item.get(last);
        String word = item.get(0);
        int people = made.people.size();
        if (last == 0) {
            return items == 0 ? word.equals("gold")
                : word.equals("one") && people < 6 || word.equals("hands") || word.equals("lie");
        }
        int v = token.matches("[0-9]{1,2}") ? Integer.parseInt(token) : -1;
        boolean stop = token.equals(";");
        switch (word) {
            case "gold": return stop;
            case "one": return last == 5 ? stop : in(v, 0, new int[] {5, 12, 30, 20}[last - 1]);
            case "lie": return last == 3 ? stop : last == 2 ? in(v, 1, 4) : in(v, 0, people - 1);
            default:
                if (last > 1 && stop) {
                    return true;
                }
                return in(v, 0, people - 1) && (last == 1 || v != Integer.parseInt(item.get(1)));
        }
    }

    private static void carryOut(World made, List<String> item) {
        int[] v = new int[item.size()];
        for (int i = 1; i < item.size() - 1; i++) {
            v[i] = Integer.parseInt(item.get(i));
        }
        switch (item.get(0)) {
            case "one":
                made.people.add(new Person(v[1], v[2], v[3], v[4]));
                break;
            case "hands":
                boolean[] to = new boolean[6];
                for (int i = 2; i < item.size() - 1; i++) {
                    to[v[i]] = true;
                }
                made.people.get(v[1]).hands = to;
                break;
            case "lie":
                lieIn(made, v[1], v[2]);
                break;
            default:
        }
    }

    private static void lieIn(World made, int p, int s) {
        Person who = made.people.get(p);
        who.honesty -= loss(who.kind, s);
        if (who.honesty < 0) {
            who.honesty = 0;
        }
        who.lied = true;
    }

    private static void dayIn(World made) {
        for (Person p : made.people) {
            if (!p.lied && p.honesty < 12) {
                p.honesty++;
            }
            p.lied = false;
        }
        if (made.day < 999) {
            made.day++;
        }
    }

    private void keep() {
        w.past.add(w.copy(false));
        if (w.past.size() > 8) {
            w.past.remove(0);
        }
    }

    int lie(int p, int s) {
        if (!there(p) || !in(s, 1, 4)) {
            return bad();
        }
        keep();
        lieIn(w, p, s);
        return w.people.get(p).honesty;
    }

    int give(int p, int q, int n) {
        if (!there(p) || !there(q) || p == q || !in(n, 1, 99)) {
            return bad();
        }
        if (!w.people.get(p).hands[q] || w.people.get(p).pieces < n) {
            return no();
        }
        keep();
        w.people.get(p).pieces -= n;
        w.people.get(q).pieces += n;
        return w.people.get(p).pieces;
    }

    int day() {
        keep();
        dayIn(w);
        return w.day;
    }

    int undo() {
        if (w.past.isEmpty()) {
            return no();
        }
        World then = w.past.remove(w.past.size() - 1);
        then.notes = w.notes;
        then.past = w.past;
        w = then;
        return w.day;
    }

    int of(int p, int what) {
        if (!there(p) || !in(what, 0, 6)) {
            return bad();
        }
        Person o = w.people.get(p);
        return new int[] {o.kind, o.honesty, o.pieces, o.pay, o.lied ? 1 : 0, bits(o.hands), own(o)}[what];
    }

    private static int bits(boolean[] set) {
        int b = 0;
        for (int i = 0; i < set.length; i++) {
            b += set[i] ? 1 << i : 0;
        }
        return b;
    }

    int weighs(int p, int n) {
        return !there(p) || !in(n, 0, 99) ? bad() : in(w.people.get(p), n);
    }

    int all() {
        return w.people.stream().mapToInt(this::own).sum();
    }

    int when(int p, int least) {
        if (!there(p) || !in(least, 0, 999)) {
            return bad();
        }
        Person o = w.people.get(p).copy();
        for (int k = 0; k <= 60; k++) {
            if (weight(o.kind, o.pieces, o.honesty, w.day + k) >= least) {
                return k;
            }
            o.honesty = o.lied || o.honesty == 12 ? o.honesty : o.honesty + 1;
            o.lied = false;
        }
        return -1;
    }

    int bag(int p, int q, int n, int i) {
        if (!there(p) || !there(q) || p == q || !in(n, 0, 99) || i < -1) {
            bad();
            return -10;
        }
        List<List<Integer>> rows = new ArrayList<>();
        List<Integer> row = new ArrayList<>();
        row.add(p);
        rowsFrom(row, q, rows);
        if (rows.isEmpty()) {
            return -1;
        }
        int most = -1;
        List<Integer> best = null;
        for (List<Integer> r : rows) {
            int lightest = r.stream().mapToInt(x -> in(w.people.get(x), n)).min().getAsInt();
            if (lightest > most || lightest == most && ahead(r, best)) {
                most = lightest;
                best = r;
            }
        }
        return i == -1 ? most : i < best.size() ? best.get(i) : -5;
    }

    private static boolean ahead(List<Integer> a, List<Integer> b) {
        if (a.size() != b.size()) {
            return a.size() < b.size();
        }
        return Arrays.compare(a.stream().mapToInt(x -> x).toArray(), b.stream().mapToInt(x -> x).toArray()) < 0;
    }

    private void rowsFrom(List<Integer> row, int q, List<List<Integer>> rows) {
        int last = row.get(row.size() - 1);
        if (last == q) {
            rows.add(new ArrayList<>(row));
            return;
        }
        for (int r = w.people.size() - 1; r >= 0; r--) {
            if (w.people.get(last).hands[r] && !row.contains(r)) {
                row.add(r);
                rowsFrom(row, q, rows);
                row.remove(row.size() - 1);
            }
        }
    }

    int debt(int p, int least) {
        if (!there(p) || !in(least, 0, 999)) {
            return bad();
        }
        int n = 0;
        while (n <= 99 && in(w.people.get(p), n) < least) {
            n++;
        }
        return n == 100 ? -1 : n;
    }

    int hire(int b, int n, int what) {
        if (!in(b, 0, 120) || !in(n, 0, 99) || !in(what, 0, 1)) {
            return bad();
        }
        int most = -1;
        int who = 0;
        for (int set = (1 << w.people.size()) - 1; set >= 0; set--) {
            int pay = 0;
            int sum = 0;
            for (int p = 0; p < w.people.size(); p++) {
                if ((set & 1 << p) != 0) {
                    pay += w.people.get(p).pay;
                    sum += in(w.people.get(p), n);
                }
            }
            if (pay <= b && sum >= most) {
                most = sum;
                who = set;
            }
        }
        return what == 0 ? who : most;
    }

    private int shelvesMost;
    private int[] shelvesWay;

    int shelves(int a, int c, int p) {
        if (!in(a, 0, 20) || !in(c, 0, 9) || p != -1 && !there(p)) {
            bad();
            return -10;
        }
        if (w.people.isEmpty()) {
            return 0;
        }
        shelvesMost = -1;
        tryShelves(a, c, new int[w.people.size()], 0);
        return p == -1 ? shelvesMost : shelvesWay[p];
    }

    private void tryShelves(int a, int c, int[] way, int p) {
        if (p == way.length) {
            int lightest = Integer.MAX_VALUE;
            for (int r = 0; r < way.length; r++) {
                lightest = Math.min(lightest, in(w.people.get(r), a + way[r] * c));
            }
            if (lightest > shelvesMost) {
                shelvesMost = lightest;
                shelvesWay = way.clone();
            }
            return;
        }
        for (int b = 0; b < way.length; b++) {
            boolean free = true;
            for (int r = 0; r < p; r++) {
                free &= way[r] != b;
            }
            if (free) {
                way[p] = b;
                tryShelves(a, c, way, p + 1);
            }
        }
    }

    int note(int p, int n, int weight, int d) {
        if (!there(p) || !in(n, 0, 99) || !in(weight, 0, 2000) || !in(d, 0, 99)) {
            return bad();
        }
        if (w.notes.size() == 6) {
            return full();
        }
        w.notes.add(new int[] {p, n, weight, d});
        return w.notes.size();
    }

    int forget() {
        int were = w.notes.size();
        w.notes.clear();
        return were;
    }

    private boolean so(int p, int k, int h) {
        return w.notes.stream().allMatch(x -> x[0] != p || weight(k, x[1], h, x[3]) == x[2]);
    }

    int is(int p, int what) {
        if (!there(p) || !in(what, 0, 1)) {
            return bad();
        }
        Person o = w.people.get(p);
        int set = 0;
        for (int v = 0; v < (what == 0 ? 6 : 13); v++) {
            set += (what == 0 ? so(p, v, o.honesty) : so(p, o.kind, v)) ? 1 << v : 0;
        }
        return set;
    }

    int next(int p) {
        if (!there(p)) {
            return bad();
        }
        int kinds = is(p, 0);
        int best = -1;
        int fewest = 99;
        for (int n = 0; n <= 20 && kinds != 0; n++) {
            int[] alike = new int[2001];
            for (int k = 0; k < 6; k++) {
                alike[weight(k, n, w.people.get(p).honesty, w.day)] += kinds >> k & 1;
            }
            int most = Arrays.stream(alike).max().getAsInt();
            if (most < fewest) {
                fewest = most;
                best = n;
            }
        }
        return best;
    }

    int two(int a, int b) {
        if (!there(a) || !there(b) || a == b) {
            return bad();
        }
        int[][][] gets = new int[2][2][2];
        for (int la = 0; la < 2; la++) {
            for (int lb = 0; lb < 2; lb++) {
                gets[la][lb][0] = la == 1 ? lb == 1 ? 1 : 3 : truth(a);
                gets[la][lb][1] = lb == 1 ? la == 1 ? 1 : 3 : truth(b);
            }
        }
        int rest = 0;
        for (int la = 0; la < 2; la++) {
            for (int lb = 0; lb < 2; lb++) {
                if (gets[1 - la][lb][0] <= gets[la][lb][0] && gets[la][1 - lb][1] <= gets[la][lb][1]) {
                    rest += 1 << la + 2 * lb;
                }
            }
        }
        return rest;
    }

    private int truth(int p) {
        Person o = w.people.get(p);
        World behind = w.copy(false);
        lieIn(behind, p, 2);
        Person then = behind.people.get(p);
        return (own(o) - weight(o.kind, o.pieces, then.honesty, w.day)) / 10;
    }

    int winds(int least, int c) {
        if (!in(least, 0, 999) || !in(c, 0, 10)) {
            return bad();
        }
        long tenths = 0;
        for (Person p : w.people) {
            tenths += p.pieces * (own(p) < least ? 10 - c : 10);
        }
        above = tenths;
        below = 10;
        for (int by = 2; by <= 5; by += 3) {
            if (above % by == 0 && below % by == 0) {
                above /= by;
                below /= by;
            }
        }
        return 1;
    }

    int years(int seed, int n) {
        if (!in(seed, 0, 999999) || !in(n, 0, 60)) {
            return bad();
        }
        World now = w;
        w = w.copy(false);
        long x = seed;
        for (int i = 0; i < n; i++) {
            x = x * 1103515245L + 12345L & 0x7fffffffL;
            int p = (int) ((x >> 16) % 6);
            int s = (int) ((x >> 20) % 5);
            if (there(p) && s > 0) {
                lieIn(w, p, s);
            }
            dayIn(w);
        }
        int last = all();
        w = now;
        return last;
    }

    long part(int what) {
        return what == 0 ? above : what == 1 ? below : bad();
    }

    int image(int i) {
        if (!in(i, 0, 1)) {
            return bad();
        }
        images[i] = w.copy(true);
        return 1;
    }

    int from(int i) {
        if (!in(i, 0, 1)) {
            return bad();
        }
        if (images[i] == null) {
            return no();
        }
        w = images[i].copy(true);
        return 1;
    }

    int status(int what) {
        if (in(what, 0, 2)) {
            return status[what];
        }
        bad();
        return -1;
    }

    int count(int what) {
        if (!in(what, 0, 6)) {
            return bad();
        }
        return new int[] {w.people.size(), w.day, w.people.stream().mapToInt(p -> p.pieces).sum(),
            (int) w.people.stream().filter(p -> p.lied).count(), w.notes.size(), w.past.size(), text.length()}[what];
    }

    long digest() {
        List<Long> values = new ArrayList<>();
        for (int what = 0; what <= 6; what++) {
            values.add((long) count(what));
        }
        for (int p = 0; p < w.people.size(); p++) {
            for (int what = 0; what <= 5; what++) {
                values.add((long) of(p, what));
            }
        }
        for (int[] n : w.notes) {
            for (int v : n) {
                values.add((long) v);
            }
        }
        values.add(above);
        values.add(below);
        long h = 1307;
        for (long v : values) {
            h = 31 * h + v;
        }
        return h;
    }
}
