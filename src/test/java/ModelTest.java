import java.util.Random;

/** Runs of calls by seeds, on the class and on the plain model: every answer must be alike. */
public final class ModelTest {
    private static final Check CHECK = new Check();
    private static final int RUNS = 1500;
    private static final int CALLS = 512;

    private final Random random;
    private final int run;
    private final HonestGold x = new HonestGold();
    private final Model m = new Model();
    /** How often an argument is taken from outside of what is told. */
    private final int wild;

    private ModelTest(int run) {
        this.run = run;
        random = new Random(run);
        wild = run % 3 == 0 ? 8 : 60;
    }

    public static void main(String[] args) {
        for (int run = 0; run < RUNS; run++) {
            new ModelTest(run).go();
        }
        CHECK.end();
    }

    private void go() {
        int calls = 0;
        if (run % 4 == 1) {
            calls += tellDays();
        }
        while (calls < CALLS) {
            int chosen = random.nextInt(40);
            if (chosen == 39 && calls + 155 < CALLS) {
                calls += tellText();
            } else {
                call(chosen);
                calls++;
            }
        }
        same("digest", x.digest(), m.digest());
    }

    private void same(String call, long got, long want) {
        CHECK.due("run " + run + ": " + call, got, want);
    }

    private int tellDays() {
        int days = random.nextInt(60);
        for (int d = 0; d < days; d++) {
            same("day", x.day(), m.day());
        }
        return days;
    }

    private int num(int least, int most) {
        if (random.nextInt(wild) == 0) {
            int[] strange = {least - 1, most + 1, -1, -2, Integer.MIN_VALUE, Integer.MAX_VALUE, 6, 31, 32, 33};
            return strange[random.nextInt(strange.length)];
        }
        return least + random.nextInt(most - least + 1);
    }

    private int who() {
        int people = m.w.people.size();
        return num(0, Math.max(0, people - 1));
    }

    private int tellText() {
        String text = run % 2 == 0 ? goodText() : spoilt(goodText());
        same("clear", x.clear(), m.clear());
        for (int i = 0; i < text.length(); i++) {
            same("type", x.type(text.charAt(i)), m.type(text.charAt(i)));
        }
        same("read of '" + text + "'", x.read(), m.read());
        same("digest behind read", x.digest(), m.digest());
        return text.length() + 3;
    }

    private String goodText() {
        StringBuilder text = new StringBuilder("gold;");
        int people = 0;
        while (text.length() < 135) {
            StringBuilder item = new StringBuilder();
            if (people == 0 || random.nextInt(3) == 0 && people < 6) {
                item.append("one ").append(random.nextInt(6)).append(' ').append(random.nextInt(13)).append(' ')
                    .append(random.nextInt(31)).append(' ').append(random.nextInt(21));
                people++;
            } else if (random.nextBoolean()) {
                int p = random.nextInt(people);
                item.append("hands ").append(p);
                for (int q = 0; q < people; q++) {
                    if (q != p && random.nextBoolean()) {
                        item.append(' ').append(q);
                    }
                }
            } else {
                item.append("lie ").append(random.nextInt(people)).append(random.nextBoolean() ? " " : "  ")
                    .append(1 + random.nextInt(4));
            }
            item.append(random.nextInt(5) == 0 ? " ; " : ";");
            if (text.length() + item.length() > 150 || random.nextInt(20) == 0) {
                break;
            }
            text.append(item);
        }
        return text.toString();
    }

    private String spoilt(String text) {
        StringBuilder s = new StringBuilder(text);
        int changes = 1 + random.nextInt(2);
        String signs = "0123456789;; aegilnods\tA-";
        for (int i = 0; i < changes; i++) {
            int at = random.nextInt(s.length());
            char c = signs.charAt(random.nextInt(signs.length()));
            switch (random.nextInt(4)) {
                case 0: s.setCharAt(at, c); break;
                case 1: s.insert(at, c); break;
                case 2: s.deleteCharAt(at); break;
                default: s.setLength(Math.max(1, at));
            }
        }
        return s.length() > 150 ? s.substring(0, 150) : s.toString();
    }

    private void call(int chosen) {
        if (chosen < 13) {
            change(chosen);
        } else {
            ask(chosen);
        }
    }

    private void change(int chosen) {
        int p = who();
        int q = who();
        switch (chosen) {
            case 0: if (random.nextInt(12) == 0) same("gold", x.gold(), m.gold()); break;
            case 1:
            case 2:
                int k = num(0, 5), h = num(0, 12), n = num(0, 30), pay = num(0, 20);
                same("one", x.one(k, h, n, pay), m.one(k, h, n, pay));
                break;
            case 3:
            case 4:
                int is = random.nextInt(4) == 0 ? num(0, 1) : 1;
                same("hands", x.hands(p, q, is), m.hands(p, q, is));
                break;
            case 5:
                int c = num(0, 127);
                same("type", x.type(c), m.type(c));
                break;
            case 6: if (random.nextInt(4) == 0) same("clear", x.clear(), m.clear()); break;
            case 7: same("read", x.read(), m.read()); break;
            case 8:
                int s = num(1, 4);
                same("lie", x.lie(p, s), m.lie(p, s));
                break;
            case 9:
                int some = random.nextBoolean() ? num(1, 99) : num(1, 5);
                same("give", x.give(p, q, some), m.give(p, q, some));
                break;
            case 10: same("day", x.day(), m.day()); break;
            case 11: same("undo", x.undo(), m.undo()); break;
            default:
                int i = num(0, 1);
                if (random.nextBoolean()) {
                    same("image", x.image(i), m.image(i));
                } else {
                    same("from", x.from(i), m.from(i));
                }
        }
    }

    private void ask(int chosen) {
        int p = who();
        int q = who();
        int n = num(0, 99);
        int w = random.nextBoolean() ? num(0, 999) : num(0, 99);
        int what;
        switch (chosen) {
            case 13: what = num(0, 6); same("of", x.of(p, what), m.of(p, what)); break;
            case 14: same("weighs", x.weighs(p, n), m.weighs(p, n)); break;
            case 15: same("all", x.all(), m.all()); break;
            case 16: same("when", x.when(p, w), m.when(p, w)); break;
            case 17:
            case 18:
            case 19: what = num(-1, 6); same("bag", x.bag(p, q, n, what), m.bag(p, q, n, what)); break;
            case 20: same("debt", x.debt(p, w), m.debt(p, w)); break;
            case 21:
            case 22:
                int b = num(0, 120);
                what = num(0, 1);
                same("hire", x.hire(b, n, what), m.hire(b, n, what));
                break;
            case 23:
            case 24:
                int a = num(0, 20);
                int c = num(0, 9);
                what = random.nextInt(4) == 0 ? -1 : p;
                same("shelves", x.shelves(a, c, what), m.shelves(a, c, what));
                break;
            case 25:
            case 26: note(p, n); break;
            case 27: if (random.nextInt(3) == 0) same("forget", x.forget(), m.forget()); break;
            case 28:
            case 29: what = num(0, 1); same("is", x.is(p, what), m.is(p, what)); break;
            case 30: same("next", x.next(p), m.next(p)); break;
            case 31: same("two", x.two(p, q), m.two(p, q)); break;
            case 32: what = num(0, 10); same("winds", x.winds(w, what), m.winds(w, what)); break;
            case 33:
                int seed = num(0, 999999);
                int years = num(0, 60);
                same("years", x.years(seed, years), m.years(seed, years));
                break;
            case 34: what = num(0, 1); same("part", x.part(what), m.part(what)); break;
            case 35: what = num(0, 2); same("status", x.status(what), m.status(what)); break;
            case 36: what = num(0, 6); same("count", x.count(what), m.count(what)); break;
            default: same("digest", x.digest(), m.digest());
        }
    }

    /** Notes are mostly true of some kind and honesty, so that they tell something. */
    private void note(int p, int n) {
        int d = num(0, 99);
        int w = num(0, 2000);
        if (random.nextInt(4) != 0 && p >= 0 && p < m.w.people.size() && d >= 0 && n >= 0 && n < 100) {
            Model.Person o = m.w.people.get(p);
            boolean byKind = random.nextBoolean();
            w = Model.weight(byKind ? o.kind : random.nextInt(6), n, byKind ? random.nextInt(13) : o.honesty, d);
        }
        same("note", x.note(p, n, w, d), m.note(p, n, w, d));
    }
}
