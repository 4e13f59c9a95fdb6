import java.math.BigInteger;

/** Counts the answers that are not the ones due. */
final class Check {
    private int wrong = 0;
    private int asked = 0;

    void due(String call, long got, long want) {
        asked++;
        if (got != want) {
            wrong++;
            System.out.println(call + " answered " + got + ", due is " + want);
        }
    }

    void due(String what, boolean holds) {
        due(what, holds ? 1 : 0, 1);
    }

    /** Types a text behind an emptied one and reads it. */
    static int read(HonestGold x, String text) {
        x.clear();
        for (int i = 0; i < text.length(); i++) {
            x.type(text.charAt(i));
        }
        return x.read();
    }

    static HonestGold told(String text) {
        HonestGold x = new HonestGold();
        int items = read(x, text);
        x.clear();
        if (items < 0) {
            throw new IllegalStateException("the test's own text has a fault: " + text + " " + items);
        }
        return x;
    }

    /** h = 31 h + v for each v, in numbers without an end, then cut to a long. */
    static long mix(long... values) {
        BigInteger h = BigInteger.valueOf(1307);
        for (long v : values) {
            h = h.multiply(BigInteger.valueOf(31)).add(BigInteger.valueOf(v));
        }
        return h.longValue();
    }

    void end() {
        System.out.println(wrong == 0 ? asked + " answers are as due" : wrong + " answers are not as due");
        if (wrong != 0 || asked == 0) {
            System.exit(1);
        }
    }
}
