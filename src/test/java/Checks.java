import java.nio.charset.StandardCharsets;

/** Counts the answers that are not as due, and ends a test with exit code 1 if there were some. */
final class Checks {
    private final String test;
    private int made;
    private int wrong;

    Checks(String test) {
        this.test = test;
    }

    void due(String call, long got, long want) {
        made++;
        if (got != want) {
            wrong++;
            System.out.println(test + ": " + call + " answered " + got + ", due is " + want);
        }
    }

    void due(String call, boolean got, boolean want) {
        due(call, got ? 1 : 0, want ? 1 : 0);
    }

    /** The fault stands where the mark ~ stands in the text (which is not part of it). */
    void fault(int sort, String marked) {
        faultAt(sort, marked.indexOf('~'), marked.replace("~", ""));
    }

    void faultAt(int sort, int place, String text) {
        CoughParts x = new CoughParts();
        due("read() of '" + shortened(text) + "'", read(x, text), sort);
        due("place() in '" + shortened(text) + "'", x.place(), place);
    }

    void good(String text) {
        faultAt(0, CoughParts.NONE, text);
    }

    private static String shortened(String text) {
        return text.length() <= 200 ? text : text.substring(0, 90) + " .. " + text.substring(text.length() - 90);
    }

    int wrong() {
        return wrong;
    }

    void end() {
        System.out.println(test + ": " + made + " answers, " + wrong + " not as due");
        if (wrong != 0) {
            System.exit(1);
        }
    }

    /** Feeds a text, twenty bytes at a time; what was fed too much goes back. */
    static void put(CoughParts x, String text) {
        byte[] bytes = text.getBytes(StandardCharsets.ISO_8859_1);
        for (int from = 0; from < bytes.length; from += 20) {
            x.feed(four(bytes, from), four(bytes, from + 4), four(bytes, from + 8), four(bytes, from + 12),
                    four(bytes, from + 16));
        }
        x.back((20 - bytes.length % 20) % 20);
    }

    static int read(CoughParts x, String text) {
        put(x, text);
        return x.read();
    }

    static CoughParts of(String text) {
        CoughParts x = new CoughParts();
        int fault = read(x, text);
        if (fault != 0) {
            throw new IllegalStateException("fault " + fault + " at " + x.place() + " of: " + text);
        }
        return x;
    }

    /** The document's LOT, by long numbers that are cut off to 32 bits. */
    static int lot(int n, int seed, int which) {
        long h = seed;
        for (long it : new long[] {167, which}) {
            h = (h ^ it) * 1103515245L + 12345L & 0xffffffffL;
            h ^= h >> 15;
        }
        return (int) ((h >> 1) % n);
    }

    static int four(byte[] bytes, int from) {
        int number = 0;
        for (int i = from; i < from + 4; i++) {
            number = number << 8 | (i < bytes.length ? bytes[i] & 255 : ' ');
        }
        return number;
    }
}
