import java.nio.charset.StandardCharsets;

/** What the tests share: answers compared and counted, and texts written into an object. */
final class Check {
    private final String test;
    private int asked = 0;
    private int wrong = 0;

    Check(String test) {
        this.test = test;
    }

    void due(String what, long got, long want) {
        asked++;
        if (got != want) {
            wrong++;
            System.out.println(test + ": " + what + " answered " + got + ", due is " + want);
        }
    }

    void holds(String what, boolean isSo) {
        due(what, isSo ? 1 : 0, 1);
    }

    int wrongSoFar() {
        return wrong;
    }

    void end() {
        System.out.println(test + ": " + asked + " answers, " + wrong + " of them wrong");
        if (wrong != 0) {
            System.exit(1);
        }
    }

    /** The object with the text written behind what it has already; answers what the last write did. */
    static int write(ShutWays x, String text) {
        byte[] bytes = text.getBytes(StandardCharsets.ISO_8859_1);
        int last = x.count(11);
        for (int from = 0; from < bytes.length; from += 8) {
            int n = Math.min(8, bytes.length - from);
            last = x.write(packed(bytes, from, n), n);
        }
        return last;
    }

    static long packed(byte[] bytes, int from, int n) {
        long packed = 0;
        for (int i = 0; i < n; i++) {
            packed |= (bytes[from + i] & 255L) << 8 * i;
        }
        return packed;
    }

    /** The fault of a text on an object whose own text is empty, and is so again then. */
    static int faultOf(ShutWays x, String text) {
        write(x, text);
        int fault = x.fault();
        x.erase();
        return fault;
    }

    /** An object with these texts done, one after another. */
    static ShutWays told(String... texts) {
        ShutWays x = new ShutWays();
        for (String text : texts) {
            write(x, text);
            if (x.town() < 1) {
                throw new IllegalStateException("a test's text has a fault: " + text);
            }
        }
        return x;
    }
}
