import java.nio.charset.StandardCharsets;
import java.util.NoSuchElementException;

/** What the tests share: texts over the tape, and answers against those that are due. */
final class Checks {
    static final int THREW = Integer.MIN_VALUE;

    private int wrong;
    private int made;

    void due(String what, long got, long want) {
        made++;
        if (got != want) {
            wrong++;
            System.out.println(what + " answered " + got + ", due is " + want);
        }
    }

    void due(String what, boolean got, boolean want) {
        due(what, got ? 1 : 0, want ? 1 : 0);
    }

    /** Ends the test: exit code 1 if an answer was not due. */
    void close() {
        System.out.println(made + " answers, " + wrong + " not as due");
        System.exit(wrong == 0 && made > 0 ? 0 : 1);
    }

    /** Lays just these bytes on the tape. */
    static void lay(CoastLights x, int... bytes) {
        x.end(0);
        for (int at = 0; at < bytes.length; at += 20) {
            int[] n = new int[5];
            for (int i = 0; i < 20; i++) {
                int b = at + i < bytes.length ? bytes[at + i] & 255 : 0;
                n[i / 4] = n[i / 4] << 8 | b;
            }
            x.feed(n[0], n[1], n[2], n[3], n[4]);
        }
        x.end(bytes.length);
    }

    static void lay(CoastLights x, String text) {
        byte[] raw = text.getBytes(StandardCharsets.ISO_8859_1);
        int[] bytes = new int[raw.length];
        for (int i = 0; i < raw.length; i++) {
            bytes[i] = raw[i];
        }
        lay(x, bytes);
    }

    static int chart(CoastLights x, String text) {
        lay(x, text);
        return x.chart();
    }

    static int book(CoastLights x, String text, int lives) {
        lay(x, text);
        return x.book(lives);
    }

    static int sentence(CoastLights x, String text) {
        lay(x, text);
        return x.sentence();
    }

    static int fits(CoastLights x, int... bytes) {
        lay(x, bytes);
        return x.fits();
    }

    static int fix(CoastLights x, int... bytes) {
        lay(x, bytes);
        return x.fix();
    }

    static CoastLights of(String text) {
        CoastLights x = new CoastLights();
        if (chart(x, text) < 0) {
            throw new IllegalArgumentException("no CHART: " + text);
        }
        return x;
    }

    static int light(CoastLights x, int l, int what) {
        try {
            return x.light(l, what);
        } catch (NoSuchElementException e) {
            return THREW;
        }
    }

    static int mean(CoastLights x, int what) {
        try {
            return x.mean(what);
        } catch (NoSuchElementException e) {
            return THREW;
        }
    }

    static String tag(CoastLights x, int s) {
        int n = x.tag(s);
        StringBuilder text = new StringBuilder();
        for (int i = 0; i < n; i++) {
            text.append((char) x.byteAt(i));
        }
        return text.toString();
    }

    static String repeat(String text, int n) {
        return text.repeat(n);
    }
}
