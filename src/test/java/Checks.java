import java.nio.charset.StandardCharsets;
import java.util.NoSuchElementException;

/** What the tests share: texts over the tape, and answers against those that are due. */
final class Checks {
    static final int THREW = Integer.MIN_VALUE;
    /** Thirteen LINES: a, b that are ALIKE, c that is fixed and without OIL, two SHIPS. */
    static final String COAST =
        "light a 5 5 6 white 100;light b 10 5 6 white 30;light c 18 18 4 red 0;"
        + "flash a 2 3;flash a 1 4;flash b 1 4;flash b 2 3;from b 5;dark a 4;dark a 0;"
        + "ship s 11 5 0 2;ship t 0 0 8 1;haze 20;";

    private int wrong;
    private int made;
    private String sentence = "";
    private int madeAhead = -1;

    /** The words of the document that the answers behind this hold; words without any answer are an error. */
    void says(String words) {
        if (made == madeAhead) {
            wrong++;
            System.out.println("no answer is held against: " + sentence);
        }
        sentence = words + ": ";
        madeAhead = made;
    }

    void due(String what, long got, long want) {
        made++;
        if (got != want) {
            wrong++;
            System.out.println(sentence + what + " answered " + got + ", due is " + want);
        }
    }

    void due(String what, String got, String want) {
        made++;
        if (!got.equals(want)) {
            wrong++;
            System.out.println(sentence + what + " answered\n  " + got + "\ndue is\n  " + want);
        }
    }

    void due(String what, boolean got, boolean want) {
        due(what, got ? 1 : 0, want ? 1 : 0);
    }

    /** Ends the test: exit code 1 if an answer was not due. */
    void close() {
        says("");
        System.out.println(made + " answers, " + wrong + " not as due");
        System.exit(wrong == 0 && made > 0 ? 0 : 1);
    }

    /** Lays just these bytes on the tape. */
    static void lay(CoastLights x, int... bytes) {
        x.end(0);
        for (int at = 0; at < bytes.length; at += 20) {
            int[] n = new int[5];
            for (int i = 0; i < 20; i++) {
                int b = at + i < bytes.length ? bytes[at + i] & 255 : 0;
                n[i / 4] = n[i / 4] << 8 | b;
            }
            x.feed(n[0], n[1], n[2], n[3], n[4]);
        }
        x.end(bytes.length);
    }

    static void lay(CoastLights x, String text) {
        byte[] raw = text.getBytes(StandardCharsets.ISO_8859_1);
        int[] bytes = new int[raw.length];
        for (int i = 0; i < raw.length; i++) {
            bytes[i] = raw[i];
        }
        lay(x, bytes);
    }

    static int chart(CoastLights x, String text) {
        lay(x, text);
        return x.chart();
    }

    static int book(CoastLights x, String text, int lives) {
        lay(x, text);
        return x.book(lives);
    }

    static int sentence(CoastLights x, String text) {
        lay(x, text);
        return x.sentence();
    }

    static int fits(CoastLights x, int... bytes) {
        lay(x, bytes);
        return x.fits();
    }

    static int fix(CoastLights x, int... bytes) {
        lay(x, bytes);
        return x.fix();
    }

    static CoastLights of(String text) {
        CoastLights x = new CoastLights();
        if (chart(x, text) < 0) {
            throw new IllegalArgumentException("no CHART: " + text);
        }
        return x;
    }

    static int light(CoastLights x, int l, int what) {
        try {
            return x.light(l, what);
        } catch (NoSuchElementException e) {
            return THREW;
        }
    }

    static int mean(CoastLights x, int what) {
        try {
            return x.mean(what);
        } catch (NoSuchElementException e) {
            return THREW;
        }
    }

    static String tag(CoastLights x, int s) {
        int n = x.tag(s);
        StringBuilder text = new StringBuilder();
        for (int i = 0; i < n; i++) {
            text.append((char) x.byteAt(i));
        }
        return text.toString();
    }

    static String repeat(String text, int n) {
        return text.repeat(n);
    }

    /** Of a text in which ^ stands ahead of the FAULT: the place of the FAULT. */
    static int place(String marked) {
        if (marked.indexOf('^') < 0) {
            throw new IllegalArgumentException("no ^ in " + marked);
        }
        return marked.indexOf('^');
    }

    /** The text itself, without the ^. */
    static String unmarked(String marked) {
        return marked.replace("^", "");
    }

    /** All that can be asked about the CHART and what is so on it. */
    static String scene(CoastLights x) {
        StringBuilder all = new StringBuilder();
        for (int what = 0; what < 3; what++) {
            all.append(x.count(what)).append(' ');
        }
        for (int what = 0; what < 6; what++) {
            all.append(x.now(what)).append(' ');
        }
        for (int l = 0; l < 8; l++) {
            all.append("| ");
            for (int what = 0; what <= 10 && light(x, l, what) != THREW; what++) {
                all.append(light(x, l, what)).append(' ');
            }
            for (int k = 0; x.character(l, k) != CoastLights.NONE; k++) {
                all.append(x.character(l, k));
            }
        }
        for (int s = 0; s < 4; s++) {
            all.append("| ");
            for (int what = 0; what < 6; what++) {
                all.append(x.ship(s, what)).append(' ');
            }
        }
        return all.append("| ").append(x.said(CoastLights.NONE)).append(' ').append(x.said(0)).append(' ')
            .append(x.confused()).toString();
    }

    /** What calls told last. */
    static String last(CoastLights x) {
        StringBuilder all = new StringBuilder();
        all.append(x.fault()).append(' ').append(x.changes()).append(' ').append(x.ask()).append(' ')
            .append(x.spotsAt()).append(' ').append(x.fixAt()).append(" |");
        for (int l = 0; l < 8; l++) {
            all.append(' ').append(x.fitsAt(l));
        }
        all.append(" |");
        for (int what = 0; what < 4; what++) {
            all.append(' ').append(x.told(what));
        }
        all.append(" |");
        for (int i = 0; x.byteAt(i) != CoastLights.NONE; i++) {
            all.append((char) x.byteAt(i));
        }
        return all.toString();
    }

    /** What a seed becomes for its next draw. */
    static int next(int x) {
        return x * 1103515245 + 12345;
    }

    /** The first seed from one on whose draws are as wanted: pairs of how many there are and which one. */
    static int seedFrom(int first, int... ofAndWanted) {
        for (int seed = first; seed != first + 1000000; seed++) {
            int x = seed;
            boolean good = true;
            for (int i = 0; i + 1 < ofAndWanted.length && good; i += 2) {
                x = next(x);
                good = (x >>> 8) % ofAndWanted[i] == ofAndWanted[i + 1];
            }
            if (good) {
                return seed;
            }
        }
        throw new IllegalStateException("no such seed");
    }

    /** Eight LIGHTS a to h, each told as behind its NAME. */
    static String eight(String told) {
        StringBuilder s = new StringBuilder();
        for (char c = 'a'; c <= 'h'; c++) {
            s.append("light ").append(c).append(' ').append(told).append(';');
        }
        return s.toString();
    }

    /** As many SECONDS as bring SECOND 0 to this one. */
    static void goTo(CoastLights x, int second) {
        while (x.now(0) < second && x.seconds(Math.min(60, second - x.now(0))) > 0) {
            continue;
        }
    }
}
