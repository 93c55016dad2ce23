import java.util.NoSuchElementException;
import java.util.Random;

/** Runs of calls by fixed seeds: each answer of the class is held against the one of the Model. */
public final class ModelTest {
    private static final Checks C = new Checks();
    private static final String[] NAMES = {"a", "b", "cape", "eddy", "gull", "tern", "abcdefg", "z", "oils", "q", "k", "m"};
    private static final String[] WORDS = ("light flash from dark ship haze white red green douse kindle fill shift "
        + "steer second or and not out shining fixed like by oil period range number ; ( ) < = > . 0 1 5 8 20 30 60 "
        + "999 1000 a b cape gull abcdefgh a1 ? \n").split(" ");

    private final Random r;
    private final String run;
    private final CoastLights x = new CoastLights();
    private final Model m = new Model();

    private ModelTest(int seed) {
        r = new Random(seed);
        run = "run " + seed + ": ";
    }

    public static void main(String[] args) {
        int runs = args.length > 1 ? Integer.parseInt(args[1]) : 1500;
        for (int seed = 0; seed < runs; seed++) {
            new ModelTest(seed).go();
        }
        C.close();
    }

    private void go() {
        int calls = 150;
        if (r.nextInt(4) > 0) {
            text("chart", chartText());
        }
        if (r.nextInt(12) == 0) {
            for (int i = 0; i < 60; i++) {
                int n = 55 + r.nextInt(6);
                due("seconds " + n, x.seconds(n), m.seconds(n));
            }
        }
        for (int i = 0; i < calls; i++) {
            call(r.nextInt(46));
        }
    }

    private void due(String what, long got, long want) {
        C.due(run + what, got, want);
    }

    private int some(int n) {
        return r.nextInt(12) == 0 ? r.nextInt(n + 4) - 2 : r.nextInt(Math.max(1, n));
    }

    private int aLight() {
        return some(m.w.lights.size());
    }

    private int aShip() {
        return some(m.w.ships.size());
    }

    private void call(int which) {
        if (which < 15) {
            ask(which);
        } else if (which < 27) {
            act(which);
        } else {
            tell(which);
        }
    }

    private void ask(int which) {
        int l = aLight();
        int k = aLight();
        int s = aShip();
        switch (which) {
            case 0: {
                int what = some(11);
                due("light " + l + " " + what, light(l, what), modelLight(l, what));
                break;
            }
            case 1: {
                int place = some(l >= 0 && l < m.w.lights.size() ? m.light(l, 5) + 1 : 3);
                due("character " + l + " " + place, x.character(l, place), m.character(l, place));
                break;
            }
            case 2: {
                int what = some(6);
                due("ship " + s + " " + what, x.ship(s, what), m.ship(s, what));
                break;
            }
            case 3: {
                int a = some(20);
                int b = some(20);
                due("visible " + a + " " + b, x.visible(a, b), m.visible(a, b));
                break;
            }
            case 4: {
                int what = some(6);
                due("now " + what, x.now(what), m.now(what));
                break;
            }
            case 5: due("confused", x.confused(), m.confused()); break;
            case 6: due("change", x.change(), m.change()); break;
            case 7: due("apart " + l + " " + k, x.apart(l, k), m.apart(l, k)); break;
            case 8: due("both " + l + " " + k, x.both(l, k), m.both(l, k)); break;
            case 9: {
                int set = r.nextInt(6) == 0 ? r.nextInt() : some(1 << m.w.lights.size());
                due("spots " + set, x.spots(set), m.spots(set));
                break;
            }
            case 10: due("most", x.most(), m.most()); break;
            case 11: due("burn " + l, x.burn(l), m.burn(l)); break;
            case 12: due("waits " + s, x.waits(s), m.waits(s)); break;
            case 13: {
                int what = some(2);
                due("mean " + what, Checks.mean(x, what), modelMean(what));
                break;
            }
            default: {
                int n = 1 + some(4);
                int seed = r.nextInt();
                due("odds " + s + " " + n + " " + seed, x.odds(s, n, seed), m.odds(s, n, seed));
                break;
            }
        }
    }

    private void act(int which) {
        int l = aLight();
        int s = aShip();
        switch (which) {
            case 15: due("douse " + l, x.douse(l), m.douse(l)); break;
            case 16: due("kindle " + l, x.kindle(l), m.kindle(l)); break;
            case 17: {
                int n = r.nextInt(3) > 0 ? 1 + r.nextInt(30) : some(1000);
                due("fill " + l + " " + n, x.fill(l, n), m.fill(l, n));
                break;
            }
            case 18: {
                int n = some(60);
                due("shift " + l + " " + n, x.shift(l, n), m.shift(l, n));
                break;
            }
            case 19: {
                int c = some(9);
                due("steer " + s + " " + c, x.steer(s, c), m.steer(s, c));
                break;
            }
            case 20: {
                int n = some(31);
                due("haze " + n, x.haze(n), m.haze(n));
                break;
            }
            case 21: case 22: {
                int n = some(61);
                due("seconds " + n, x.seconds(n), m.seconds(n));
                break;
            }
            case 23: due("undo", x.undo(), m.undo()); break;
            case 24: {
                int n = r.nextInt(2) == 0 ? 1 + r.nextInt(5) : some(61);
                int seed = r.nextInt();
                due("drawn " + n + " " + seed, x.drawn(n, seed), m.drawn(n, seed));
                break;
            }
            case 25: {
                int k = some(2);
                due("image " + k, x.image(k) ? 1 : 0, m.image(k) ? 1 : 0);
                break;
            }
            default: {
                int k = some(2);
                due("restore " + k, x.restore(k) ? 1 : 0, m.restore(k) ? 1 : 0);
                break;
            }
        }
    }

    private void tell(int which) {
        switch (which) {
            case 27: text("chart", r.nextInt(3) == 0 ? chartText() : broken(chartText())); break;
            case 28: case 29: text("book", r.nextInt(3) > 0 ? bookText() : broken(bookText())); break;
            case 30: case 31: text("sentence", r.nextInt(3) > 0 ? sentenceText() : broken(sentenceText())); break;
            case 32: case 33: fits(); break;
            case 34: fix(); break;
            case 35: {
                int k = r.nextInt(2) == 0 ? -1 : some(8);
                due("said " + k, x.said(k), m.said(k));
                break;
            }
            case 36: {
                int s = aShip();
                due("tag " + s, x.tag(s), m.tag(s));
                break;
            }
            case 37: {
                int i = some(24);
                due("byteAt " + i, x.byteAt(i), m.byteAt(i));
                break;
            }
            case 38: {
                int what = some(4);
                due("told " + what, x.told(what), m.told(what));
                break;
            }
            case 39: due("fault", x.fault(), m.fault); break;
            case 40: due("changes", x.changes(), m.changes); break;
            case 41: {
                int l = some(8);
                due("fitsAt " + l, x.fitsAt(l), m.fitsAt(l));
                break;
            }
            case 42: due("ask", x.ask(), m.ask); break;
            case 43: due("spotsAt", x.spotsAt(), m.spotsAt); break;
            case 44: due("fixAt", x.fixAt(), m.fixAt); break;
            default: {
                int what = some(4);
                due("count " + what, x.count(what), m.count(what));
                break;
            }
        }
    }

    private int light(int l, int what) {
        return Checks.light(x, l, what);
    }

    private int modelLight(int l, int what) {
        try {
            return m.light(l, what);
        } catch (NoSuchElementException e) {
            return Checks.THREW;
        }
    }

    private int modelMean(int what) {
        try {
            return m.mean(what);
        } catch (NoSuchElementException e) {
            return Checks.THREW;
        }
    }

    // ---- texts

    private void lay(int... bytes) {
        for (int at = 0; at < bytes.length; at += 20) {
            int[] n = new int[5];
            for (int i = 0; i < 20; i++) {
                n[i / 4] = n[i / 4] << 8 | (at + i < bytes.length ? bytes[at + i] & 255 : 0);
            }
            due("feed", x.feed(n[0], n[1], n[2], n[3], n[4]), m.feed(n[0], n[1], n[2], n[3], n[4]));
        }
        int n = r.nextInt(40) == 0 ? r.nextInt(1000) - 20 : bytes.length;
        due("end " + n, x.end(n) ? 1 : 0, m.end(n) ? 1 : 0);
    }

    private void text(String what, String text) {
        due("end 0", x.end(0) ? 1 : 0, m.end(0) ? 1 : 0);
        lay(text.substring(0, Math.min(940, text.length())).chars().toArray());
        if (what.equals("chart")) {
            due("chart " + text, x.chart(), m.chart());
        } else if (what.equals("book")) {
            int lives = some(2);
            due("book " + lives + " " + text, x.book(lives), m.book(lives));
        } else {
            due("sentence " + text, x.sentence(), m.sentence());
        }
        due("fault of " + text, x.fault(), m.fault);
        due("tape", x.count(3), m.count(3));
    }

    private void fits() {
        int[] row = new int[r.nextInt(8) == 0 ? r.nextInt(43) : 1 + r.nextInt(8)];
        int l = m.w.lights.isEmpty() ? -1 : r.nextInt(m.w.lights.size());
        int from = r.nextInt(200);
        for (int i = 0; i < row.length; i++) {
            row[i] = l < 0 ? r.nextInt(4) : m.w.shows(l, from + i);
            if (r.nextInt(150) == 0) {
                row[i] = r.nextInt(6);
            }
        }
        x.end(0);
        m.end(0);
        lay(row);
        due("fits", x.fits(), m.fits());
        due("fitsAt 0", x.fitsAt(0), m.fitsAt(0));
        due("ask", x.ask(), m.ask);
    }

    private void fix() {
        int[] pairs = new int[r.nextInt(6) == 0 ? r.nextInt(16) : 2 * (1 + r.nextInt(3))];
        int cell = r.nextInt(400);
        for (int i = 0; i < pairs.length; i++) {
            if (i % 2 == 0) {
                pairs[i] = aLight();
            } else {
                boolean known = pairs[i - 1] >= 0 && pairs[i - 1] < m.w.lights.size();
                pairs[i] = some(8);
                if (known && r.nextInt(8) > 0) {
                    Model.Light l = m.w.lights.get(pairs[i - 1]);
                    pairs[i] = Model.octant(cell % 20 - l.x, cell / 20 - l.y);
                }
            }
        }
        x.end(0);
        m.end(0);
        lay(pairs);
        due("fix", x.fix(), m.fix());
        due("fixAt", x.fixAt(), m.fixAt);
    }

    private String chartText() {
        StringBuilder s = new StringBuilder();
        int lights = r.nextInt(r.nextInt(10) == 0 ? 10 : 7);
        int ships = r.nextInt(r.nextInt(10) == 0 ? 6 : 4);
        int reach = 1 + r.nextInt(30);
        int longest = r.nextInt(3) == 0 ? 20 : 3;
        String[] colours = {"white", "red", "green"};
        for (int l = 0; l < lights; l++) {
            s.append("light ").append(NAMES[l]).append(' ').append(r.nextInt(20)).append(' ').append(r.nextInt(20))
                .append(' ').append(1 + r.nextInt(reach)).append(' ').append(colours[r.nextInt(1 + r.nextInt(3))])
                .append(' ').append(r.nextInt(3) == 0 ? r.nextInt(1000) : r.nextInt(30)).append(';');
            int flashes = r.nextInt(r.nextInt(15) == 0 ? 6 : 3);
            for (int f = 0; f < flashes; f++) {
                s.append("flash ").append(NAMES[l]).append(' ').append(1 + r.nextInt(longest)).append(' ')
                    .append(1 + r.nextInt(longest)).append(';');
            }
            if (r.nextInt(3) == 0) {
                s.append("from ").append(NAMES[l]).append(' ').append(r.nextInt(60)).append(";\n");
            }
            for (int d = r.nextInt(3); d > 0; d--) {
                s.append("dark ").append(NAMES[l]).append(' ').append((r.nextInt(2) + 3 * d) % 8).append("; ");
            }
        }
        for (int i = 0; i < ships; i++) {
            s.append("ship ").append(NAMES[11 - i]).append(' ').append(r.nextInt(20)).append(' ').append(r.nextInt(20))
                .append(' ').append(r.nextInt(9)).append(' ').append(1 + r.nextInt(r.nextInt(3) == 0 ? 60 : 5)).append(';');
        }
        if (r.nextInt(2) == 0) {
            s.append("haze ").append(1 + r.nextInt(30)).append(';');
        }
        return padded(s.toString(), 900);
    }

    private String lightName() {
        return NAMES[m.w.lights.isEmpty() ? 0 : r.nextInt(m.w.lights.size())];
    }

    private String shipName() {
        return NAMES[11 - (m.w.ships.isEmpty() ? 0 : r.nextInt(m.w.ships.size()))];
    }

    private String bookText() {
        StringBuilder s = new StringBuilder();
        int lines = r.nextInt(8) == 0 ? 36 + r.nextInt(8) : r.nextInt(8);
        boolean ships = !m.w.ships.isEmpty();
        boolean lights = !m.w.lights.isEmpty();
        for (int i = 0; i < lines; i++) {
            int what = lines > 30 ? 5 + r.nextInt(2) : r.nextInt(7);
            if (what < 4 && !lights || what == 4 && !ships) {
                what = 6;
            }
            switch (what) {
                case 0: s.append("douse ").append(lightName()); break;
                case 1: s.append("kindle ").append(lightName()); break;
                case 2: s.append("fill ").append(lightName()).append(' ').append(1 + r.nextInt(40)); break;
                case 3: s.append("shift ").append(lightName()).append(' ').append(1 + r.nextInt(59)); break;
                case 4: s.append("steer ").append(shipName()).append(' ').append(r.nextInt(9)); break;
                case 5: s.append("haze ").append(1 + r.nextInt(30)); break;
                default: s.append("second ").append(1 + r.nextInt(60)); break;
            }
            s.append(';');
        }
        return padded(s.toString(), 400);
    }

    private String sentenceText() {
        String s = condition(r.nextInt(4) == 0 ? 10 : 4, r.nextInt(5) == 0 ? 7 : 2);
        return padded(s, 200);
    }

    private String condition(int depth, int width) {
        StringBuilder s = new StringBuilder(one(depth, width));
        for (int i = r.nextInt(width); i > 0; i--) {
            s.append(r.nextBoolean() ? " and " : " or ").append(one(depth, width));
        }
        return s.toString();
    }

    private String one(int depth, int width) {
        String[] measures = {"oil", "period", "range", "number"};
        switch (depth > 0 ? r.nextInt(depth > 5 ? 20 : 9) : r.nextInt(7)) {
            case 0: return "out";
            case 1: return "shining";
            case 2: return "fixed";
            case 3: return m.w.lights.isEmpty() ? "out" : "like " + lightName();
            case 4: return m.w.ships.isEmpty() ? "out" : "by " + shipName();
            case 5: case 6:
                return measures[r.nextInt(4)] + " <=>".charAt(1 + r.nextInt(3)) + r.nextInt(r.nextBoolean() ? 8 : 40);
            case 7: case 9: case 10: case 11: case 12: case 13: return "not " + one(depth - 1, width);
            default: return "(" + condition(depth - 1, width) + ")";
        }
    }

    /** Now and then blanks that bring the text to its most bytes, or over them. */
    private String padded(String text, int most) {
        if (r.nextInt(8) > 0 || text.length() > most) {
            return text;
        }
        int blanks = most - text.length() + r.nextInt(24) - 12;
        int at = text.isEmpty() ? 0 : Math.max(0, text.lastIndexOf(' ', r.nextInt(text.length())));
        return text.substring(0, at) + " ".repeat(Math.max(0, blanks)) + text.substring(at);
    }

    private String broken(String text) {
        StringBuilder s = new StringBuilder(text);
        for (int n = r.nextInt(3); n >= 0; n--) {
            int at = s.length() == 0 ? 0 : r.nextInt(s.length());
            switch (r.nextInt(6)) {
                case 0:
                    if (s.length() > 0) {
                        s.deleteCharAt(at);
                    }
                    break;
                case 1: s.insert(at, (char) r.nextInt(256)); break;
                case 2: s.insert(at, " " + WORDS[r.nextInt(WORDS.length)] + " "); break;
                case 3: s.setLength(at); break;
                case 4: {
                    int space = Math.max(0, s.indexOf(" ", at));
                    int end = s.indexOf(" ", space + 1);
                    if (end > space) {
                        s.replace(space, end, " " + WORDS[r.nextInt(WORDS.length)]);
                    }
                    break;
                }
                default: s.append(s.substring(at)); break;
            }
        }
        return s.toString();
    }
}
