import java.util.ArrayDeque;
import java.util.ArrayList;
import java.util.Arrays;
import java.util.Deque;
import java.util.HashSet;
import java.util.List;
import java.util.NoSuchElementException;
import java.util.Set;
import java.util.function.IntPredicate;

/** The document once more, slow and with the whole Java library: what the class is held against. */
final class Model {
    static final Set<String> RESERVED = new HashSet<>(Arrays.asList(("light flash from dark ship haze white red "
        + "green douse kindle fill shift steer second or and not out shining fixed like by oil period range "
        + "number").split(" ")));

    static final class Fault extends RuntimeException {
        private static final long serialVersionUID = 1;
        final int kind;
        final int place;

        Fault(int kind, int place) {
            this.kind = kind;
            this.place = place;
        }
    }

    static final class Token {
        final String text;
        final int place;

        Token(String text, int place) {
            this.text = text;
            this.place = place;
        }

        boolean word() {
            return text.matches("[a-z]{1,7}");
        }

        boolean number() {
            return text.matches("[0-9]{1,3}");
        }
    }

    static final class Light {
        String name;
        int x, y, range, colour, oil, from = -1, shift;
        boolean out;
        List<int[]> flashes = new ArrayList<>();
        Set<Integer> dark = new HashSet<>();

        Light copy() {
            Light c = new Light();
            c.name = name; c.x = x; c.y = y; c.range = range; c.colour = colour; c.oil = oil;
            c.from = from; c.shift = shift; c.out = out;
            c.flashes.addAll(flashes);
            c.dark.addAll(dark);
            return c;
        }

        String row() {
            if (flashes.isEmpty()) {
                return "1";
            }
            StringBuilder s = new StringBuilder();
            for (int[] f : flashes) {
                s.append("1".repeat(f[0])).append("0".repeat(f[1]));
            }
            return s.toString();
        }
    }

    static final class Ship {
        String name;
        int x, y, course, every;

        Ship copy() {
            Ship c = new Ship();
            c.name = name; c.x = x; c.y = y; c.course = course; c.every = every;
            return c;
        }
    }

    static final class World {
        List<Light> lights = new ArrayList<>();
        List<Ship> ships = new ArrayList<>();
        int hazeTold = 30, haze = 30, second;

        World copy() {
            World w = new World();
            for (Light l : lights) {
                w.lights.add(l.copy());
            }
            for (Ship s : ships) {
                w.ships.add(s.copy());
            }
            w.hazeTold = hazeTold; w.haze = haze; w.second = second;
            return w;
        }

        int place(int l) {
            Light a = lights.get(l);
            return (second + a.shift) % a.row().length();
        }

        boolean on(int l, int later) {
            Light a = lights.get(l);
            return a.row().charAt((second + later + a.shift) % a.row().length()) == '1';
        }

        int shows(int l, int place) {
            Light a = lights.get(l);
            return a.row().charAt(place % a.row().length()) == '1' ? a.colour : 0;
        }

        boolean shines(int l) {
            return !lights.get(l).out && lights.get(l).oil > 0 && on(l, 0);
        }

        boolean visible(int l, int cx, int cy, int haze) {
            Light a = lights.get(l);
            int dx = cx - a.x, dy = cy - a.y, r = Math.min(a.range, haze);
            return dx * dx + dy * dy <= r * r && !a.dark.contains(octant(dx, dy));
        }

        boolean sees(int s, int l) {
            return visible(l, ships.get(s).x, ships.get(s).y, haze) && shines(l);
        }

        int bits(IntPredicate p) {
            int set = 0;
            for (int l = 0; l < lights.size(); l++) {
                set |= p.test(l) ? 1 << l : 0;
            }
            return set;
        }

        int oil() {
            int sum = 0;
            for (Light l : lights) {
                sum += l.oil;
            }
            return sum;
        }

        boolean alike(int l, int m) {
            Light a = lights.get(l), b = lights.get(m);
            return l != m && a.colour == b.colour && a.row().length() == b.row().length()
                && (a.row() + a.row()).contains(b.row());
        }

        void tick() {
            int shining = bits(this::shines);
            for (int l = 0; l < lights.size(); l++) {
                lights.get(l).oil -= shining >> l & 1;
            }
            second++;
            for (Ship s : ships) {
                if (second % s.every == 0 && s.course != 8) {
                    double angle = s.course * Math.PI / 4;
                    int nx = s.x + (int) Math.round(Math.cos(angle)), ny = s.y + (int) Math.round(Math.sin(angle));
                    if (nx < 0 || ny < 0 || nx > 19 || ny > 19) {
                        s.course = 8;
                    } else {
                        s.x = nx;
                        s.y = ny;
                    }
                }
            }
        }
    }

    /** By the angle: OCTANT k goes from 45 k (with it) to 45 (k + 1) degrees; exact over whole numbers. */
    static int octant(int dx, int dy) {
        if (dx == 0 && dy == 0) {
            return -1;
        }
        int x = dx, y = dy, turns = 0;
        while (!(x > 0 && y >= 0)) {
            int nx = y, ny = -x;
            x = nx;
            y = ny;
            turns++;
        }
        return 2 * turns + (y >= x ? 1 : 0);
    }

    World w = new World();
    byte[] tape = new byte[0];
    Deque<World> past = new ArrayDeque<>();
    Object[][] images = new Object[2][];
    int fault, changes = -1, ask = -1, spotsAt = -1, fixAt = -1;
    int[] fitsAt = {-1, -1, -1, -1, -1, -1, -1, -1};
    int[] told = {-1, -1, -1, -1};
    String tag = "";
    /** The SENTENCE's TOKENS: judged anew each time. */
    List<Token> sentence;

    // ---- the tape

    int feed(int a, int b, int c, int d, int e) {
        if (tape.length > 920) {
            return -1;
        }
        int at = tape.length;
        tape = Arrays.copyOf(tape, at + 20);
        for (int n : new int[] {a, b, c, d, e}) {
            for (byte v : java.nio.ByteBuffer.allocate(4).putInt(n).array()) {
                tape[at++] = v;
            }
        }
        return tape.length;
    }

    boolean end(int n) {
        if (n < 0 || n > tape.length) {
            return false;
        }
        tape = Arrays.copyOf(tape, n);
        return true;
    }

    // ---- texts

    private List<Token> tokens = new ArrayList<>();
    private int at;
    private int endPlace;

    /** All TOKENS that begin ahead of the end; what is none keeps its text and is refused where it is met. */
    private void open(int most) {
        tokens = new ArrayList<>();
        at = 0;
        String s = new String(tape, java.nio.charset.StandardCharsets.ISO_8859_1);
        tape = new byte[0];
        endPlace = Math.min(s.length(), most);
        java.util.regex.Matcher m = java.util.regex.Pattern.compile("[a-z0-9]+|[^ \n]", java.util.regex.Pattern.DOTALL)
            .matcher(s);
        while (m.find()) {
            if (m.start() < endPlace) {
                tokens.add(new Token(m.group(), m.start()));
            }
        }
        if (s.length() > most) {
            tokens.add(new Token("?", most));
        }
    }

    private Token peek() {
        return at < tokens.size() ? tokens.get(at) : new Token("", endPlace);
    }

    private boolean peek(String text) {
        return peek().text.equals(text);
    }

    private void must(String text) {
        if (!peek(text)) {
            throw new Fault(1, peek().place);
        }
        at++;
    }

    private int number(int low, int high) {
        Token t = peek();
        if (!t.number()) {
            throw new Fault(1, t.place);
        }
        int n = Integer.parseInt(t.text);
        if (n < low || n > high) {
            throw new Fault(2, t.place);
        }
        at++;
        return n;
    }

    private String name() {
        Token t = peek();
        if (!t.word() || RESERVED.contains(t.text)) {
            throw new Fault(1, t.place);
        }
        return t.text;
    }

    private static int find(World w, String name, boolean ship) {
        int n = ship ? w.ships.size() : w.lights.size();
        for (int i = 0; i < n; i++) {
            if ((ship ? w.ships.get(i).name : w.lights.get(i).name).equals(name)) {
                return i;
            }
        }
        return -1;
    }

    private int known(World in, boolean ship) {
        int i = find(in, name(), ship);
        if (i < 0) {
            throw new Fault(3, peek().place);
        }
        return i;
    }

    /** A new NAME behind the WORD of its sort, where one more than there may be is told. */
    private String fresh(World in, int have, int most) {
        if (have == most) {
            throw new Fault(4, peek().place);
        }
        at++;
        String n = name();
        if (find(in, n, false) >= 0 || find(in, n, true) >= 0) {
            throw new Fault(3, peek().place);
        }
        at++;
        return n;
    }

    int chart() {
        open(900);
        try {
            World n = new World();
            int lines = 0;
            boolean[] haze = new boolean[1];
            while (!peek().text.isEmpty()) {
                chartLine(n, haze);
                must(";");
                lines++;
            }
            n.haze = n.hazeTold;
            for (Light l : n.lights) {
                l.shift = Math.max(l.from, 0);
            }
            w = n;
            past.clear();
            sentence = null;
            fault = 0;
            return lines;
        } catch (Fault f) {
            fault = f.kind;
            return -1 - f.place;
        }
    }

    private void chartLine(World n, boolean[] haze) {
        Token first = peek();
        switch (first.text) {
            case "light": {
                Light l = new Light();
                l.name = fresh(n, n.lights.size(), 8);
                l.x = number(0, 19);
                l.y = number(0, 19);
                l.range = number(1, 30);
                l.colour = 1 + Arrays.asList("white", "red", "green").indexOf(peek().text);
                if (l.colour == 0) {
                    throw new Fault(1, peek().place);
                }
                at++;
                l.oil = number(0, 999);
                n.lights.add(l);
                break;
            }
            case "flash": {
                at++;
                Light l = n.lights.get(known(n, false));
                if (l.flashes.size() == 4) {
                    throw new Fault(4, peek().place);
                }
                at++;
                l.flashes.add(new int[] {number(1, 20), number(1, 20)});
                break;
            }
            case "from": {
                at++;
                Light l = n.lights.get(known(n, false));
                if (l.from >= 0) {
                    throw new Fault(3, peek().place);
                }
                at++;
                l.from = number(0, 59);
                break;
            }
            case "dark": {
                at++;
                Light l = n.lights.get(known(n, false));
                at++;
                int place = peek().place;
                if (!l.dark.add(number(0, 7))) {
                    throw new Fault(3, place);
                }
                break;
            }
            case "ship": {
                Ship s = new Ship();
                s.name = fresh(n, n.ships.size(), 4);
                s.x = number(0, 19);
                s.y = number(0, 19);
                s.course = number(0, 8);
                s.every = number(1, 60);
                n.ships.add(s);
                break;
            }
            case "haze":
                if (haze[0]) {
                    throw new Fault(3, first.place);
                }
                at++;
                n.hazeTold = number(1, 30);
                haze[0] = true;
                break;
            default:
                throw new Fault(1, first.place);
        }
    }

    // ---- what is so

    private boolean isLight(int l) {
        return l >= 0 && l < w.lights.size();
    }

    private boolean isShip(int s) {
        return s >= 0 && s < w.ships.size();
    }

    int light(int l, int what) {
        if (!isLight(l) || what < 0 || what > 10) {
            throw new NoSuchElementException();
        }
        Light a = w.lights.get(l);
        int dark = 0;
        for (int o : a.dark) {
            dark += 1 << o;
        }
        return new int[] {a.x, a.y, a.range, a.colour, a.oil, a.row().length(), w.place(l), a.out ? 1 : 0,
            w.shines(l) ? 1 : 0, w.bits(m -> w.alike(l, m)), dark}[what];
    }

    int character(int l, int k) {
        return isLight(l) && k >= 0 && k < w.lights.get(l).row().length() ? w.lights.get(l).row().charAt(k) - '0' : -1;
    }

    int ship(int s, int what) {
        if (!isShip(s) || what < 0 || what > 5) {
            return -1;
        }
        Ship a = w.ships.get(s);
        return new int[] {a.x, a.y, a.course, a.every, w.bits(l -> w.visible(l, a.x, a.y, w.haze)),
            w.bits(l -> w.sees(s, l))}[what];
    }

    int visible(int x, int y) {
        return x < 0 || y < 0 || x > 19 || y > 19 ? -1 : w.bits(l -> w.visible(l, x, y, w.haze));
    }

    int now(int what) {
        if (what < 0 || what > 5) {
            return -1;
        }
        return new int[] {w.second, w.bits(w::shines), w.bits(l -> w.lights.get(l).out),
            w.bits(l -> w.lights.get(l).oil == 0), w.haze, w.oil()}[what];
    }

    // ---- acts

    private void keep(World before) {
        past.push(before);
        while (past.size() > 8) {
            past.removeLast();
        }
    }

    static int act(World w, String what, int who, int n) {
        switch (what) {
            case "douse":
                if (w.lights.get(who).out) {
                    return 1;
                }
                w.lights.get(who).out = true;
                return 0;
            case "kindle":
                if (!w.lights.get(who).out) {
                    return 1;
                }
                if (w.lights.get(who).oil == 0) {
                    return 2;
                }
                w.lights.get(who).out = false;
                return 0;
            case "fill":
                if (w.lights.get(who).oil + n > 999) {
                    return 1;
                }
                w.lights.get(who).oil += n;
                return 0;
            case "shift":
                if (w.lights.get(who).flashes.isEmpty()) {
                    return 1;
                }
                w.lights.get(who).shift += n;
                return 0;
            case "steer":
                if (w.ships.get(who).course == n) {
                    return 1;
                }
                w.ships.get(who).course = n;
                return 0;
            case "haze":
                if (w.haze == n) {
                    return 1;
                }
                w.haze = n;
                return 0;
            default:
                if (w.second + n > 3600) {
                    return 1;
                }
                for (int i = 0; i < n; i++) {
                    w.tick();
                }
                return 0;
        }
    }

    private int tryAct(boolean told, String what, int who, int n) {
        if (!told) {
            return -1;
        }
        World before = w.copy();
        int why = act(w, what, who, n);
        if (why == 0) {
            keep(before);
        }
        return why;
    }

    int douse(int l) {
        return tryAct(isLight(l), "douse", l, 0);
    }

    int kindle(int l) {
        return tryAct(isLight(l), "kindle", l, 0);
    }

    int fill(int l, int n) {
        return tryAct(isLight(l) && n >= 1 && n <= 999, "fill", l, n);
    }

    int shift(int l, int n) {
        return tryAct(isLight(l) && n >= 1 && n <= 59, "shift", l, n);
    }

    int steer(int s, int c) {
        return tryAct(isShip(s) && c >= 0 && c <= 8, "steer", s, c);
    }

    int haze(int n) {
        return tryAct(n >= 1 && n <= 30, "haze", 0, n);
    }

    int seconds(int n) {
        if (n < 1 || n > 60) {
            return -1;
        }
        int go = Math.min(n, 3600 - w.second);
        if (go > 0) {
            tryAct(true, "second", 0, go);
        }
        return go;
    }

    int undo() {
        if (past.isEmpty()) {
            return -1;
        }
        w = past.pop();
        return past.size();
    }

    // ---- questions

    private List<int[]> pairs() {
        List<int[]> all = new ArrayList<>();
        for (int l = 0; l < w.lights.size(); l++) {
            for (int m = l + 1; m < w.lights.size(); m++) {
                boolean sight = false;
                for (int c = 0; c < 400; c++) {
                    sight |= w.visible(l, c % 20, c / 20, 30) && w.visible(m, c % 20, c / 20, 30);
                }
                if (sight && w.alike(l, m)) {
                    all.add(new int[] {l, m});
                }
            }
        }
        return all;
    }

    int confused() {
        return pairs().size();
    }

    int change() {
        List<int[]> all = pairs();
        for (int n = 0; n <= 8; n++) {
            for (int set = 0; set < 256; set++) {
                int chosen = set;
                if (Integer.bitCount(set) == n
                    && all.stream().allMatch(p -> (chosen >> p[0] & 1) + (chosen >> p[1] & 1) > 0)) {
                    changes = set;
                    return n;
                }
            }
        }
        throw new IllegalStateException();
    }

    int apart(int l, int m) {
        if (!isLight(l) || !isLight(m)) {
            return -1;
        }
        StringBuilder long2 = new StringBuilder();
        int round = w.lights.get(m).row().length();
        for (int i = 0; i < 400 + round; i++) {
            long2.append(w.shows(m, i));
        }
        StringBuilder looked = new StringBuilder();
        for (int n = 1; n <= 400; n++) {
            looked.append(w.shows(l, w.place(l) + n - 1));
            if (long2.indexOf(looked.toString()) < 0) {
                return n;
            }
        }
        return -1;
    }

    int both(int l, int m) {
        if (!isLight(l) || !isLight(m)) {
            return -1;
        }
        for (int n = 0; n < 26000; n++) {
            if (w.on(l, n) && w.on(m, n)) {
                return n;
            }
        }
        return -1;
    }

    int fits() {
        byte[] row = tape;
        tape = new byte[0];
        if (row.length < 1 || row.length > 40) {
            return -1;
        }
        StringBuilder seen = new StringBuilder();
        for (byte b : row) {
            if (b < 0 || b > 3) {
                return -1;
            }
            seen.append(b);
        }
        int[] at = {-1, -1, -1, -1, -1, -1, -1, -1};
        for (int l = 0; l < w.lights.size(); l++) {
            StringBuilder shown = new StringBuilder();
            int round = w.lights.get(l).row().length();
            for (int i = 0; i < round + 40; i++) {
                shown.append(w.shows(l, i));
            }
            int p = shown.indexOf(seen.toString());
            at[l] = p < round ? p : -1;
        }
        int set = w.bits(l -> at[l] >= 0);
        if (set > 0) {
            fitsAt = at;
            ask = bestAsk(at, row.length);
        }
        return set;
    }

    private int bestAsk(int[] places, int length) {
        int best = -1, least = 99;
        for (int n = 0; n <= 39; n++) {
            int[] groups = new int[4];
            for (int l = 0; l < w.lights.size(); l++) {
                if (places[l] >= 0) {
                    groups[w.shows(l, places[l] + length + n)]++;
                }
            }
            int most = Arrays.stream(groups).max().getAsInt();
            if (most < least) {
                least = most;
                best = n;
            }
        }
        return best;
    }

    int fitsAt(int l) {
        return l < 0 || l > 7 ? -1 : fitsAt[l];
    }

    private int cells(IntPredicate p, IntPredicate first) {
        int n = 0;
        for (int c = 0; c < 400; c++) {
            if (p.test(c)) {
                if (n == 0) {
                    first.test(c);
                }
                n++;
            }
        }
        return n;
    }

    int spots(int set) {
        if (set < 0 || set >= 1 << w.lights.size()) {
            return -1;
        }
        return cells(c -> visible(c % 20, c / 20) == set, c -> {
            spotsAt = c;
            return true;
        });
    }

    int fix() {
        byte[] t = tape;
        tape = new byte[0];
        if (t.length == 0 || t.length % 2 == 1 || t.length > 12) {
            return -1;
        }
        for (int i = 0; i < t.length; i += 2) {
            if (!isLight(t[i]) || t[i + 1] < 0 || t[i + 1] > 7) {
                return -1;
            }
        }
        return cells(c -> {
            boolean all = true;
            for (int i = 0; i < t.length; i += 2) {
                Light l = w.lights.get(t[i]);
                all &= octant(c % 20 - l.x, c / 20 - l.y) == t[i + 1];
            }
            return all;
        }, c -> {
            fixAt = c;
            return true;
        });
    }

    int most() {
        int best = -1, most = -1;
        for (int c = 0; c < 400 && !w.lights.isEmpty(); c++) {
            int n = Integer.bitCount(visible(c % 20, c / 20));
            if (n > most) {
                most = n;
                best = c;
            }
        }
        return best;
    }

    int burn(int l) {
        if (!isLight(l)) {
            return -1;
        }
        World t = w.copy();
        t.ships.clear();
        if (t.lights.get(l).oil == 0) {
            return 0;
        }
        if (t.lights.get(l).out) {
            return -1;
        }
        int oil = t.lights.get(l).oil;
        int n = 0;
        while (oil > 0) {
            if (t.on(l, n)) {
                oil--;
            }
            n++;
        }
        return n;
    }

    int waits(int s) {
        if (!isShip(s)) {
            return -1;
        }
        World t = w.copy();
        for (int n = 0; n <= 600; n++) {
            if (t.bits(l -> t.sees(s, l)) != 0) {
                return n;
            }
            t.tick();
        }
        return -1;
    }

    int mean(int what) {
        if (w.lights.isEmpty() || what < 0 || what > 1) {
            throw new NoSuchElementException();
        }
        int a = w.oil(), b = w.lights.size();
        int g = java.math.BigInteger.valueOf(a).gcd(java.math.BigInteger.valueOf(b)).intValue();
        return (what == 0 ? a : b) / g;
    }

    int tag(int s) {
        if (!isShip(s)) {
            return -1;
        }
        Ship a = w.ships.get(s);
        tag = String.format("%s at %d %d sees %d", a.name, a.x, a.y, Integer.bitCount(ship(s, 5)));
        return tag.length();
    }

    int byteAt(int i) {
        return i < 0 || i >= tag.length() ? -1 : tag.charAt(i);
    }

    // ---- draws

    private static int draws(World w, int n, int seed) {
        int[] x = {seed};
        int went = 0;
        for (; went < n && w.second < 3600; went++) {
            int d = draw(x, 6);
            if (d == 0 && !w.lights.isEmpty()) {
                int l = draw(x, w.lights.size());
                act(w, w.lights.get(l).out ? "kindle" : "douse", l, 0);
            }
            if (d == 1 && !w.ships.isEmpty()) {
                int s = draw(x, w.ships.size());
                act(w, "steer", s, draw(x, 9));
            }
            if (d == 2 && !w.lights.isEmpty()) {
                int l = draw(x, w.lights.size());
                act(w, "fill", l, 1 + draw(x, 20));
            }
            if (d == 3) {
                act(w, "haze", 0, 1 + draw(x, 30));
            }
            w.tick();
        }
        return went;
    }

    private static int draw(int[] x, int n) {
        x[0] = x[0] * 1103515245 + 12345;
        return (x[0] >>> 8) % n;
    }

    int drawn(int n, int seed) {
        if (n < 1 || n > 60) {
            return -1;
        }
        World before = w.copy();
        int went = draws(w, n, seed);
        if (went > 0) {
            keep(before);
        }
        return went;
    }

    int odds(int s, int n, int seed) {
        if (!isShip(s) || n < 1 || n > 30) {
            return -1;
        }
        int good = 0;
        for (int i = 0; i < n; i++) {
            World t = w.copy();
            draws(t, 30, seed + i);
            good += t.bits(l -> t.sees(s, l)) != 0 ? 1 : 0;
        }
        return good;
    }

    // ---- books

    int book(int lives) {
        if (lives < 0 || lives > 1) {
            return -1000;
        }
        open(400);
        List<Object[]> lines = new ArrayList<>();
        try {
            while (!peek().text.isEmpty()) {
                lines.add(bookLine(lines.size()));
                must(";");
            }
        } catch (Fault f) {
            fault = f.kind;
            return -2 - f.place;
        }
        fault = 0;
        World t = w.copy();
        int lived = 0, why = 0;
        List<String> acts = Arrays.asList("douse", "kindle", "fill", "shift", "steer", "haze", "second");
        for (Object[] line : lines) {
            int wrong = act(t, (String) line[0], (Integer) line[1], (Integer) line[2]);
            if (wrong != 0) {
                why = 10 * acts.indexOf(line[0]) + wrong;
                break;
            }
            lived++;
        }
        told = new int[] {why, lived, t.second, t.oil()};
        if (lives == 1 && lived > 0) {
            keep(w);
            w = t;
        }
        return why == 0 ? -1 : lived;
    }

    private Object[] bookLine(int have) {
        Token first = peek();
        if (!Arrays.asList("douse", "kindle", "fill", "shift", "steer", "haze", "second").contains(first.text)) {
            throw new Fault(1, first.place);
        }
        if (have == 40) {
            throw new Fault(4, first.place);
        }
        at++;
        int who = 0, n = 0;
        if (!first.text.equals("haze") && !first.text.equals("second")) {
            who = known(w, first.text.equals("steer"));
            at++;
        }
        switch (first.text) {
            case "fill": n = number(1, 999); break;
            case "shift": n = number(1, 59); break;
            case "steer": n = number(0, 8); break;
            case "haze": n = number(1, 30); break;
            case "second": n = number(1, 60); break;
            default: break;
        }
        return new Object[] {first.text, who, n};
    }

    int told(int what) {
        return what < 0 || what > 3 ? -1 : told[what];
    }

    // ---- sentences

    private int ones;

    int sentence() {
        open(200);
        try {
            ones = 0;
            condition(1, 0);
            if (!peek().text.isEmpty()) {
                throw new Fault(1, peek().place);
            }
            sentence = tokens;
            fault = 0;
            return ones;
        } catch (Fault f) {
            fault = f.kind;
            return -1 - f.place;
        }
    }

    private boolean condition(int depth, int l) {
        boolean some = all(depth, l);
        while (peek("or")) {
            at++;
            some |= all(depth, l);
        }
        return some;
    }

    private boolean all(int depth, int l) {
        boolean every = one(depth, l);
        while (peek("and")) {
            at++;
            every &= one(depth, l);
        }
        return every;
    }

    private boolean one(int depth, int l) {
        Token t = peek();
        if (!Arrays.asList("not", "(", "out", "shining", "fixed", "like", "by", "oil", "period", "range", "number")
            .contains(t.text)) {
            throw new Fault(1, t.place);
        }
        if (++ones > 20 || depth > 8) {
            throw new Fault(4, t.place);
        }
        at++;
        boolean is = isLight(l);
        switch (t.text) {
            case "not":
                return !one(depth + 1, l);
            case "(": {
                boolean c = condition(depth + 1, l);
                must(")");
                return c;
            }
            case "out":
                return is && w.lights.get(l).out;
            case "shining":
                return is && w.shines(l);
            case "fixed":
                return is && w.lights.get(l).flashes.isEmpty();
            case "like": {
                int m = known(w, false);
                at++;
                return is && (m == l || w.alike(l, m));
            }
            case "by": {
                int s = known(w, true);
                at++;
                return is && w.sees(s, l);
            }
            default:
                return measure(t.text, l);
        }
    }

    private boolean measure(String what, int l) {
        Token sign = peek();
        if (!Arrays.asList("<", "=", ">").contains(sign.text)) {
            throw new Fault(1, sign.place);
        }
        at++;
        int n = number(0, 999);
        if (!isLight(l)) {
            return false;
        }
        Light a = w.lights.get(l);
        int v = what.equals("oil") ? a.oil : what.equals("period") ? a.row().length() : what.equals("range") ? a.range : l;
        return sign.text.equals("<") ? v < n : sign.text.equals("=") ? v == n : v > n;
    }

    int said(int k) {
        if (sentence == null || k < -1) {
            return -1;
        }
        List<Integer> of = new ArrayList<>();
        for (int l = 0; l < w.lights.size(); l++) {
            tokens = sentence;
            at = 0;
            ones = 0;
            if (condition(1, l)) {
                of.add(l);
            }
        }
        return k == -1 ? of.size() : k < of.size() ? of.get(k) : -1;
    }

    boolean image(int k) {
        if (k < 0 || k > 1) {
            return false;
        }
        images[k] = new Object[] {w.copy(), sentence};
        return true;
    }

    @SuppressWarnings("unchecked")
    boolean restore(int k) {
        if (k < 0 || k > 1 || images[k] == null) {
            return false;
        }
        w = ((World) images[k][0]).copy();
        sentence = (List<Token>) images[k][1];
        past.clear();
        return true;
    }

    int count(int what) {
        return what < 0 || what > 3 ? -1 : new int[] {w.lights.size(), w.ships.size(), w.hazeTold, tape.length}[what];
    }
}
