import java.util.NoSuchElementException;

/**
 * Light list of a coast: a CHART of LIGHTS and SHIPS told as a text, SECONDS that go by over it,
 * acts that change and undo what is so, and questions about what is shown and seen.
 *
 * All rows are made in constructors and used again: no call makes an object.
 */
public final class CoastLights {
    public static final int NONE = -1;

    private static final int MOST_LIGHTS = 8;
    private static final int MOST_SHIPS = 4;
    private static final int MOST_FLASHES = 4;
    private static final int LONGEST_FLASH = 20;
    private static final int LONGEST_ROW = MOST_FLASHES * 2 * LONGEST_FLASH;
    private static final int MOST_OIL = 999;
    private static final int MOST_EVERY = 60;
    private static final int MOST_SHIFT = 59;
    private static final int MOST_SECONDS = 60;
    private static final int CLEAR = 30;
    private static final int SIDE = 20;
    private static final int CELLS = SIDE * SIDE;
    private static final int OCTANTS = 8;
    private static final int LYING = 8;
    private static final int OVER = 3600;

    private static final int MOST_TAPE = 940;
    private static final int MOST_CHART = 900;
    private static final int MOST_BOOK = 400;
    private static final int MOST_SENTENCE = 200;
    private static final int MOST_LINES = 40;
    private static final int MOST_ONES = 20;
    private static final int MOST_WITHIN = 8;
    private static final int LONGEST_WORD = 7;
    private static final int LONGEST_NUMBER = 3;
    private static final int LETTER_BITS = 5;

    private static final int CANNOT_COME = 1;
    private static final int BAD_NUMBER = 2;
    private static final int BAD_NAME = 3;
    private static final int TOO_MANY = 4;

    private static final int MOST_APART = 400;
    private static final int MOST_FITTED = 40;
    private static final int LAST_ASKED = 39;
    private static final int MOST_FIXES = 6;
    private static final int MOST_WAITED = 600;
    private static final int MOST_SEEDS = 30;
    private static final int DRAWN_FOR_ODDS = 30;
    private static final int MOST_UNDONE = 8;
    private static final int IMAGES = 2;
    private static final int LONGEST_TAG = 32;
    private static final int NO_SUCH_LIVES = -1000;

    private static final int[] STEP_X = {1, 1, 0, -1, -1, -1, 0, 1, 0};
    private static final int[] STEP_Y = {0, 1, 1, 1, 0, -1, -1, -1, 0};

    private final Tokens tokens = new Tokens();
    private final Chart map = new Chart();
    private final Chart mapDraft = new Chart();
    private final Scene scene = new Scene(map);
    private final Scene trial = new Scene(map);
    private final Sentence speech = new Sentence();
    private final Sentence speechDraft = new Sentence();
    private final Book acts = new Book();
    private final Past past = new Past(map);
    private final Draws draws = new Draws();
    private final Image[] images = new Image[IMAGES];
    private final int[] fitPlaces = new int[MOST_LIGHTS];
    private final int[] toldLast = {NONE, NONE, NONE, NONE};
    private final int[] tagBytes = new int[LONGEST_TAG];
    private int tagLength;
    private int faultKind;
    private int changeSet = NONE;
    private int askedSecond = NONE;
    private int spotsFirst = NONE;
    private int fixFirst = NONE;

    public CoastLights() {
        for (int k = 0; k < IMAGES; k++) {
            images[k] = new Image(map);
        }
        for (int l = 0; l < MOST_LIGHTS; l++) {
            fitPlaces[l] = NONE;
        }
        scene.begin();
    }

    public int feed(int a, int b, int c, int d, int e) {
        if (tokens.length + 20 > MOST_TAPE) {
            return NONE;
        }
        tokens.put(a);
        tokens.put(b);
        tokens.put(c);
        tokens.put(d);
        tokens.put(e);
        return tokens.length;
    }

    public boolean end(int n) {
        if (n < 0 || n > tokens.length) {
            return false;
        }
        tokens.length = n;
        return true;
    }

    public int chart() {
        boolean good = mapDraft.read(tokens);
        closeText();
        if (!good) {
            return -1 - tokens.faultPlace;
        }
        map.copyFrom(mapDraft);
        map.compareLights();
        scene.begin();
        speech.clear();
        past.clear();
        return map.lines;
    }

    public int fault() {
        return faultKind;
    }

    public int light(int l, int what) throws NoSuchElementException {
        if (!isLight(l) || what < 0 || what > 10) {
            throw new NoSuchElementException();
        }
        Light light = map.lights[l];
        switch (what) {
            case 0: return light.x;
            case 1: return light.y;
            case 2: return light.range;
            case 3: return light.colour;
            case 4: return scene.oil[l];
            case 5: return light.period;
            case 6: return scene.placeOf(l);
            case 7: return scene.isOut(l) ? 1 : 0;
            case 8: return scene.shines(l) ? 1 : 0;
            case 9: return light.alike;
            default: return light.dark;
        }
    }

    public int character(int l, int k) {
        if (!isLight(l) || k < 0 || k >= map.lights[l].period) {
            return NONE;
        }
        return map.lights[l].row[k] ? 1 : 0;
    }

    public int ship(int s, int what) {
        if (!isShip(s)) {
            return NONE;
        }
        switch (what) {
            case 0: return scene.shipX[s];
            case 1: return scene.shipY[s];
            case 2: return scene.course[s];
            case 3: return map.ships[s].every;
            case 4: return scene.visibleFrom(scene.shipX[s], scene.shipY[s]);
            case 5: return scene.seenBy(s);
            default: return NONE;
        }
    }

    public int visible(int x, int y) {
        return isCell(x, y) ? scene.visibleFrom(x, y) : NONE;
    }

    public int now(int what) {
        switch (what) {
            case 0: return scene.second;
            case 1: return scene.shiningOnes();
            case 2: return scene.out;
            case 3: return scene.emptyOnes();
            case 4: return scene.hazeNow;
            case 5: return scene.oilOfAll();
            default: return NONE;
        }
    }

    public int douse(int l) {
        if (!isLight(l)) {
            return NONE;
        }
        past.mark(scene);
        return keepIfDone(scene.putOut(l));
    }

    public int kindle(int l) {
        if (!isLight(l)) {
            return NONE;
        }
        past.mark(scene);
        return keepIfDone(scene.relight(l));
    }

    public int fill(int l, int n) {
        if (!isLight(l) || n < 1 || n > MOST_OIL) {
            return NONE;
        }
        past.mark(scene);
        return keepIfDone(scene.pourInto(l, n));
    }

    public int shift(int l, int n) {
        if (!isLight(l) || n < 1 || n > MOST_SHIFT) {
            return NONE;
        }
        past.mark(scene);
        return keepIfDone(scene.moveOn(l, n));
    }

    public int steer(int s, int course) {
        if (!isShip(s) || course < 0 || course > LYING) {
            return NONE;
        }
        past.mark(scene);
        return keepIfDone(scene.turn(s, course));
    }

    public int haze(int n) {
        if (n < 1 || n > CLEAR) {
            return NONE;
        }
        past.mark(scene);
        return keepIfDone(scene.setHaze(n));
    }

    public int seconds(int n) {
        if (n < 1 || n > MOST_SECONDS) {
            return NONE;
        }
        past.mark(scene);
        return keepIfAny(scene.pass(n));
    }

    public int undo() {
        return past.takeBack(scene);
    }

    public int confused() {
        return map.pairsConfused();
    }

    public int change() {
        changeSet = map.fewestChanged();
        return Integer.bitCount(changeSet);
    }

    public int changes() {
        return changeSet;
    }

    public int apart(int l, int m) {
        if (!isLight(l) || !isLight(m)) {
            return NONE;
        }
        int longest = 0;
        for (int from = 0; from < map.lights[m].period; from++) {
            int same = map.lights[l].sameFor(scene.placeOf(l), map.lights[m], from);
            longest = Math.max(longest, same);
        }
        return longest < MOST_APART ? longest + 1 : NONE;
    }

    public int both(int l, int m) {
        if (!isLight(l) || !isLight(m)) {
            return NONE;
        }
        Light one = map.lights[l];
        Light other = map.lights[m];
        int p = scene.placeOf(l);
        int q = scene.placeOf(m);
        for (int n = 0; n < one.period * other.period; n++) {
            if (one.row[p] && other.row[q]) {
                return n;
            }
            p = one.placeBehind(p);
            q = other.placeBehind(q);
            if (p == scene.placeOf(l) && q == scene.placeOf(m)) {
                return NONE;
            }
        }
        return NONE;
    }

    public int fits() {
        int set = tokens.isShownRow() ? fittingLights() : NONE;
        if (set > 0) {
            keepFits(set);
        }
        tokens.length = 0;
        return set;
    }

    public int fitsAt(int l) {
        return l >= 0 && l < MOST_LIGHTS ? fitPlaces[l] : NONE;
    }

    public int ask() {
        return askedSecond;
    }

    public int spots(int set) {
        if (set < 0 || set > map.allLights()) {
            return NONE;
        }
        int cells = 0;
        for (int cell = CELLS - 1; cell >= 0; cell--) {
            if (scene.visibleFrom(cell % SIDE, cell / SIDE) == set) {
                cells++;
                spotsFirst = cell;
            }
        }
        return cells;
    }

    public int spotsAt() {
        return spotsFirst;
    }

    public int fix() {
        int cells = NONE;
        if (isFixTape()) {
            cells = 0;
            for (int cell = CELLS - 1; cell >= 0; cell--) {
                if (liesAsTaped(cell % SIDE, cell / SIDE)) {
                    cells++;
                    fixFirst = cell;
                }
            }
        }
        tokens.length = 0;
        return cells;
    }

    public int fixAt() {
        return fixFirst;
    }

    public int most() {
        if (map.lightCount == 0) {
            return NONE;
        }
        int best = 0;
        int bestSeen = 0;
        for (int cell = 0; cell < CELLS; cell++) {
            int seen = Integer.bitCount(scene.visibleFrom(cell % SIDE, cell / SIDE));
            if (seen > bestSeen) {
                best = cell;
                bestSeen = seen;
            }
        }
        return best;
    }

    public int burn(int l) {
        return isLight(l) ? scene.secondsToBurn(l) : NONE;
    }

    public int waits(int s) {
        if (!isShip(s)) {
            return NONE;
        }
        trial.copyFrom(scene);
        for (int n = 0; n <= MOST_WAITED; n++) {
            if (trial.seenBy(s) != 0) {
                return n;
            }
            trial.passOne();
        }
        return NONE;
    }

    public int mean(int what) throws NoSuchElementException {
        if (map.lightCount == 0 || what < 0 || what > 1) {
            throw new NoSuchElementException();
        }
        int above = scene.oilOfAll();
        int below = map.lightCount;
        for (int d = map.lightCount; d > 1; d--) {
            if (above % d == 0 && below % d == 0) {
                above /= d;
                below /= d;
            }
        }
        return what == 0 ? above : below;
    }

    public int tag(int s) {
        if (!isShip(s)) {
            return NONE;
        }
        tagLength = 0;
        tagWord(map.ships[s].name);
        tagText(" at ");
        tagNumber(scene.shipX[s]);
        tagText(" ");
        tagNumber(scene.shipY[s]);
        tagText(" sees ");
        tagNumber(Integer.bitCount(scene.seenBy(s)));
        return tagLength;
    }

    public int byteAt(int i) {
        return i >= 0 && i < tagLength ? tagBytes[i] : NONE;
    }

    public int drawn(int n, int seed) {
        if (n < 1 || n > MOST_SECONDS) {
            return NONE;
        }
        past.mark(scene);
        draws.begin(seed);
        return keepIfAny(draws.liveSeconds(scene, n));
    }

    public int odds(int s, int n, int seed) {
        if (!isShip(s) || n < 1 || n > MOST_SEEDS) {
            return NONE;
        }
        int seeing = 0;
        for (int i = 0; i < n; i++) {
            trial.copyFrom(scene);
            draws.begin(seed + i);
            draws.liveSeconds(trial, DRAWN_FOR_ODDS);
            if (trial.seenBy(s) != 0) {
                seeing++;
            }
        }
        return seeing;
    }

    public int book(int lives) {
        if (lives != 0 && lives != 1) {
            return NO_SUCH_LIVES;
        }
        boolean good = acts.read(tokens, map);
        closeText();
        if (!good) {
            return -2 - tokens.faultPlace;
        }
        trial.copyFrom(scene);
        acts.live(trial);
        toldLast[0] = acts.wrong;
        toldLast[1] = acts.lived;
        toldLast[2] = trial.second;
        toldLast[3] = trial.oilOfAll();
        if (lives == 1 && acts.lived > 0) {
            past.mark(scene);
            past.keep();
            scene.copyFrom(trial);
        }
        return acts.wrong != 0 ? acts.lived : NONE;
    }

    public int told(int what) {
        return what >= 0 && what <= 3 ? toldLast[what] : NONE;
    }

    public int sentence() {
        boolean good = speechDraft.read(tokens, map);
        closeText();
        if (!good) {
            return -1 - tokens.faultPlace;
        }
        speech.copyFrom(speechDraft);
        return speech.ones;
    }

    public int said(int k) {
        if (speech.ones == 0 || k < NONE) {
            return NONE;
        }
        int set = speech.saidOf(scene);
        return k == NONE ? Integer.bitCount(set) : memberAt(set, k);
    }

    public boolean image(int k) {
        if (k < 0 || k >= IMAGES) {
            return false;
        }
        images[k].map.copyFrom(map);
        images[k].scene.copyFrom(scene);
        images[k].speech.copyFrom(speech);
        images[k].kept = true;
        return true;
    }

    public boolean restore(int k) {
        if (k < 0 || k >= IMAGES || !images[k].kept) {
            return false;
        }
        map.copyFrom(images[k].map);
        scene.copyFrom(images[k].scene);
        speech.copyFrom(images[k].speech);
        past.clear();
        return true;
    }

    public int count(int what) {
        switch (what) {
            case 0: return map.lightCount;
            case 1: return map.shipCount;
            case 2: return map.hazeTold;
            case 3: return tokens.length;
            default: return NONE;
        }
    }

    private boolean isLight(int l) {
        return l >= 0 && l < map.lightCount;
    }

    private boolean isShip(int s) {
        return s >= 0 && s < map.shipCount;
    }

    private static boolean isCell(int x, int y) {
        return x >= 0 && x < SIDE && y >= 0 && y < SIDE;
    }

    private static int remainder(int number, int divisor) {
        return divisor > 0 ? number % divisor : 0;
    }

    /** The OCTANT by x and y, NONE in the LIGHT's own cell. */
    private static int octantOf(int x, int y) {
        if (y >= 0 && x > y) {
            return 0;
        } else if (x > 0 && y >= x) {
            return 1;
        } else if (x <= 0 && y > -x) {
            return 2;
        } else if (y > 0 && y <= -x) {
            return 3;
        } else if (y <= 0 && x < y) {
            return 4;
        } else if (x < 0 && y <= x) {
            return 5;
        } else if (x >= 0 && -y > x) {
            return 6;
        } else if (y < 0 && -y <= x) {
            return 7;
        }
        return NONE;
    }

    private static int memberAt(int set, int k) {
        int left = k;
        for (int l = 0; l < MOST_LIGHTS; l++) {
            if ((set >> l & 1) != 0) {
                if (left == 0) {
                    return l;
                }
                left--;
            }
        }
        return NONE;
    }

    private void closeText() {
        faultKind = tokens.fault;
        tokens.length = 0;
    }

    private int keepIfDone(int why) {
        if (why == 0) {
            past.keep();
        }
        return why;
    }

    private int keepIfAny(int went) {
        if (went > 0) {
            past.keep();
        }
        return went;
    }

    private int fittingLights() {
        int set = 0;
        for (int l = 0; l < map.lightCount; l++) {
            if (tokens.leastFit(map.lights[l]) != NONE) {
                set |= 1 << l;
            }
        }
        return set;
    }

    /** What ask() answers is found now: a new CHART may come ahead of it. */
    private void keepFits(int set) {
        for (int l = 0; l < MOST_LIGHTS; l++) {
            fitPlaces[l] = (set >> l & 1) != 0 ? tokens.leastFit(map.lights[l]) : NONE;
        }
        askedSecond = 0;
        int fewestLeft = mostLeft(0);
        for (int n = 1; n <= LAST_ASKED; n++) {
            int left = mostLeft(n);
            if (left < fewestLeft) {
                fewestLeft = left;
                askedSecond = n;
            }
        }
    }

    /** How many fitting LIGHTS show what most of them show, n SECONDS behind the row on the tape. */
    private int mostLeft(int n) {
        int most = 0;
        for (int shown = 0; shown <= 3; shown++) {
            int alike = 0;
            for (int l = 0; l < map.lightCount; l++) {
                int place = fitPlaces[l];
                if (place != NONE && map.lights[l].shownAt(place + tokens.length + n) == shown) {
                    alike++;
                }
            }
            most = Math.max(most, alike);
        }
        return most;
    }

    private boolean isFixTape() {
        int length = tokens.length;
        if (length == 0 || length > 2 * MOST_FIXES || length % 2 != 0) {
            return false;
        }
        for (int i = 0; i + 1 < length; i += 2) {
            if (!isLight(tokens.tape[i]) || tokens.tape[i + 1] >= OCTANTS) {
                return false;
            }
        }
        return true;
    }

    private boolean liesAsTaped(int x, int y) {
        for (int i = 0; i + 1 < tokens.length; i += 2) {
            Light light = map.lights[tokens.tape[i]];
            if (octantOf(x - light.x, y - light.y) != tokens.tape[i + 1]) {
                return false;
            }
        }
        return true;
    }

    private void tagByte(int b) {
        if (tagLength < LONGEST_TAG) {
            tagBytes[tagLength] = b;
            tagLength++;
        }
    }

    private void tagText(String text) {
        for (int i = 0; i < text.length(); i++) {
            tagByte(text.charAt(i));
        }
    }

    private void tagWord(long code) {
        for (int i = LONGEST_WORD - 1; i >= 0; i--) {
            int letter = (int) (code >> i * LETTER_BITS) & 31;
            if (letter != 0) {
                tagByte('a' + letter - 1);
            }
        }
    }

    private void tagNumber(int n) {
        if (n >= 10) {
            tagByte('0' + n / 10);
        }
        tagByte('0' + n % 10);
    }

    /** The WORDS that no NAME may be. */
    private enum Word {
        LIGHT("light"), FLASH("flash"), FROM("from"), DARK("dark"), SHIP("ship"), HAZE("haze"),
        WHITE("white"), RED("red"), GREEN("green"),
        DOUSE("douse"), KINDLE("kindle"), FILL("fill"), SHIFT("shift"), STEER("steer"),
        SECOND("second"),
        OR("or"), AND("and"), NOT("not"), OUT("out"), SHINING("shining"), FIXED("fixed"),
        LIKE("like"), BY("by"), OIL("oil"), PERIOD("period"), RANGE("range"), NUMBER("number");

        private static final Word[] ALL = values();

        final long code;

        Word(String text) {
            long sum = 0;
            for (int i = 0; i < text.length(); i++) {
                sum = (sum << LETTER_BITS) + (text.charAt(i) - 'a' + 1);
            }
            code = sum;
        }

        static boolean isReserved(long code) {
            for (int i = 0; i < ALL.length; i++) {
                if (ALL[i].code == code) {
                    return true;
                }
            }
            return false;
        }
    }

    /** The tape, and its TOKENS one by one with the first FAULT. */
    private static final class Tokens {
        static final int END = 0;
        static final int WORD = 1;
        static final int NUMBER = 2;
        static final int SIGN = 3;
        static final int BROKEN = 4;

        final int[] tape = new int[MOST_TAPE];
        int length;
        int kind;
        /** Letters of a WORD, 5 bits each; 0 for another TOKEN. */
        long code;
        /** Of a NUMBER or a sign. */
        int value;
        /** The NUMBER that was taken last. */
        int taken;
        int fault;
        int faultPlace;
        private int place;
        private int behind;
        private int stop;
        private boolean tooLong;

        void put(int number) {
            for (int bits = 24; bits >= 0; bits -= 8) {
                if (length < MOST_TAPE) {
                    tape[length] = number >>> bits & 255;
                    length++;
                }
            }
        }

        void open(int mostBytes) {
            stop = Math.min(length, mostBytes);
            tooLong = length > mostBytes;
            behind = 0;
            fault = 0;
            faultPlace = 0;
            next();
        }

        void next() {
            int p = behind;
            while (p < stop && (tape[p] == ' ' || tape[p] == '\n')) {
                p++;
            }
            place = Math.min(p, stop);
            code = 0;
            value = 0;
            if (place == stop) {
                kind = END;
                return;
            }
            readRun();
            if (behind == place) {
                readSign();
            }
        }

        boolean refuse(int why) {
            fault = why;
            faultPlace = place;
            return false;
        }

        boolean is(Word word) {
            return code == word.code;
        }

        boolean isSign(char sign) {
            return kind == SIGN && value == sign;
        }

        boolean isName() {
            return kind == WORD && !Word.isReserved(code);
        }

        boolean atNumber(int least, int greatest) {
            if (kind != NUMBER) {
                return refuse(CANNOT_COME);
            }
            return value >= least && value <= greatest || refuse(BAD_NUMBER);
        }

        boolean takeNumber(int least, int greatest) {
            if (!atNumber(least, greatest)) {
                return false;
            }
            taken = value;
            next();
            return true;
        }

        boolean takeSign(char sign) {
            if (!isSign(sign)) {
                return refuse(CANNOT_COME);
            }
            next();
            return true;
        }

        boolean atEnd() {
            return kind == END && !tooLong || refuse(CANNOT_COME);
        }

        boolean isShownRow() {
            if (length == 0 || length > MOST_FITTED) {
                return false;
            }
            for (int i = 0; i < length; i++) {
                if (tape[i] > 3) {
                    return false;
                }
            }
            return true;
        }

        int leastFit(Light light) {
            for (int from = 0; from < light.period; from++) {
                if (fitsFrom(light, from)) {
                    return from;
                }
            }
            return NONE;
        }

        private boolean fitsFrom(Light light, int from) {
            for (int i = 0; i < length; i++) {
                if (light.shownAt(from + i) != tape[i]) {
                    return false;
                }
            }
            return true;
        }

        /** A run of letters and digits is read whole, even over the most bytes of its text. */
        private void readRun() {
            int letters = 0;
            int digits = 0;
            for (behind = place; behind < length; behind++) {
                int b = tape[behind];
                if (b >= 'a' && b <= 'z') {
                    letters++;
                    code = (code << LETTER_BITS) + (b - 'a' + 1);
                } else if (b >= '0' && b <= '9') {
                    digits++;
                    value = value * 10 + (b - '0');
                } else {
                    break;
                }
            }
            if (digits == 0 && letters <= LONGEST_WORD) {
                kind = WORD;
            } else {
                kind = letters == 0 && digits <= LONGEST_NUMBER ? NUMBER : BROKEN;
                code = 0;
            }
        }

        private void readSign() {
            value = tape[place];
            behind = place + 1;
            boolean known = value == ';' || value == '<' || value == '=' || value == '>'
                || value == '(' || value == ')';
            kind = known ? SIGN : BROKEN;
        }
    }

    /** A LIGHT as the CHART tells it. */
    private static final class Light {
        long name;
        int x;
        int y;
        int range;
        int colour;
        int oil;
        int shift;
        boolean shiftTold;
        int dark;
        int flashes;
        int period;
        final boolean[] row = new boolean[LONGEST_ROW];
        int alike;
        /** ALIKE ones that are in one sight with it. */
        int confusing;

        void begin(long newName) {
            name = newName;
            shift = 0;
            shiftTold = false;
            dark = 0;
            flashes = 0;
            period = 1;
            row[0] = true;
        }

        void copyFrom(Light other) {
            name = other.name;
            x = other.x;
            y = other.y;
            range = other.range;
            colour = other.colour;
            oil = other.oil;
            shift = other.shift;
            shiftTold = other.shiftTold;
            dark = other.dark;
            flashes = other.flashes;
            period = other.period;
            System.arraycopy(other.row, 0, row, 0, LONGEST_ROW);
            alike = other.alike;
            confusing = other.confusing;
        }

        void addFlash(int on, int off) {
            if (flashes == 0) {
                period = 0;
            }
            flashes++;
            addSeconds(on, true);
            addSeconds(off, false);
        }

        private void addSeconds(int n, boolean shown) {
            for (int i = 0; i < n && period < LONGEST_ROW; i++) {
                row[period] = shown;
                period++;
            }
        }

        int placeBehind(int place) {
            return place + 1 < period ? place + 1 : 0;
        }

        int shownAt(int place) {
            return row[remainder(place, period)] ? colour : 0;
        }

        int secondsOn() {
            int on = 0;
            for (int k = 0; k < period; k++) {
                if (row[k]) {
                    on++;
                }
            }
            return on;
        }

        /** For how many SECONDS (to 400) it shows from place on what the other one shows. */
        int sameFor(int place, Light other, int otherPlace) {
            int p = place;
            int q = otherPlace;
            for (int n = 0; n < MOST_APART; n++) {
                if (shownAt(p) != other.shownAt(q)) {
                    return n;
                }
                p = placeBehind(p);
                q = other.placeBehind(q);
            }
            return MOST_APART;
        }

        boolean isAlike(Light other) {
            if (colour != other.colour || period != other.period) {
                return false;
            }
            for (int from = 0; from < period; from++) {
                if (hasRowFrom(other, from)) {
                    return true;
                }
            }
            return false;
        }

        private boolean hasRowFrom(Light other, int from) {
            int q = from;
            for (int p = 0; p < period; p++) {
                if (row[p] != other.row[q]) {
                    return false;
                }
                q = other.placeBehind(q);
            }
            return true;
        }

        boolean isVisible(int cellX, int cellY, int haze) {
            int dx = cellX - x;
            int dy = cellY - y;
            int reach = Math.min(range, haze);
            if (dx * dx + dy * dy > reach * reach) {
                return false;
            }
            int octant = octantOf(dx, dy);
            return octant == NONE || (dark >> octant & 1) == 0;
        }

        boolean isInOneSight(Light other) {
            for (int cell = 0; cell < CELLS; cell++) {
                int cellX = cell % SIDE;
                int cellY = cell / SIDE;
                if (isVisible(cellX, cellY, CLEAR) && other.isVisible(cellX, cellY, CLEAR)) {
                    return true;
                }
            }
            return false;
        }
    }

    /** A SHIP as the CHART tells it. */
    private static final class Ship {
        long name;
        int x;
        int y;
        int course;
        int every;

        void copyFrom(Ship other) {
            name = other.name;
            x = other.x;
            y = other.y;
            course = other.course;
            every = other.every;
        }
    }

    /** A CHART: what its text tells, and what follows from that alone. */
    private static final class Chart {
        final Light[] lights = new Light[MOST_LIGHTS];
        final Ship[] ships = new Ship[MOST_SHIPS];
        int lightCount;
        int shipCount;
        int hazeTold = CLEAR;
        int lines;
        private boolean hazeCame;

        Chart() {
            for (int l = 0; l < MOST_LIGHTS; l++) {
                lights[l] = new Light();
            }
            for (int s = 0; s < MOST_SHIPS; s++) {
                ships[s] = new Ship();
            }
        }

        void copyFrom(Chart other) {
            for (int l = 0; l < other.lightCount; l++) {
                lights[l].copyFrom(other.lights[l]);
            }
            for (int s = 0; s < other.shipCount; s++) {
                ships[s].copyFrom(other.ships[s]);
            }
            lightCount = other.lightCount;
            shipCount = other.shipCount;
            hazeTold = other.hazeTold;
            lines = other.lines;
        }

        int allLights() {
            return (1 << lightCount) - 1;
        }

        int fixedLights() {
            int set = 0;
            for (int l = 0; l < lightCount; l++) {
                if (lights[l].flashes == 0) {
                    set |= 1 << l;
                }
            }
            return set;
        }

        void compareLights() {
            for (int l = 0; l < lightCount; l++) {
                lights[l].alike = 0;
                lights[l].confusing = 0;
                for (int m = 0; m < l; m++) {
                    comparePair(l, m);
                }
            }
        }

        private void comparePair(int l, int m) {
            if (lights[l].isAlike(lights[m])) {
                lights[l].alike |= 1 << m;
                lights[m].alike |= 1 << l;
                if (lights[l].isInOneSight(lights[m])) {
                    lights[l].confusing |= 1 << m;
                    lights[m].confusing |= 1 << l;
                }
            }
        }

        int pairsConfused() {
            int ends = 0;
            for (int l = 0; l < lightCount; l++) {
                ends += Integer.bitCount(lights[l].confusing);
            }
            return ends / 2;
        }

        int fewestChanged() {
            int best = allLights();
            for (int set = 0; set < allLights(); set++) {
                if (Integer.bitCount(set) < Integer.bitCount(best) && endsAllConfusion(set)) {
                    best = set;
                }
            }
            return best;
        }

        private boolean endsAllConfusion(int set) {
            for (int l = 0; l < lightCount; l++) {
                if ((set >> l & 1) == 0 && (lights[l].confusing & ~set) != 0) {
                    return false;
                }
            }
            return true;
        }

        boolean read(Tokens t) {
            lightCount = 0;
            shipCount = 0;
            hazeTold = CLEAR;
            hazeCame = false;
            t.open(MOST_CHART);
            for (lines = 0; lines < MOST_CHART && t.kind != Tokens.END; lines++) {
                if (!readLine(t) || !t.takeSign(';')) {
                    return false;
                }
            }
            return t.atEnd();
        }

        private boolean readLine(Tokens t) {
            if (t.is(Word.LIGHT)) {
                return readLight(t);
            } else if (t.is(Word.FLASH)) {
                return readFlash(t);
            } else if (t.is(Word.FROM)) {
                return readFrom(t);
            } else if (t.is(Word.DARK)) {
                return readDark(t);
            } else if (t.is(Word.SHIP)) {
                return readShip(t);
            } else if (t.is(Word.HAZE)) {
                return readHaze(t);
            }
            return t.refuse(CANNOT_COME);
        }

        private boolean readLight(Tokens t) {
            if (lightCount >= MOST_LIGHTS) {
                return t.refuse(TOO_MANY);
            }
            t.next();
            if (!atNewName(t)) {
                return false;
            }
            Light light = lights[lightCount];
            light.begin(t.code);
            t.next();
            if (!t.takeNumber(0, SIDE - 1)) {
                return false;
            }
            light.x = t.taken;
            if (!t.takeNumber(0, SIDE - 1)) {
                return false;
            }
            light.y = t.taken;
            if (!t.takeNumber(1, CLEAR)) {
                return false;
            }
            light.range = t.taken;
            light.colour = colourAt(t);
            if (light.colour == 0) {
                return t.refuse(CANNOT_COME);
            }
            t.next();
            if (!t.takeNumber(0, MOST_OIL)) {
                return false;
            }
            light.oil = t.taken;
            lightCount++;
            return true;
        }

        private static int colourAt(Tokens t) {
            if (t.is(Word.WHITE)) {
                return 1;
            } else if (t.is(Word.RED)) {
                return 2;
            }
            return t.is(Word.GREEN) ? 3 : 0;
        }

        private boolean readFlash(Tokens t) {
            t.next();
            int l = lightAt(t);
            if (l == NONE) {
                return false;
            }
            if (lights[l].flashes >= MOST_FLASHES) {
                return t.refuse(TOO_MANY);
            }
            t.next();
            if (!t.takeNumber(1, LONGEST_FLASH)) {
                return false;
            }
            int on = t.taken;
            if (!t.takeNumber(1, LONGEST_FLASH)) {
                return false;
            }
            lights[l].addFlash(on, t.taken);
            return true;
        }

        private boolean readFrom(Tokens t) {
            t.next();
            int l = lightAt(t);
            if (l == NONE) {
                return false;
            }
            if (lights[l].shiftTold) {
                return t.refuse(BAD_NAME);
            }
            t.next();
            if (!t.takeNumber(0, MOST_SHIFT)) {
                return false;
            }
            lights[l].shift = t.taken;
            lights[l].shiftTold = true;
            return true;
        }

        private boolean readDark(Tokens t) {
            t.next();
            int l = lightAt(t);
            if (l == NONE) {
                return false;
            }
            t.next();
            if (!t.atNumber(0, OCTANTS - 1)) {
                return false;
            }
            if ((lights[l].dark >> t.value & 1) != 0) {
                return t.refuse(BAD_NAME);
            }
            lights[l].dark |= 1 << t.value;
            t.next();
            return true;
        }

        private boolean readShip(Tokens t) {
            if (shipCount >= MOST_SHIPS) {
                return t.refuse(TOO_MANY);
            }
            t.next();
            if (!atNewName(t)) {
                return false;
            }
            Ship ship = ships[shipCount];
            ship.name = t.code;
            t.next();
            if (!t.takeNumber(0, SIDE - 1)) {
                return false;
            }
            ship.x = t.taken;
            if (!t.takeNumber(0, SIDE - 1)) {
                return false;
            }
            ship.y = t.taken;
            if (!t.takeNumber(0, LYING)) {
                return false;
            }
            ship.course = t.taken;
            if (!t.takeNumber(1, MOST_EVERY)) {
                return false;
            }
            ship.every = t.taken;
            shipCount++;
            return true;
        }

        private boolean readHaze(Tokens t) {
            if (hazeCame) {
                return t.refuse(BAD_NAME);
            }
            t.next();
            if (!t.takeNumber(1, CLEAR)) {
                return false;
            }
            hazeTold = t.taken;
            hazeCame = true;
            return true;
        }

        private boolean atNewName(Tokens t) {
            if (!t.isName()) {
                return t.refuse(CANNOT_COME);
            }
            boolean told = lightNamed(t.code) != NONE || shipNamed(t.code) != NONE;
            return !told || t.refuse(BAD_NAME);
        }

        /** The LIGHT that is named here; NONE with a FAULT. */
        int lightAt(Tokens t) {
            if (!t.isName()) {
                t.refuse(CANNOT_COME);
                return NONE;
            }
            int l = lightNamed(t.code);
            if (l == NONE) {
                t.refuse(BAD_NAME);
            }
            return l;
        }

        /** The SHIP that is named here; NONE with a FAULT. */
        int shipAt(Tokens t) {
            if (!t.isName()) {
                t.refuse(CANNOT_COME);
                return NONE;
            }
            int s = shipNamed(t.code);
            if (s == NONE) {
                t.refuse(BAD_NAME);
            }
            return s;
        }

        private int lightNamed(long code) {
            for (int l = 0; l < lightCount; l++) {
                if (lights[l].name == code) {
                    return l;
                }
            }
            return NONE;
        }

        private int shipNamed(long code) {
            for (int s = 0; s < shipCount; s++) {
                if (ships[s].name == code) {
                    return s;
                }
            }
            return NONE;
        }
    }

    /** All that is so in a SECOND, over the CHART that is the object's own. */
    private static final class Scene {
        final Chart map;
        int second;
        int hazeNow;
        int out;
        final int[] oil = new int[MOST_LIGHTS];
        final int[] shiftNow = new int[MOST_LIGHTS];
        final int[] shipX = new int[MOST_SHIPS];
        final int[] shipY = new int[MOST_SHIPS];
        final int[] course = new int[MOST_SHIPS];

        Scene(Chart map) {
            this.map = map;
        }

        void begin() {
            second = 0;
            hazeNow = map.hazeTold;
            out = 0;
            for (int l = 0; l < map.lightCount; l++) {
                oil[l] = map.lights[l].oil;
                shiftNow[l] = map.lights[l].shift;
            }
            for (int s = 0; s < map.shipCount; s++) {
                shipX[s] = map.ships[s].x;
                shipY[s] = map.ships[s].y;
                course[s] = map.ships[s].course;
            }
        }

        void copyFrom(Scene other) {
            second = other.second;
            hazeNow = other.hazeNow;
            out = other.out;
            System.arraycopy(other.oil, 0, oil, 0, MOST_LIGHTS);
            System.arraycopy(other.shiftNow, 0, shiftNow, 0, MOST_LIGHTS);
            System.arraycopy(other.shipX, 0, shipX, 0, MOST_SHIPS);
            System.arraycopy(other.shipY, 0, shipY, 0, MOST_SHIPS);
            System.arraycopy(other.course, 0, course, 0, MOST_SHIPS);
        }

        boolean isOut(int l) {
            return (out >> l & 1) != 0;
        }

        int placeOf(int l) {
            return remainder(second + shiftNow[l], map.lights[l].period);
        }

        boolean shines(int l) {
            return !isOut(l) && oil[l] > 0 && map.lights[l].row[placeOf(l)];
        }

        int shiningOnes() {
            int set = 0;
            for (int l = 0; l < map.lightCount; l++) {
                if (shines(l)) {
                    set |= 1 << l;
                }
            }
            return set;
        }

        int emptyOnes() {
            int set = 0;
            for (int l = 0; l < map.lightCount; l++) {
                if (oil[l] == 0) {
                    set |= 1 << l;
                }
            }
            return set;
        }

        int oilOfAll() {
            int sum = 0;
            for (int l = 0; l < map.lightCount; l++) {
                sum += oil[l];
            }
            return sum;
        }

        int visibleFrom(int x, int y) {
            int set = 0;
            for (int l = 0; l < map.lightCount; l++) {
                if (map.lights[l].isVisible(x, y, hazeNow)) {
                    set |= 1 << l;
                }
            }
            return set;
        }

        int seenBy(int s) {
            return visibleFrom(shipX[s], shipY[s]) & shiningOnes();
        }

        int putOut(int l) {
            if (isOut(l)) {
                return 1;
            }
            out |= 1 << l;
            return 0;
        }

        int relight(int l) {
            if (!isOut(l)) {
                return 1;
            }
            if (oil[l] == 0) {
                return 2;
            }
            out &= ~(1 << l);
            return 0;
        }

        int pourInto(int l, int n) {
            if (oil[l] + n > MOST_OIL) {
                return 1;
            }
            oil[l] += n;
            return 0;
        }

        int moveOn(int l, int n) {
            if (map.lights[l].flashes == 0) {
                return 1;
            }
            shiftNow[l] = remainder(shiftNow[l] + n, map.lights[l].period);
            return 0;
        }

        int turn(int s, int newCourse) {
            if (course[s] == newCourse) {
                return 1;
            }
            course[s] = newCourse;
            return 0;
        }

        int setHaze(int n) {
            if (hazeNow == n) {
                return 1;
            }
            hazeNow = n;
            return 0;
        }

        /** How many of n SECONDS went by until all are over. */
        int pass(int n) {
            int went = 0;
            while (went < n && second < OVER) {
                passOne();
                went++;
            }
            return went;
        }

        /** Why n SECONDS can't go by: 1 fewer are left. */
        int passAll(int n) {
            if (OVER - second < n) {
                return 1;
            }
            for (int i = 0; i < n; i++) {
                passOne();
            }
            return 0;
        }

        void passOne() {
            for (int l = 0; l < map.lightCount; l++) {
                if (shines(l)) {
                    oil[l]--;
                }
            }
            for (int s = 0; s < map.shipCount; s++) {
                if (remainder(second + 1, map.ships[s].every) == 0) {
                    sail(s);
                }
            }
            second++;
        }

        private void sail(int s) {
            int x = shipX[s] + STEP_X[course[s]];
            int y = shipY[s] + STEP_Y[course[s]];
            if (isCell(x, y)) {
                shipX[s] = x;
                shipY[s] = y;
            } else {
                course[s] = LYING;
            }
        }

        /** Whole rounds of its row go at once: the last round alone is gone through. */
        int secondsToBurn(int l) {
            Light light = map.lights[l];
            int on = light.secondsOn();
            if (oil[l] == 0) {
                return 0;
            }
            if (isOut(l) || on == 0) {
                return NONE;
            }
            int rounds = (oil[l] - 1) / on;
            int left = oil[l] - rounds * on;
            int place = placeOf(l);
            int n = rounds * light.period;
            for (int i = 0; i < light.period && left > 0; i++) {
                if (light.row[place]) {
                    left--;
                }
                place = light.placeBehind(place);
                n++;
            }
            return n;
        }
    }

    /** Draws from a seed on. */
    private static final class Draws {
        private int x;

        void begin(int seed) {
            x = seed;
        }

        int liveSeconds(Scene scene, int n) {
            int went = 0;
            while (went < n && scene.second < OVER) {
                act(scene);
                scene.passOne();
                went++;
            }
            return went;
        }

        private int draw(int n) {
            x = x * 1103515245 + 12345;
            return remainder(x >>> 8, n);
        }

        private void act(Scene scene) {
            int lights = scene.map.lightCount;
            int ships = scene.map.shipCount;
            int what = draw(6);
            if (what == 0 && lights > 0) {
                douseOrKindle(scene, draw(lights));
            } else if (what == 1 && ships > 0) {
                int s = draw(ships);
                scene.turn(s, draw(LYING + 1));
            } else if (what == 2 && lights > 0) {
                int l = draw(lights);
                scene.pourInto(l, draw(20) + 1);
            } else if (what == 3) {
                scene.setHaze(draw(CLEAR) + 1);
            }
        }

        private static void douseOrKindle(Scene scene, int l) {
            if (scene.isOut(l)) {
                scene.relight(l);
            } else {
                scene.putOut(l);
            }
        }
    }

    /** The acts that can be undone: what was so ahead of each. */
    private static final class Past {
        /** One more than are kept: a mark must not cost the oldest if its act is not done. */
        private static final int PLACES = MOST_UNDONE + 1;

        private final Scene[] scenes = new Scene[PLACES];
        private int top;
        private int kept;

        Past(Chart map) {
            for (int i = 0; i < PLACES; i++) {
                scenes[i] = new Scene(map);
            }
        }

        void clear() {
            kept = 0;
        }

        void mark(Scene scene) {
            scenes[top].copyFrom(scene);
        }

        void keep() {
            top = (top + 1) % PLACES;
            kept = Math.min(kept + 1, MOST_UNDONE);
        }

        int takeBack(Scene scene) {
            if (kept == 0) {
                return NONE;
            }
            top = (top + PLACES - 1) % PLACES;
            scene.copyFrom(scenes[top]);
            kept--;
            return kept;
        }
    }

    /** A BOOK: its LINES, and how far they were lived. */
    private static final class Book {
        private static final int DOUSING = 0;
        private static final int KINDLING = 1;
        private static final int FILLING = 2;
        private static final int SHIFTING = 3;
        private static final int STEERING = 4;
        private static final int HAZING = 5;
        private static final int PASSING = 6;

        private final int[] what = new int[MOST_LINES];
        private final int[] whom = new int[MOST_LINES];
        private final int[] amount = new int[MOST_LINES];
        private int lines;
        int lived;
        int wrong;

        boolean read(Tokens t, Chart map) {
            t.open(MOST_BOOK);
            lines = 0;
            for (int i = 0; i <= MOST_LINES && t.kind != Tokens.END; i++) {
                if (!readLine(t, map) || !t.takeSign(';')) {
                    return false;
                }
                lines++;
            }
            return t.atEnd();
        }

        private boolean readLine(Tokens t, Chart map) {
            int kind = kindAt(t);
            if (kind == NONE) {
                return t.refuse(CANNOT_COME);
            }
            if (lines >= MOST_LINES) {
                return t.refuse(TOO_MANY);
            }
            t.next();
            what[lines] = kind;
            return readWhom(t, map, kind) && readAmount(t, kind);
        }

        private static int kindAt(Tokens t) {
            if (t.is(Word.DOUSE)) {
                return DOUSING;
            } else if (t.is(Word.KINDLE)) {
                return KINDLING;
            } else if (t.is(Word.FILL)) {
                return FILLING;
            } else if (t.is(Word.SHIFT)) {
                return SHIFTING;
            } else if (t.is(Word.STEER)) {
                return STEERING;
            } else if (t.is(Word.HAZE)) {
                return HAZING;
            }
            return t.is(Word.SECOND) ? PASSING : NONE;
        }

        private boolean readWhom(Tokens t, Chart map, int kind) {
            whom[lines] = NONE;
            if (kind == HAZING || kind == PASSING) {
                return true;
            }
            whom[lines] = kind == STEERING ? map.shipAt(t) : map.lightAt(t);
            if (whom[lines] == NONE) {
                return false;
            }
            t.next();
            return true;
        }

        private boolean readAmount(Tokens t, int kind) {
            boolean good = true;
            t.taken = 0;
            switch (kind) {
                case FILLING: good = t.takeNumber(1, MOST_OIL); break;
                case SHIFTING: good = t.takeNumber(1, MOST_SHIFT); break;
                case STEERING: good = t.takeNumber(0, LYING); break;
                case HAZING: good = t.takeNumber(1, CLEAR); break;
                case PASSING: good = t.takeNumber(1, MOST_SECONDS); break;
                default: break;
            }
            amount[lines] = t.taken;
            return good;
        }

        /** Goes on with the scene to the LINE that is WRONG, or to the end. */
        void live(Scene scene) {
            wrong = 0;
            for (lived = 0; lived < lines; lived++) {
                wrong = liveLine(scene, lived);
                if (wrong != 0) {
                    return;
                }
            }
        }

        private int liveLine(Scene scene, int line) {
            int who = whom[line];
            int n = amount[line];
            switch (what[line]) {
                case DOUSING: return whyWrong(DOUSING, scene.putOut(who));
                case KINDLING: return whyWrong(KINDLING, scene.relight(who));
                case FILLING: return whyWrong(FILLING, scene.pourInto(who, n));
                case SHIFTING: return whyWrong(SHIFTING, scene.moveOn(who, n));
                case STEERING: return whyWrong(STEERING, scene.turn(who, n));
                case HAZING: return whyWrong(HAZING, scene.setHaze(n));
                default: return whyWrong(PASSING, scene.passAll(n));
            }
        }

        private static int whyWrong(int kind, int why) {
            return why == 0 ? 0 : 10 * kind + why;
        }
    }

    /** A SENTENCE, kept as steps over a pile of sets of LIGHTS: each ONE ahead of what joins it. */
    private static final class Sentence {
        private static final int SAY_AND = 0;
        private static final int SAY_OR = 1;
        private static final int SAY_NOT = 2;
        private static final int SAY_OUT = 3;
        private static final int SAY_SHINING = 4;
        private static final int SAY_FIXED = 5;
        private static final int SAY_LIKE = 6;
        private static final int SAY_BY = 7;
        private static final int SAY_OIL = 8;
        private static final int SAY_PERIOD = 9;
        private static final int SAY_RANGE = 10;
        private static final int SAY_NUMBER = 11;
        private static final int MOST_STEPS = 2 * MOST_ONES;

        /** 0: there is no SENTENCE. */
        int ones;
        private int steps;
        private final int[] step = new int[MOST_STEPS];
        private final int[] sign = new int[MOST_STEPS];
        private final int[] number = new int[MOST_STEPS];
        private final int[] pile = new int[MOST_STEPS];

        void clear() {
            ones = 0;
            steps = 0;
        }

        void copyFrom(Sentence other) {
            ones = other.ones;
            steps = other.steps;
            System.arraycopy(other.step, 0, step, 0, MOST_STEPS);
            System.arraycopy(other.sign, 0, sign, 0, MOST_STEPS);
            System.arraycopy(other.number, 0, number, 0, MOST_STEPS);
        }

        boolean read(Tokens t, Chart map) {
            clear();
            t.open(MOST_SENTENCE);
            return readCondition(t, map, 1) && t.atEnd();
        }

        private boolean readCondition(Tokens t, Chart map, int depth) {
            if (!readAll(t, map, depth)) {
                return false;
            }
            for (int i = 0; i < MOST_ONES && t.is(Word.OR); i++) {
                t.next();
                if (!readAll(t, map, depth)) {
                    return false;
                }
                add(SAY_OR, 0, 0);
            }
            return true;
        }

        private boolean readAll(Tokens t, Chart map, int depth) {
            if (!readOne(t, map, depth)) {
                return false;
            }
            for (int i = 0; i < MOST_ONES && t.is(Word.AND); i++) {
                t.next();
                if (!readOne(t, map, depth)) {
                    return false;
                }
                add(SAY_AND, 0, 0);
            }
            return true;
        }

        private boolean readOne(Tokens t, Chart map, int depth) {
            int kind = kindAt(t);
            boolean bracket = t.isSign('(');
            if (kind == NONE && !bracket) {
                return t.refuse(CANNOT_COME);
            }
            if (ones >= MOST_ONES || depth > MOST_WITHIN) {
                return t.refuse(TOO_MANY);
            }
            ones++;
            t.next();
            if (bracket) {
                return readCondition(t, map, depth + 1) && t.takeSign(')');
            }
            if (kind == SAY_NOT) {
                return readOne(t, map, depth + 1) && add(SAY_NOT, 0, 0);
            }
            return readPlain(t, map, kind);
        }

        private static int kindAt(Tokens t) {
            if (t.is(Word.NOT)) {
                return SAY_NOT;
            } else if (t.is(Word.OUT)) {
                return SAY_OUT;
            } else if (t.is(Word.SHINING)) {
                return SAY_SHINING;
            } else if (t.is(Word.FIXED)) {
                return SAY_FIXED;
            } else if (t.is(Word.LIKE)) {
                return SAY_LIKE;
            } else if (t.is(Word.BY)) {
                return SAY_BY;
            } else if (t.is(Word.OIL)) {
                return SAY_OIL;
            } else if (t.is(Word.PERIOD)) {
                return SAY_PERIOD;
            } else if (t.is(Word.RANGE)) {
                return SAY_RANGE;
            }
            return t.is(Word.NUMBER) ? SAY_NUMBER : NONE;
        }

        private boolean readPlain(Tokens t, Chart map, int kind) {
            switch (kind) {
                case SAY_LIKE: return readNamed(t, kind, map.lightAt(t));
                case SAY_BY: return readNamed(t, kind, map.shipAt(t));
                case SAY_OUT:
                case SAY_SHINING:
                case SAY_FIXED: return add(kind, 0, 0);
                default: return readMeasure(t, kind);
            }
        }

        private boolean readNamed(Tokens t, int kind, int who) {
            if (who == NONE) {
                return false;
            }
            t.next();
            return add(kind, 0, who);
        }

        private boolean readMeasure(Tokens t, int kind) {
            if (!t.isSign('<') && !t.isSign('=') && !t.isSign('>')) {
                return t.refuse(CANNOT_COME);
            }
            int comparison = t.value;
            t.next();
            return t.takeNumber(0, 999) && add(kind, comparison, t.taken);
        }

        private boolean add(int kind, int comparison, int n) {
            if (steps < MOST_STEPS) {
                step[steps] = kind;
                sign[steps] = comparison;
                number[steps] = n;
                steps++;
            }
            return true;
        }

        /** The LIGHTS of which it may be said, as bits. */
        int saidOf(Scene scene) {
            int height = 0;
            for (int i = 0; i < steps; i++) {
                int kind = step[i];
                if (kind == SAY_NOT && height >= 1) {
                    pile[height - 1] = scene.map.allLights() & ~pile[height - 1];
                } else if (kind == SAY_AND && height >= 2) {
                    pile[height - 2] &= pile[height - 1];
                    height--;
                } else if (kind == SAY_OR && height >= 2) {
                    pile[height - 2] |= pile[height - 1];
                    height--;
                } else if (height < MOST_STEPS) {
                    pile[height] = plainSet(scene, i);
                    height++;
                }
            }
            return height > 0 ? pile[0] : 0;
        }

        private int plainSet(Scene scene, int i) {
            switch (step[i]) {
                case SAY_OUT: return scene.out;
                case SAY_SHINING: return scene.shiningOnes();
                case SAY_FIXED: return scene.map.fixedLights();
                case SAY_LIKE: return scene.map.lights[number[i]].alike | 1 << number[i];
                case SAY_BY: return scene.seenBy(number[i]);
                default: return measuredSet(scene, i);
            }
        }

        private int measuredSet(Scene scene, int i) {
            int set = 0;
            for (int l = 0; l < scene.map.lightCount; l++) {
                int measure = measureOf(scene, step[i], l);
                boolean holds = sign[i] == '<' ? measure < number[i]
                    : sign[i] == '>' ? measure > number[i] : measure == number[i];
                if (holds) {
                    set |= 1 << l;
                }
            }
            return set;
        }

        private static int measureOf(Scene scene, int kind, int l) {
            switch (kind) {
                case SAY_OIL: return scene.oil[l];
                case SAY_PERIOD: return scene.map.lights[l].period;
                case SAY_RANGE: return scene.map.lights[l].range;
                default: return l;
            }
        }
    }

    /** What image() keeps. */
    private static final class Image {
        final Chart map = new Chart();
        final Scene scene;
        final Sentence speech = new Sentence();
        boolean kept;

        Image(Chart own) {
            scene = new Scene(own);
        }
    }
}
