/** Promises 1 to 45, each by answers that were worked out by hand from the document. */
public final class PromisesTest {
    private static final int NONE = CoastLights.NONE;
    private static final int THREW = Checks.THREW;
    private static final Checks C = new Checks();

    private static final String COAST = Checks.COAST;

    public static void main(String[] args) {
        newObject();
        tape();
        charts();
        lights();
        shipsAndSight();
        nowAndActs();
        seconds();
        undo();
        confusion();
        telling();
        fits();
        cells();
        burnAndWaits();
        meansAndTags();
        draws();
        books();
        told();
        sentences();
        images();
        counts();
        C.close();
    }

    private static void newObject() {
        CoastLights x = new CoastLights();
        C.due("1 lights", x.count(0), 0);
        C.due("1 ships", x.count(1), 0);
        C.due("1 haze", x.count(2), 30);
        C.due("1 tape", x.count(3), 0);
        C.due("1 second", x.now(0), 0);
        C.due("1 haze now", x.now(4), 30);
        C.due("1 fault", x.fault(), 0);
        C.due("1 NONE", CoastLights.NONE, -1);
        CoastLights y = new CoastLights();
        y.feed(1, 2, 3, 4, 5);
        C.due("1 tapes are of one object each", x.count(3), 0);
    }

    private static void tape() {
        CoastLights x = new CoastLights();
        C.due("2 feed", x.feed(0, 0, 0, 0, 0), 20);
        C.due("2 feed", x.feed(0, 0, 0, 0, 0), 40);
        C.due("3 end", x.end(30), true);
        C.due("3 its first bytes alone", x.count(3), 30);
        C.due("2 feed", x.feed(0, 0, 0, 0, 0), 50);
        C.due("3 end", x.end(0), true);
        // 'light a 0 0 9 red 5;': the highest byte first, negative numbers too
        x.feed(0x6c696768, 0x74206120, 0x30203020, 0x39207265, 0x6420353b);
        C.due("2 highest first", x.chart(), 1);
        x.feed(0x80ffffff, 0, 0, 0, 0);
        C.due("2 high bytes", x.chart(), -1);
        C.due("2 high bytes are no TOKEN", x.fault(), 1);
    }

    private static CoastLights of(String text) {
        return Checks.of(text);
    }

    private static void charts() {
        CoastLights x = new CoastLights();
        C.due("4 empty", Checks.chart(x, ""), 0);
        C.due("4 blanks", Checks.chart(x, " \n "), 0);
        C.due("4 coast", Checks.chart(x, COAST), 13);
        C.due("4 tape empty", x.count(3), 0);
        C.due("4 tight", Checks.chart(x, "light a 0 0 1 red 0;\n\nfrom\na\n0;haze 1;"), 3);
        C.due("4 zeros ahead", Checks.chart(x, "light a 019 007 030 green 000;"), 1);
        C.due("4 zeros ahead", x.light(0, 0), 19);
        C.due("4 dense", Checks.chart(x, "haze 5;ship a 0 0 0 1;ship b 19 19 8 60;"), 3);
        C.due("5 no fault", x.fault(), 0);
        newChartForgets();
    }

    private static void newChartForgets() {
        CoastLights x = of(COAST);
        x.douse(0);
        x.seconds(3);
        x.haze(7);
        Checks.sentence(x, "out");
        x.change();
        Checks.fits(x, 1, 1);
        x.spots(4);
        Checks.fix(x, 0, 0);
        x.tag(0);
        Checks.book(x, "second 1;", 0);
        C.due("4 a FAULT leaves undo", Checks.chart(x, "haze"), -5);
        C.due("4 a FAULT leaves OUT", x.now(2), 1);
        C.due("4 a FAULT leaves the SENTENCE", x.said(-1), 1);
        Checks.chart(x, "light z 1 1 1 green 9;");
        C.due("4 SECOND 0", x.now(0), 0);
        C.due("4 none OUT", x.now(2), 0);
        C.due("4 HAZE", x.now(4), 30);
        C.due("4 OIL", x.now(5), 9);
        C.due("4 no SENTENCE", x.said(-1), NONE);
        C.due("4 nothing to undo", x.undo(), NONE);
        C.due("4 changes stays", x.changes(), 1);
        C.due("4 fitsAt stays", x.fitsAt(0), 0);
        C.due("4 fitsAt stays", x.fitsAt(1), 5);
        C.due("4 ask stays", x.ask(), 0);
        C.due("4 spotsAt stays", x.spotsAt(), 18 + 14 * 20);
        C.due("4 fixAt stays", x.fixAt(), 6 + 5 * 20);
        C.due("4 byteAt stays", x.byteAt(0), 's');
        C.due("4 told stays", x.told(1), 1);
    }

    private static void lights() {
        CoastLights x = of(COAST);
        int[][] due = {
            {5, 5, 6, 1, 100, 10, 0, 0, 1, 2, 17},
            {10, 5, 6, 1, 30, 10, 5, 0, 1, 1, 0},
            {18, 18, 4, 2, 0, 1, 0, 0, 0, 0, 0}};
        for (int l = 0; l < 3; l++) {
            for (int what = 0; what <= 10; what++) {
                C.due("6 light " + l + " " + what, Checks.light(x, l, what), due[l][what]);
            }
        }
        int[][] none = {{3, 0}, {-1, 0}, {0, 11}, {0, -1}, {8, 0}, {Integer.MAX_VALUE, 0}};
        for (int[] n : none) {
            C.due("6 none such", Checks.light(x, n[0], n[1]), THREW);
        }
        x.douse(0);
        x.seconds(7);
        C.due("6 place", x.light(0, 6), 7);
        C.due("6 place", x.light(1, 6), 2);
        C.due("6 OUT", x.light(0, 7), 1);
        C.due("6 OUT does not shine", x.light(0, 8), 0);
        C.due("6 place of a fixed one", x.light(2, 6), 0);
        String row = "1100010000";
        for (int k = 0; k < 10; k++) {
            C.due("7 character", x.character(0, k), row.charAt(k) - '0');
        }
        C.due("7 behind the row", x.character(0, 10), NONE);
        C.due("7 ahead of it", x.character(0, -1), NONE);
        C.due("7 a fixed one", x.character(2, 0), 1);
        C.due("7 a fixed one", x.character(2, 1), NONE);
        C.due("7 no LIGHT", x.character(3, 0), NONE);
        C.due("7 no LIGHT", x.character(-1, 0), NONE);
        CoastLights y = of("light a 0 0 1 red 0;" + Checks.repeat("flash a 20 20;", 4) + "from a 59;");
        C.due("6 the longest row", y.light(0, 5), 160);
        C.due("6 from", y.light(0, 6), 59);
        C.due("7 the longest row", y.character(0, 139), 1);
        C.due("7 the longest row", y.character(0, 140), 0);
        C.due("7 the longest row", y.character(0, 159), 0);
        CoastLights z = of("light a 0 0 1 red 0;from a 59;flash a 3 4;");
        C.due("6 from over the row", z.light(0, 6), 59 % 7);
        alike();
    }

    private static void alike() {
        CoastLights x = of("light a 0 0 1 red 0;light b 0 0 1 red 0;light c 0 0 1 red 0;light d 0 0 1 red 0;"
            + "light e 0 0 1 red 0;light f 0 0 1 white 0;light g 0 0 1 red 0;"
            + "flash a 1 2;flash a 3 4;flash b 3 4;flash b 1 2;flash c 1 4;flash c 3 2;"
            + "flash d 2 2;flash e 2 2;flash e 2 2;");
        C.due("6 turned about", x.light(0, 9), 2);
        C.due("6 turned about", x.light(1, 9), 1);
        C.due("6 other rows", x.light(2, 9), 0);
        C.due("6 unlike PERIODS", x.light(3, 9), 0);
        C.due("6 unlike PERIODS", x.light(4, 9), 0);
        C.due("6 unlike COLOURS", x.light(5, 9), 0);
        C.due("6 a fixed one", x.light(6, 9), 0);
        CoastLights y = of("light a 0 0 1 red 0;light b 9 9 1 red 7;light c 0 0 1 red 0;from c 3;");
        C.due("6 fixed ones are ALIKE", y.light(0, 9), 6);
        C.due("6 fixed ones are ALIKE", y.light(2, 9), 3);
    }

    private static void shipsAndSight() {
        CoastLights x = of(COAST);
        int[] s = {11, 5, 0, 2, 2, 2};
        int[] t = {0, 0, 8, 1, 0, 0};
        for (int what = 0; what < 6; what++) {
            C.due("8 ship " + what, x.ship(0, what), s[what]);
            C.due("8 ship " + what, x.ship(1, what), t[what]);
        }
        C.due("8 no what", x.ship(0, 6), NONE);
        C.due("8 no what", x.ship(0, -1), NONE);
        C.due("8 no SHIP", x.ship(2, 0), NONE);
        C.due("8 no SHIP", x.ship(-1, 0), NONE);
        x.douse(1);
        C.due("8 VISIBLE if OUT", x.ship(0, 4), 2);
        C.due("8 SEES none OUT", x.ship(0, 5), 0);
        octants();
        CoastLights y = of("light a 0 0 5 red 1;haze 9;");
        C.due("9 at the range", y.visible(3, 4), 1);
        C.due("9 at the range", y.visible(5, 0), 1);
        C.due("9 above it", y.visible(4, 4), 0);
        C.due("9 above it", y.visible(5, 1), 0);
        y.haze(4);
        C.due("9 haze", y.visible(3, 4), 0);
        C.due("9 haze", y.visible(0, 4), 1);
        C.due("9 no cell", y.visible(20, 0), NONE);
        C.due("9 no cell", y.visible(0, 20), NONE);
        C.due("9 no cell", y.visible(-1, 0), NONE);
        C.due("9 no cell", y.visible(0, -1), NONE);
        C.due("9 the last cell", y.visible(19, 19), 0);
    }

    /** Rays and cells between them, each with the OCTANT in which it lies. */
    private static void octants() {
        int[][] at = {
            {2, 0, 0}, {2, 1, 0}, {2, 2, 1}, {1, 2, 1}, {0, 2, 2}, {-1, 2, 2}, {-2, 2, 3}, {-2, 1, 3},
            {-2, 0, 4}, {-2, -1, 4}, {-2, -2, 5}, {-1, -2, 5}, {0, -2, 6}, {1, -2, 6}, {2, -2, 7}, {2, -1, 7}};
        for (int octant = 0; octant < 8; octant++) {
            CoastLights x = of("light a 9 9 5 red 1;dark a " + octant + ";");
            for (int[] c : at) {
                C.due("9 octant " + octant + " of " + c[0] + " " + c[1],
                    x.visible(9 + c[0], 9 + c[1]), c[2] == octant ? 0 : 1);
            }
            C.due("9 its own cell", x.visible(9, 9), 1);
            C.due("6 dark", x.light(0, 10), 1 << octant);
        }
    }

    private static void nowAndActs() {
        CoastLights x = of(COAST);
        C.due("10 SECOND", x.now(0), 0);
        C.due("10 SHINE", x.now(1), 3);
        C.due("10 OUT", x.now(2), 0);
        C.due("10 no OIL", x.now(3), 4);
        C.due("10 HAZE", x.now(4), 20);
        C.due("10 OIL of all", x.now(5), 130);
        C.due("10 none", x.now(6), NONE);
        C.due("10 none", x.now(-1), NONE);
        C.due("11 douse", x.douse(0), 0);
        C.due("11 again", x.douse(0), 1);
        C.due("11 without OIL", x.douse(2), 0);
        C.due("11 no LIGHT", x.douse(3), NONE);
        C.due("11 no LIGHT", x.douse(-1), NONE);
        C.due("10 OUT", x.now(2), 5);
        C.due("10 SHINE", x.now(1), 2);
        C.due("12 not OUT", x.kindle(1), 1);
        C.due("12 no OIL", x.kindle(2), 2);
        C.due("12 kindle", x.kindle(0), 0);
        C.due("12 again", x.kindle(0), 1);
        C.due("12 no LIGHT", x.kindle(3), NONE);
        C.due("12 no LIGHT", x.kindle(-1), NONE);
        C.due("10 OUT", x.now(2), 4);
        C.due("13 fill over", x.fill(0, 900), 1);
        C.due("13 all stays", x.light(0, 4), 100);
        C.due("13 fill", x.fill(0, 899), 0);
        C.due("13 to 999", x.light(0, 4), 999);
        C.due("13 over", x.fill(0, 1), 1);
        C.due("13 no n", x.fill(0, 0), NONE);
        C.due("13 no n", x.fill(1, 1000), NONE);
        C.due("13 no LIGHT", x.fill(3, 1), NONE);
        C.due("13 no LIGHT", x.fill(-1, 1), NONE);
        C.due("13 all", x.fill(2, 999), 0);
        C.due("12 kindle", x.kindle(2), 0);
        C.due("10 SHINE", x.now(1), 7);
        shiftSteerHaze(x);
    }

    private static void shiftSteerHaze(CoastLights x) {
        C.due("14 shift", x.shift(0, 59), 0);
        C.due("14 place", x.light(0, 6), 9);
        C.due("14 shift", x.shift(0, 1), 0);
        C.due("14 place", x.light(0, 6), 0);
        C.due("14 fixed", x.shift(2, 1), 1);
        C.due("14 no n", x.shift(0, 0), NONE);
        C.due("14 no n", x.shift(0, 60), NONE);
        C.due("14 no n", x.shift(2, 60), NONE);
        C.due("14 no LIGHT", x.shift(3, 1), NONE);
        C.due("14 no LIGHT", x.shift(-1, 1), NONE);
        CoastLights f = of("light a 0 0 1 red 0;from a 3;");
        C.due("14 fixed with from", f.shift(0, 1), 1);
        C.due("15 steer", x.steer(0, 4), 0);
        C.due("15 so it is", x.ship(0, 2), 4);
        C.due("15 again", x.steer(0, 4), 1);
        C.due("15 lie still", x.steer(0, 8), 0);
        C.due("15 lies still", x.steer(1, 8), 1);
        C.due("15 no COURSE", x.steer(0, 9), NONE);
        C.due("15 no COURSE", x.steer(0, -1), NONE);
        C.due("15 no SHIP", x.steer(2, 0), NONE);
        C.due("15 no SHIP", x.steer(-1, 0), NONE);
        C.due("16 haze", x.haze(1), 0);
        C.due("16 so it is", x.now(4), 1);
        C.due("16 again", x.haze(1), 1);
        C.due("16 no n", x.haze(0), NONE);
        C.due("16 no n", x.haze(31), NONE);
        C.due("16 as told", x.count(2), 20);
        C.due("16 clear", x.haze(30), 0);
    }

    private static void seconds() {
        CoastLights x = of("light a 0 0 9 red 3;flash a 1 2;light b 0 0 9 red 2;light c 0 0 9 red 2;"
            + "ship s 9 9 0 1;ship t 5 5 3 3;ship u 1 1 5 2;");
        x.douse(2);
        C.due("17 one", x.seconds(1), 1);
        C.due("17 OIL", x.light(0, 4), 2);
        C.due("17 OIL", x.light(1, 4), 1);
        C.due("17 OIL of one that is OUT", x.light(2, 4), 2);
        C.due("17 sails", x.ship(0, 0), 10);
        C.due("17 every 3", x.ship(1, 0), 5);
        x.seconds(2);
        C.due("17 OIL", x.light(0, 4), 2);
        C.due("17 OIL", x.light(1, 4), 0);
        C.due("17 not OUT", x.now(2), 4);
        C.due("17 every 3", x.ship(1, 0), 4);
        C.due("17 every 3", x.ship(1, 1), 6);
        C.due("17 every 2", x.ship(2, 0), 0);
        x.seconds(1);
        C.due("17 stays", x.ship(2, 0), 0);
        C.due("17 stays", x.ship(2, 1), 0);
        C.due("17 lies still", x.ship(2, 2), 8);
        C.due("17 SECOND", x.now(0), 4);
        C.due("17 no n", x.seconds(0), NONE);
        C.due("17 no n", x.seconds(61), NONE);
        C.due("17 no n", x.seconds(-1), NONE);
        courses();
        CoastLights y = of("light a 0 0 9 red 999;");
        for (int i = 0; i < 59; i++) {
            y.seconds(60);
        }
        C.due("17 the last ones", y.seconds(59), 59);
        C.due("17 one is left", y.seconds(60), 1);
        C.due("17 all are over", y.now(0), 3600);
        C.due("17 none goes", y.seconds(1), 0);
        C.due("17 drawn", y.drawn(5, 7), 0);
        C.due("17 acts go on", y.douse(0), 0);
        C.due("18 eight kept", y.undo(), 7);
        C.due("18 the last one", y.now(0), 3600);
        C.due("18 none for 0", y.undo(), 6);
        C.due("18 the SECOND ahead", y.now(0), 3599);
    }

    private static void courses() {
        int[][] steps = {{1, 0}, {1, 1}, {0, 1}, {-1, 1}, {-1, 0}, {-1, -1}, {0, -1}, {1, -1}, {0, 0}};
        for (int c = 0; c <= 8; c++) {
            CoastLights x = of("ship s 9 9 " + c + " 1;");
            x.seconds(1);
            C.due("17 course x " + c, x.ship(0, 0), 9 + steps[c][0]);
            C.due("17 course y " + c, x.ship(0, 1), 9 + steps[c][1]);
            x.seconds(60);
            C.due("17 ends still " + c, x.ship(0, 2), 8);
        }
    }

    private static void undo() {
        CoastLights x = of(COAST);
        C.due("18 none", x.undo(), NONE);
        x.douse(0);
        x.douse(0);
        x.kindle(0);
        x.fill(0, 1);
        x.shift(0, 3);
        x.steer(0, 7);
        x.haze(3);
        x.seconds(2);
        x.drawn(2, 5);
        Checks.book(x, "haze 29;", 1);
        Checks.book(x, "haze 29;", 1);
        Checks.book(x, "haze 28;", 0);
        C.due("18 the book", x.undo(), 7);
        C.due("18 drawn", x.undo(), 6);
        C.due("18 back", x.now(0), 2);
        C.due("18 back", x.now(4), 3);
        C.due("18 seconds", x.undo(), 5);
        C.due("18 back", x.now(0), 0);
        C.due("18 back", x.ship(0, 0), 11);
        C.due("18 haze", x.undo(), 4);
        C.due("18 back", x.now(4), 20);
        C.due("18 steer", x.undo(), 3);
        C.due("18 back", x.ship(0, 2), 0);
        C.due("18 shift", x.undo(), 2);
        C.due("18 back", x.light(0, 6), 0);
        C.due("18 fill", x.undo(), 1);
        C.due("18 back", x.light(0, 4), 100);
        C.due("18 kindle", x.undo(), 0);
        C.due("18 back", x.now(2), 1);
        C.due("18 no ninth", x.undo(), NONE);
        C.due("18 stays", x.now(2), 1);
        for (int i = 0; i < 8; i++) {
            x.haze(1 + i);
        }
        C.due("18 not done", x.haze(8), 1);
        C.due("18 an act that is not done costs none", x.undo(), 7);
        C.due("18 NONE costs none", x.haze(99), NONE);
        C.due("18 back", x.now(4), 7);
        x.haze(30);
        C.due("18 again", x.undo(), 7);
        for (int i = 6; i >= 0; i--) {
            C.due("18 down", x.undo(), i);
        }
        C.due("18 to the first", x.now(4), 20);
        C.due("18 no more", x.undo(), NONE);
    }

    private static void confusion() {
        CoastLights x = of(COAST);
        C.due("19 one pair", x.confused(), 1);
        C.due("21 ahead of any", x.changes(), NONE);
        C.due("20 one LIGHT", x.change(), 1);
        C.due("21 the least bits", x.changes(), 1);
        x.haze(1);
        C.due("19 haze no matter", x.confused(), 1);
        CoastLights far = of("light a 0 0 5 red 1;light b 11 0 5 red 1;");
        C.due("19 not in one sight", far.confused(), 0);
        C.due("20 none", far.change(), 0);
        C.due("21 none", far.changes(), 0);
        CoastLights touch = of("light a 0 0 5 red 0;light b 10 0 5 red 0;");
        C.due("19 just in one sight", touch.confused(), 1);
        CoastLights dark = of("light a 0 0 5 red 0;light b 10 0 5 red 0;dark b 4;");
        C.due("19 a dark OCTANT", dark.confused(), 0);
        CoastLights corner = of("light a 0 0 1 red 0;dark a 0;dark a 2;light b 1 0 1 red 0;");
        C.due("19 in one sight from the first cell alone", corner.confused(), 1);
        CoastLights last = of("light a 19 19 1 red 0;dark a 4;dark a 6;light b 18 19 1 red 0;");
        C.due("19 in one sight from the last cell alone", last.confused(), 1);
        // a path b - a - c, d - e: the cover a and d
        CoastLights path = of("light b 0 0 3 red 1;light a 5 0 3 red 1;light c 10 0 3 red 1;"
            + "light d 0 15 3 red 1;light e 4 15 3 red 1;light f 5 1 9 green 1;");
        C.due("19 pairs", path.confused(), 3);
        C.due("20 the fewest", path.change(), 2);
        C.due("21 which", path.changes(), 2 + 8);
        CoastLights all = of("light a 0 0 9 red 1;light b 1 0 9 red 1;light c 2 0 9 red 1;light d 3 0 9 red 1;");
        C.due("19 all", all.confused(), 6);
        C.due("20 all but one", all.change(), 3);
        C.due("21 the least", all.changes(), 7);
        Checks.chart(all, "");
        C.due("21 by the latest", all.changes(), 7);
        C.due("20 no LIGHTS", all.change(), 0);
        C.due("21 no LIGHTS", all.changes(), 0);
    }

    private static void telling() {
        CoastLights x = of("light a 0 0 9 red 1;light b 0 0 9 red 1;light c 0 0 9 white 1;light d 0 0 9 red 0;"
            + "light e 0 0 9 red 0;flash a 2 2;flash b 2 3;flash c 2 2;flash e 2 2;flash e 2 2;");
        // a 1100 1100, b 11000 over and over: 11001 is nowhere in b
        C.due("22 apart", x.apart(0, 1), 5);
        // b from now: 11000, three dark ones are nowhere in a
        C.due("22 the other way", x.apart(1, 0), 5);
        x.seconds(2);
        // b from now: 000, apart by the third
        C.due("22 from now on", x.apart(1, 0), 3);
        // a from now: 0011001, and b has 00110001
        C.due("22 from now on", x.apart(0, 1), 7);
        C.due("22 dark is dark, then another COLOUR", x.apart(0, 2), 3);
        C.due("22 a fixed one", x.apart(3, 0), 3);
        C.due("22 from a fixed one", x.apart(0, 3), 1);
        C.due("22 itself", x.apart(0, 0), NONE);
        C.due("22 unlike PERIODS, one SHOW", x.apart(0, 4), NONE);
        C.due("22 no LIGHT", x.apart(0, 5), NONE);
        C.due("22 no LIGHT", x.apart(-1, 0), NONE);
        C.due("22 no LIGHT", x.apart(5, 0), NONE);
        C.due("23 both, OUT and OIL no matter", x.both(0, 1), 3);
        C.due("23 itself", x.both(0, 0), 2);
        C.due("23 now", x.both(3, 3), 0);
        C.due("23 the other", x.both(1, 0), 3);
        x.shift(2, 2);
        C.due("23 never", x.both(0, 2), NONE);
        C.due("23 no LIGHT", x.both(0, 5), NONE);
        C.due("23 no LIGHT", x.both(-1, 0), NONE);
        C.due("23 no LIGHT", x.both(5, 5), NONE);
        bothFarOn();
    }

    private static void bothFarOn() {
        // rows of 40 and 39 with one SECOND on: together by the Chinese remainder alone
        CoastLights x = of("light a 0 0 9 red 1;light b 0 0 9 red 1;flash a 1 20;flash b 1 19;from b 1;");
        int due = 0;
        while (due % 21 != 0 || (due + 1) % 20 != 0) {
            due++;
        }
        C.due("23 far on", x.both(0, 1), due);
        CoastLights y = of("light a 0 0 9 red 1;light b 0 0 9 red 1;flash a 1 19;flash b 1 17;from b 1;");
        C.due("23 never by even rows", y.both(0, 1), NONE);
    }

    private static void fits() {
        CoastLights x = of(COAST);
        C.due("25 ahead of any", x.fitsAt(0), NONE);
        C.due("26 ahead of any", x.ask(), NONE);
        C.due("24 none", Checks.fits(x), NONE);
        C.due("24 no byte", Checks.fits(x, 1, 4), NONE);
        C.due("24 the tape is empty", x.count(3), 0);
        C.due("24 41 bytes", Checks.fits(x, new int[41]), NONE);
        C.due("24 no LIGHT", Checks.fits(x, 3), 0);
        C.due("25 still ahead", x.fitsAt(0), NONE);
        C.due("24 a dark one", Checks.fits(x, 0), 3);
        C.due("25 least place", x.fitsAt(0), 2);
        C.due("25 least place", x.fitsAt(1), 1);
        C.due("25 none of them", x.fitsAt(2), NONE);
        C.due("25 no LIGHT", x.fitsAt(3), NONE);
        C.due("25 no LIGHT", x.fitsAt(-1), NONE);
        C.due("25 no LIGHT", x.fitsAt(99), NONE);
        C.due("26 ask", x.ask(), 2);
        C.due("24 a row over the end", Checks.fits(x, 0, 0, 0, 0, 1, 1), 3);
        C.due("25 over the end", x.fitsAt(0), 6);
        C.due("25 over the end", x.fitsAt(1), 1);
        C.due("26 never told apart", x.ask(), 0);
        C.due("24 red", Checks.fits(x, 2, 2, 2), 4);
        C.due("26 one alone", x.ask(), 0);
        C.due("24 white, but too long", Checks.fits(x, 1, 1, 1), 0);
        C.due("24 NONE", Checks.fits(x, 7), NONE);
        C.due("25 stays", x.fitsAt(2), 0);
        C.due("25 stays", x.fitsAt(0), NONE);
        int[] forty = new int[40];
        for (int i = 0; i < 40; i++) {
            forty[i] = 2;
        }
        C.due("24 40 bytes", Checks.fits(x, forty), 4);
        CoastLights y = of("light a 0 0 1 red 0;light b 0 0 1 green 0;light c 0 0 1 white 0;light d 0 0 1 red 0;"
            + "flash a 1 20;flash a 1 20;flash b 1 20;flash c 1 20;flash d 1 20;flash d 2 20;");
        C.due("24 dark for 20", Checks.fits(y, new int[20]), 15);
        // behind 21 more a and d, both red, are told apart too
        C.due("26 when none is left but one", y.ask(), 21);
        C.due("24 dark for 3", Checks.fits(y, 0, 0, 0), 15);
        C.due("26 when the dark ends", y.ask(), 38);
        C.due("24 dark for 2", Checks.fits(y, 0, 0), 15);
        C.due("26 to 39", y.ask(), 39);
        C.due("24 dark for 1", Checks.fits(y, 0), 15);
        C.due("26 none behind 39: two are left", y.ask(), 19);
        Checks.fits(y, 0, 0, 0);
        Checks.chart(y, "");
        C.due("26 stays", y.ask(), 38);
        C.due("25 stays", y.fitsAt(3), 1);
    }

    private static void cells() {
        CoastLights x = of("light a 0 0 1 red 0;light b 2 0 1 red 0;");
        C.due("28 ahead of any", x.spotsAt(), NONE);
        C.due("27 a alone", x.spots(1), 2);
        C.due("28 first", x.spotsAt(), 0);
        C.due("27 b alone", x.spots(2), 3);
        C.due("28 first", x.spotsAt(), 2);
        C.due("27 both", x.spots(3), 1);
        C.due("28 first", x.spotsAt(), 1);
        C.due("27 none", x.spots(0), 400 - 6);
        C.due("28 first", x.spotsAt(), 4);
        C.due("27 no LIGHTS", x.spots(4), NONE);
        C.due("27 no LIGHTS", x.spots(-1), NONE);
        C.due("27 no LIGHTS", x.spots(Integer.MIN_VALUE), NONE);
        C.due("31 most", x.most(), 1);
        CoastLights y = of("light a 9 9 30 red 0;light b 2 0 30 red 0;");
        C.due("27 no cell", y.spots(1), 0);
        C.due("28 ahead of any above 0", y.spotsAt(), NONE);
        C.due("27 all cells", y.spots(3), 400);
        y.haze(1);
        C.due("27 haze", y.spots(3), 0);
        C.due("28 stays", y.spotsAt(), 0);
        C.due("27 haze", y.spots(1), 5);
        C.due("28 first", y.spotsAt(), 9 + 8 * 20);
        C.due("31 haze", y.most(), 1);
        C.due("31 no LIGHTS", new CoastLights().most(), NONE);
        CoastLights dark = of("light a 0 0 1 red 0;dark a 0;dark a 2;light b 0 19 1 red 0;");
        C.due("27 its own cell alone", dark.spots(1), 1);
        C.due("31 first of like ones", dark.most(), 0);
        fix();
    }

    private static void fix() {
        CoastLights x = of("light a 5 5 1 red 0;light b 10 5 1 red 0;");
        C.due("30 ahead of any", x.fixAt(), NONE);
        C.due("29 between", Checks.fix(x, 0, 0, 1, 4), 4);
        C.due("30 first", x.fixAt(), 6 + 5 * 20);
        C.due("29 never", Checks.fix(x, 0, 0, 0, 1), 0);
        C.due("30 stays", x.fixAt(), 106);
        C.due("29 one", Checks.fix(x, 0, 5), 15);
        C.due("30 first", x.fixAt(), 0);
        C.due("29 six", Checks.fix(x, 0, 5, 0, 5, 0, 5, 0, 5, 0, 5, 0, 5), 15);
        C.due("29 seven", Checks.fix(x, 0, 5, 0, 5, 0, 5, 0, 5, 0, 5, 0, 5, 0, 5), NONE);
        C.due("29 none", Checks.fix(x), NONE);
        C.due("29 odd", Checks.fix(x, 0), NONE);
        C.due("29 odd", Checks.fix(x, 0, 5, 0), NONE);
        C.due("29 no LIGHT", Checks.fix(x, 2, 0), NONE);
        C.due("29 no LIGHT", Checks.fix(x, 255, 0), NONE);
        C.due("29 no OCTANT", Checks.fix(x, 0, 8), NONE);
        C.due("29 no OCTANT", Checks.fix(x, 0, 255), NONE);
        C.due("29 the tape is empty", x.count(3), 0);
        C.due("30 stays", x.fixAt(), 0);
        CoastLights y = of("light a 19 19 1 red 0;");
        int sum = 0;
        for (int octant = 0; octant < 8; octant++) {
            sum += Checks.fix(y, 0, octant);
        }
        C.due("29 all but its own cell", sum, 399);
    }

    private static void burnAndWaits() {
        CoastLights x = of("light a 0 0 9 red 3;flash a 1 4;from a 1;light b 0 0 9 red 7;light c 0 0 9 red 0;"
            + "light d 0 0 9 red 999;flash d 1 20;from d 1;");
        C.due("32 burn", x.burn(0), 15);
        C.due("32 fixed", x.burn(1), 7);
        C.due("32 none", x.burn(2), 0);
        C.due("32 over 3600", x.burn(3), 999 * 21);
        C.due("32 no LIGHT", x.burn(4), NONE);
        C.due("32 no LIGHT", x.burn(-1), NONE);
        x.douse(0);
        x.douse(2);
        C.due("32 OUT", x.burn(0), NONE);
        C.due("32 OUT without OIL", x.burn(2), 0);
        x.seconds(14);
        x.kindle(0);
        C.due("32 from now on", x.burn(0), 11);
        C.due("32 all stays", x.now(0), 14);
        waits();
    }

    private static void waits() {
        CoastLights x = of("light a 10 0 1 red 999;ship s 0 0 0 60;ship t 0 5 0 1;ship u 10 0 8 1;");
        // at 9 0 it is a cell from a: nine times 60 SECONDS on
        C.due("33 waits", x.waits(0), 540);
        C.due("33 never", x.waits(1), NONE);
        C.due("33 now", x.waits(2), 0);
        C.due("33 no SHIP", x.waits(3), NONE);
        C.due("33 no SHIP", x.waits(-1), NONE);
        x.seconds(59);
        C.due("33 from now on", x.waits(0), 481);
        C.due("33 all stays", x.now(0), 59);
        C.due("33 all stays", x.ship(0, 0), 0);
        CoastLights edge = of("light a 11 0 1 red 999;ship s 0 0 0 60;");
        C.due("33 in 600", edge.waits(0), 600);
        CoastLights far = of("light a 12 0 1 red 999;ship s 0 0 0 60;");
        C.due("33 not in 600", far.waits(0), NONE);
        far.seconds(59);
        C.due("33 in 601", far.waits(0), NONE);
        far.seconds(1);
        C.due("33 in 600 again", far.waits(0), 600);
        CoastLights burnt = of("light a 11 0 1 red 500;ship s 0 0 0 60;");
        C.due("33 burnt by then", burnt.waits(0), NONE);
        CoastLights over = of("light a 9 0 1 red 999;flash a 1 20;flash a 1 20;ship s 0 0 8 60;");
        for (int i = 0; i < 60; i++) {
            over.seconds(60);
        }
        over.steer(0, 0);
        // moves at 3660, 3720 .. 4080 (the eighth), on at multiples of 21: 4095
        C.due("33 SECOND 3600 no matter", over.waits(0), 4095 - 3600);
    }

    private static void meansAndTags() {
        CoastLights x = of("light a 0 0 9 red 3;light b 0 0 9 red 7;light c 0 0 9 red 0;light d 19 19 1 red 4;"
            + "ship gullsee 19 10 8 1;ship t 9 0 8 1;");
        C.due("34 above", x.mean(0), 7);
        C.due("34 below", x.mean(1), 2);
        x.fill(2, 2);
        C.due("34 above", x.mean(0), 4);
        C.due("34 below", x.mean(1), 1);
        C.due("34 no what", Checks.mean(x, 2), THREW);
        C.due("34 no what", Checks.mean(x, -1), THREW);
        C.due("34 no LIGHTS", Checks.mean(new CoastLights(), 0), THREW);
        CoastLights zero = of("light a 0 0 9 red 0;light b 0 0 9 red 0;");
        C.due("34 nothing", zero.mean(0), 0);
        C.due("34 by one", zero.mean(1), 1);
        C.due("36 ahead of any", x.byteAt(0), NONE);
        C.due("35 tag", x.tag(0), 23);
        C.due("35 text", Checks.tag(x, 0).equals("gullsee at 19 10 sees 0"), true);
        C.due("35 text", Checks.tag(x, 1).equals("t at 9 0 sees 3"), true);
        C.due("35 bytes", x.tag(1), 15);
        C.due("35 no SHIP", x.tag(2), NONE);
        C.due("35 no SHIP", x.tag(-1), NONE);
        C.due("36 the latest stays", x.byteAt(0), 't');
        C.due("36 the last", x.byteAt(14), '3');
        C.due("36 behind", x.byteAt(15), NONE);
        C.due("36 ahead", x.byteAt(-1), NONE);
    }

    private static void draws() {
        String text = "light a 0 0 9 red 50;light b 0 0 9 red 0;ship s 9 9 8 60;ship t 9 9 8 60;";
        CoastLights x = of(text);
        int douse = Checks.seedFrom(0, 6, 0, 2, 1);
        C.due("37 one", x.drawn(1, douse), 1);
        C.due("37 doused", x.now(2), 2);
        C.due("37 SECOND", x.now(0), 1);
        x.drawn(1, douse);
        C.due("37 not kindled without OIL", x.now(2), 2);
        x.fill(1, 5);
        x.drawn(1, douse);
        C.due("37 kindled", x.now(2), 0);
        x.drawn(1, Checks.seedFrom(0, 6, 1, 2, 1, 9, 3));
        C.due("37 steered", x.ship(1, 2), 3);
        C.due("37 the other is not", x.ship(0, 2), 8);
        int before = x.light(1, 4);
        x.drawn(1, Checks.seedFrom(0, 6, 2, 2, 1, 20, 19));
        C.due("37 filled, then it burns", x.light(1, 4), before + 20 - 1);
        x.drawn(1, Checks.seedFrom(0, 6, 3, 30, 11));
        C.due("37 haze", x.now(4), 12);
        int oil = x.light(0, 4);
        x.drawn(1, Checks.seedFrom(0, 6, 4));
        x.drawn(1, Checks.seedFrom(0, 6, 5));
        C.due("37 nothing but the SECOND", x.light(0, 4), oil - 2);
        C.due("37 no n", x.drawn(0, 1), NONE);
        C.due("37 no n", x.drawn(61, 1), NONE);
        C.due("37 undone", x.undo() >= 0, true);
        C.due("37 sixty", x.drawn(60, -77), 60);
        odds();
    }

    private static void odds() {
        String text = "light a 0 0 9 red 20;flash a 2 1;light b 9 9 4 green 30;flash b 1 2;ship s 5 5 1 3;haze 12;";
        CoastLights x = of(text);
        x.seconds(1);
        x.image(0);
        int seed = 0x7ffffff0;
        int due = 0;
        for (int i = 0; i < 30; i++) {
            x.drawn(30, seed + i);
            due += x.ship(0, 5) != 0 ? 1 : 0;
            x.restore(0);
        }
        C.due("38 some do", due > 0 && due < 30, true);
        C.due("38 odds", x.odds(0, 30, seed), due);
        C.due("38 all stays", x.now(0), 1);
        C.due("38 nothing to undo", x.undo(), NONE);
        C.due("38 no SHIP", x.odds(1, 1, 1), NONE);
        C.due("38 no SHIP", x.odds(-1, 1, 1), NONE);
        C.due("38 no n", x.odds(0, 0, 1), NONE);
        C.due("38 no n", x.odds(0, 31, 1), NONE);
        CoastLights y = of("light a 5 5 9 red 999;ship s 5 5 8 60;");
        int one = y.odds(0, 1, 3);
        int two = y.odds(0, 1, 4);
        C.due("38 two seeds", y.odds(0, 2, 3), one + two);
    }

    private static void books() {
        CoastLights x = of(COAST);
        Checks.lay(x, "haze 5;");
        C.due("39 another lives", x.book(2), -1000);
        C.due("39 another lives", x.book(-1), -1000);
        C.due("39 the tape stays", x.count(3), 7);
        C.due("40 ahead of any", x.told(0), NONE);
        C.due("39 judged", x.book(0), NONE);
        C.due("39 all stays", x.now(4), 20);
        C.due("39 the tape is empty", x.count(3), 0);
        C.due("39 lived", Checks.book(x, "douse a;haze 5;second 3;fill b 9;shift b 2;steer s 2;kindle a;", 1), NONE);
        C.due("39 lived", x.now(4), 5);
        C.due("39 lived", x.now(0), 3);
        C.due("39 lived", x.light(0, 4), 100);
        C.due("39 lived", x.light(1, 4), 30 + 9 - 2);
        C.due("39 lived", x.light(1, 6), 0);
        C.due("39 lived", x.ship(0, 2), 2);
        C.due("39 lived", x.now(2), 0);
        C.due("39 undone at once", x.undo(), 0);
        C.due("39 undone", x.now(0), 0);
        C.due("39 WRONG", Checks.book(x, "haze 7;second 1;haze 7;haze 9;", 1), 2);
        C.due("39 as far", x.now(4), 7);
        C.due("39 as far", x.now(0), 1);
        C.due("39 WRONG at once", Checks.book(x, "haze 7;haze 9;", 1), 0);
        C.due("39 one to undo", x.undo(), 0);
        C.due("39 empty", Checks.book(x, "", 1), NONE);
        C.due("39 nothing to undo", x.undo(), NONE);
        C.due("39 forty", Checks.book(of(COAST), Checks.repeat("haze 1;haze 2;", 20) + Checks.repeat(" ", 120), 0), NONE);
    }

    private static void wrongBook(String text, int line, int why) {
        CoastLights x = of(COAST);
        C.due("39 " + text, Checks.book(x, text, 0), line);
        C.due("40 why " + text, x.told(0), why);
        C.due("40 LINES " + text, x.told(1), line);
        C.due("5 no FAULT " + text, x.fault(), 0);
    }

    private static void told() {
        wrongBook("douse a;douse a;", 1, 1);
        wrongBook("kindle a;", 0, 11);
        wrongBook("douse c;kindle c;", 1, 12);
        wrongBook("fill a 900;", 0, 21);
        wrongBook("fill a 899;fill a 1;", 1, 21);
        wrongBook("shift c 1;", 0, 31);
        wrongBook("steer s 0;", 0, 41);
        wrongBook("steer s 1;steer t 8;", 1, 41);
        wrongBook("haze 20;", 0, 51);
        CoastLights x = of("light a 0 0 9 red 100;light b 0 0 9 red 7;");
        Checks.book(x, "second 10;haze 4;", 0);
        C.due("40 not WRONG", x.told(0), 0);
        C.due("40 all LINES", x.told(1), 2);
        C.due("40 SECOND then", x.told(2), 10);
        C.due("40 OIL then", x.told(3), 90);
        C.due("40 another", x.told(4), NONE);
        C.due("40 another", x.told(-1), NONE);
        Checks.book(x, "second 1;douse a;second 2;douse a;second 9;", 0);
        C.due("40 SECOND then", x.told(2), 3);
        C.due("40 OIL then", x.told(3), 99 + 4);
        for (int i = 0; i < 59; i++) {
            x.seconds(60);
        }
        C.due("39 just enough", Checks.book(x, "second 59;second 1;", 0), NONE);
        C.due("39 too few", Checks.book(x, "second 59;second 2;", 1), 1);
        C.due("40 too few", x.told(0), 61);
        C.due("40 none of them goes", x.told(2), 3599);
        C.due("39 lived as far", x.now(0), 3599);
        C.due("39 another lives", x.book(5), -1000);
        C.due("40 stays", x.told(0), 61);
    }

    private static void saidOf(String text, int ones, int... lights) {
        CoastLights x = of(COAST);
        x.douse(1);
        C.due("41 " + text, Checks.sentence(x, text), ones);
        C.due("42 how many " + text, x.said(-1), lights.length);
        for (int k = 0; k < lights.length; k++) {
            C.due("42 which " + text, x.said(k), lights[k]);
        }
        C.due("42 no more " + text, x.said(lights.length), NONE);
    }

    private static void sentences() {
        saidOf("out", 1, 1);
        saidOf("not out", 2, 0, 2);
        saidOf("shining", 1, 0);
        saidOf("fixed", 1, 2);
        saidOf("like a", 1, 0, 1);
        saidOf("like c", 1, 2);
        saidOf("by s", 1);
        saidOf("by t", 1);
        saidOf("oil=30", 1, 1);
        saidOf("oil<30", 1, 2);
        saidOf("oil>30", 1, 0);
        saidOf("period = 10", 1, 0, 1);
        saidOf("range < 6", 1, 2);
        saidOf("range > 999", 1);
        saidOf("number > 0", 1, 1, 2);
        saidOf("number = 2", 1, 2);
        saidOf("number < 1 or number > 1", 2, 0, 2);
        saidOf("out or fixed and shining", 3, 1);
        saidOf("fixed and shining or out", 3, 1);
        saidOf("(out or fixed) and shining", 4);
        saidOf("not(out or fixed)", 4, 0);
        saidOf("not out or fixed", 3, 0, 2);
        saidOf("not not out", 3, 1);
        saidOf("out or\nout or out and out", 4, 1);
        saidOf("out and out and fixed or shining and like b", 5, 0);
        CoastLights x = of(COAST);
        C.due("42 no SENTENCE", x.said(-1), NONE);
        C.due("42 no SENTENCE", x.said(0), NONE);
        Checks.sentence(x, "by s");
        C.due("42 SEES", x.said(0), 1);
        C.due("42 none such", x.said(-2), NONE);
        C.due("42 none such", x.said(Integer.MAX_VALUE), NONE);
        x.seconds(2);
        C.due("42 as it is now", x.said(-1), 0);
        CoastLights none = new CoastLights();
        C.due("41 without LIGHTS", Checks.sentence(none, "not out"), 2);
        C.due("42 without LIGHTS", none.said(-1), 0);
    }

    private static void images() {
        CoastLights x = of(COAST);
        C.due("44 nothing kept", x.restore(0), false);
        Checks.sentence(x, "out");
        x.douse(0);
        x.seconds(2);
        x.haze(4);
        C.due("43 image", x.image(0), true);
        C.due("43 no place", x.image(2), false);
        C.due("43 no place", x.image(-1), false);
        C.due("44 nothing kept", x.restore(1), false);
        C.due("18 image leaves undo", x.undo(), 2);
        Checks.chart(x, "light z 0 0 9 red 7;ship a 4 4 4 4;");
        Checks.book(x, "douse z;", 0);
        x.seconds(1);
        x.image(1);
        Checks.lay(x, "haze 3;");
        C.due("44 restore", x.restore(0), true);
        C.due("44 the tape stays", x.count(3), 7);
        C.due("44 told stays", x.told(1), 1);
        C.due("44 nothing can be undone", x.undo(), NONE);
        C.due("44 LIGHTS", x.count(0), 3);
        C.due("44 HAZE as told", x.count(2), 20);
        C.due("44 HAZE", x.now(4), 4);
        C.due("44 OUT", x.now(2), 1);
        C.due("44 SECOND", x.now(0), 2);
        C.due("44 SHIP", x.ship(0, 0), 12);
        C.due("44 ALIKE", x.light(0, 9), 2);
        C.due("44 confused", x.confused(), 1);
        C.due("44 SENTENCE", x.said(0), 0);
        C.due("44 NAMES", Checks.book(x, "kindle a;", 1), NONE);
        C.due("44 restore", x.restore(1), true);
        C.due("44 LIGHTS", x.count(0), 1);
        C.due("44 OIL", x.now(5), 6);
        C.due("44 no SENTENCE", x.said(-1), NONE);
        C.due("44 again", x.restore(0), true);
        C.due("44 as kept", x.now(2), 1);
        C.due("44 no place", x.restore(2), false);
        C.due("44 no place", x.restore(-1), false);
        C.due("44 all stays", x.now(2), 1);
    }

    private static void counts() {
        CoastLights x = of(COAST);
        Checks.lay(x, "abc");
        x.haze(2);
        C.due("45 LIGHTS", x.count(0), 3);
        C.due("45 SHIPS", x.count(1), 2);
        C.due("45 HAZE as told", x.count(2), 20);
        C.due("45 tape", x.count(3), 3);
        C.due("45 another", x.count(4), NONE);
        C.due("45 another", x.count(-1), NONE);
    }
}
