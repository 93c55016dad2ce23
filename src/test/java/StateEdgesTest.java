/**
 * The edges that the document names for what is so and for what is done: "Terms", part 2, the lines ahead of
 * promise 1, and promises 1, 6 to 18, 37 and 43 to 45. Its words stand ahead of what holds them.
 */
public final class StateEdgesTest {
    private static final int NONE = CoastLights.NONE;
    private static final int THREW = Checks.THREW;
    private static final int[] NO_LIGHT = {-1, 8, -2, Integer.MIN_VALUE, Integer.MAX_VALUE};
    private static final Checks C = new Checks();
    private static final String A = "light a 0 0 1 red 5;";

    public static void main(String[] args) {
        newObject();
        characters();
        shining();
        octants();
        visible();
        noSuchOnes();
        whyNot();
        fillAndShift();
        steerAndHaze();
        aSecond();
        everyAndCourse();
        lastSeconds();
        undone();
        undoneInTurn();
        notKept();
        lived();
        newChart();
        thrown();
        drawn();
        drawnIfItCanBe();
        drawnOfNone();
        images();
        counts();
        calls();
        C.close();
    }

    private static CoastLights of(String text) {
        return Checks.of(text);
    }

    private static void newObject() {
        C.says("A CHART without LIGHTS; an empty tape");
        CoastLights x = new CoastLights();
        String empty = "0 0 30 0 0 0 0 30 0 | | | | | | | | "
            + "| -1 -1 -1 -1 -1 -1 | -1 -1 -1 -1 -1 -1 | -1 -1 -1 -1 -1 -1 | -1 -1 -1 -1 -1 -1 | -1 -1 0";
        C.due("all", Checks.scene(x), empty);
        C.due("what was told last", Checks.last(x), "0 -1 -1 -1 -1 | -1 -1 -1 -1 -1 -1 -1 -1 | -1 -1 -1 -1 |");
        C.due("tape", x.count(3), 0);
        C.due("nothing is undone", x.undo(), NONE);
        C.due("no image", x.restore(0) || x.restore(1), false);
        C.due("as with an empty CHART", x.chart(), 0);
        C.due("all", Checks.scene(x), empty);
        C.due("SECONDS go", x.seconds(60), 60);
        C.due("haze thickens", x.haze(1), 0);
    }

    // ---- Terms, part 2

    private static void characters() {
        C.says("without any it is one SECOND on");
        CoastLights x = of(A + "from a 59;");
        C.due("PERIOD", x.light(0, 5), 1);
        C.due("place", x.light(0, 6), 0);
        C.due("on", x.character(0, 0), 1);
        C.due("no more", x.character(0, 1), NONE);
        Checks.chart(x, A + "flash a 1 1;");
        Checks.chart(x, A);
        C.due("on, after a CHART with a row", x.character(0, 0), 1);
        C.due("no more", x.character(0, 1), NONE);
        C.says("ON seconds on, then OFF seconds off, 'flash' by 'flash' as told");
        x = of(A + "flash a 20 20;".repeat(4));
        for (int k = 0; k < 160; k++) {
            C.due("place " + k, x.character(0, k), k / 20 % 2 == 0 ? 1 : 0);
        }
        C.due("behind the row", x.character(0, 160), NONE);
        x = of(A + "flash a 1 1;");
        C.due("the shortest row", x.character(0, 0) * 10 + x.character(0, 1), 10);
        C.due("behind the row", x.character(0, 2), NONE);
        C.says("at place s and SHIFT of its row (modulo its PERIOD, from 0 on)");
        x = of(A + "flash a 2 3;from a 4;light b 0 0 1 red 5;flash b 1 1;from b 59;");
        C.due("the last place", x.light(0, 6), 4);
        C.due("59 of 2", x.light(1, 6), 1);
        x.seconds(1);
        C.due("over the end", x.light(0, 6), 0);
        C.due("over the end", x.light(1, 6), 0);
        x.seconds(5);
        C.due("once around", x.light(0, 6), 0);
        x = of(A + "flash a 20 20;".repeat(4) + "from a 59;");
        x.shift(0, 59);
        x.shift(0, 41);
        C.due("59, 59 and 41 of 160", x.light(0, 6), 159);
        x.shift(0, 1);
        C.due("160 of 160", x.light(0, 6), 0);
        Checks.goTo(x, 3600);
        C.due("3600 of 160", x.light(0, 6), 80);
    }

    private static void shining() {
        C.says("It SHINES, if it is not OUT, has OIL, and is on at its place");
        CoastLights x = of("light a 0 0 1 red 1;light b 0 0 1 red 1;light c 0 0 1 red 0;light d 0 0 1 red 1;"
            + "flash d 1 1;from d 1;");
        x.douse(1);
        C.due("just one of four", x.now(1), 1);
        int[] due = {1, 0, 0, 0};
        for (int l = 0; l < 4; l++) {
            C.due("LIGHT " + l, x.light(l, 8), due[l]);
        }
        x.kindle(1);
        x.fill(2, 1);
        x.shift(3, 1);
        C.due("now all do", x.now(1), 15);
        x.seconds(1);
        C.due("their OIL is burnt", x.now(1), 0);
        C.due("none is OUT", x.now(2), 0);
        C.due("all have no OIL", x.now(3), 15);
    }

    private static void octants() {
        C.says("none in its own cell");
        CoastLights x = of("light a 9 9 30 red 1;dark a 0;dark a 1;dark a 2;dark a 3;dark a 4;dark a 5;dark a 6;dark a 7;");
        C.due("its own cell", x.visible(9, 9), 1);
        C.due("that alone", x.spots(1), 1);
        C.due("it lies in no OCTANT", Checks.fix(x, 0, 0) + Checks.fix(x, 0, 4), octantCells(9, 9, 0) + octantCells(9, 9, 4));
        C.says("The OCTANT of a cell from a LIGHT on, by x and y");
        int[][] corners = {{0, 0}, {19, 0}, {0, 19}, {19, 19}, {9, 9}, {10, 0}, {0, 10}};
        for (int[] at : corners) {
            x = of("light a " + at[0] + " " + at[1] + " 1 red 0;");
            int sum = 0;
            for (int octant = 0; octant < 8; octant++) {
                int cells = Checks.fix(x, 0, octant);
                C.due("cells of " + octant + " from " + at[0] + " " + at[1], cells, octantCells(at[0], at[1], octant));
                sum += cells;
            }
            C.due("each cell but its own lies in one", sum, 399);
        }
        // from the first cell on: the x axis and below it, the rays of 45 and 90 degrees
        x = of("light a 0 0 30 red 0;dark a 0;");
        C.due("y is 0", x.visible(1, 0), 0);
        C.due("x above y", x.visible(19, 18), 0);
        C.due("y is x", x.visible(19, 19), 1);
        C.due("x is 0", x.visible(0, 1), 1);
    }

    /** How many cells lie in an OCTANT, row by row: OCTANTS 2, 4 and 6 are OCTANT 0 a quarter turned each. */
    private static int octantCells(int lightX, int lightY, int octant) {
        int cells = 0;
        for (int cell = 0; cell < 400; cell++) {
            int dx = cell % 20 - lightX;
            int dy = cell / 20 - lightY;
            for (int turn = 0; turn < octant / 2; turn++) {
                int turned = -dx;
                dx = dy;
                dy = turned;
            }
            boolean below = dy >= 0 && dx > dy;
            boolean above = dx > 0 && dy >= dx;
            cells += octant % 2 == 0 && below || octant % 2 == 1 && above ? 1 : 0;
        }
        return cells;
    }

    private static void visible() {
        C.says("if x * x + y * y is not above r * r");
        CoastLights x = of("light a 0 0 5 red 0;");
        C.due("just 25", x.visible(3, 4) + x.visible(4, 3) + x.visible(5, 0) + x.visible(0, 5), 4);
        C.due("26 and above", x.visible(1, 5) + x.visible(5, 1) + x.visible(4, 4) + x.visible(6, 0), 0);
        x = of("light a 0 0 1 red 0;");
        C.due("the least RANGE", x.visible(0, 0) + x.visible(1, 0) + x.visible(0, 1), 3);
        C.due("the least RANGE", x.visible(1, 1) + x.visible(2, 0), 0);
        x = of("light a 0 0 26 red 0;light b 19 0 27 red 0;light c 0 19 30 red 0;");
        C.due("722 is above 676", x.visible(19, 19), 2 + 4);
        C.due("722 is not above 729", x.visible(0, 19), 1 + 2 + 4);
        C.due("722 is not above 900", x.visible(19, 0), 1 + 2 + 4);
        C.says("(r: the lesser of its RANGE and the HAZE)");
        x = of("light a 0 0 5 red 0;haze 4;");
        C.due("HAZE is less", x.visible(4, 0) * 10 + x.visible(5, 0), 10);
        x.haze(5);
        C.due("they are alike", x.visible(5, 0) * 10 + x.visible(6, 0), 10);
        x.haze(6);
        C.due("RANGE is less", x.visible(5, 0) * 10 + x.visible(6, 0), 10);
        x.haze(1);
        C.due("the least HAZE", x.visible(1, 0) * 10 + x.visible(1, 1), 10);
        C.says("and the OCTANT is not dark");
        x = of("light a 9 9 5 red 0;dark a 3;");
        C.due("dark", x.visible(7, 11) + x.visible(7, 10), 0);
        C.due("the OCTANTS beside it", x.visible(8, 11) + x.visible(7, 9), 2);
        C.says("A SHIP SEES a LIGHT that is VISIBLE from its cell and SHINES");
        x = of("light a 0 0 5 red 5;light b 0 0 4 red 5;light c 0 0 5 red 0;light d 0 0 5 red 5;ship s 5 0 8 1;");
        x.douse(3);
        C.due("VISIBLE", x.ship(0, 4), 1 + 4 + 8);
        C.due("SEES", x.ship(0, 5), 1);
    }

    // ---- what there is not

    private static void noSuchOnes() {
        CoastLights x = of("light a 1 2 3 green 5;flash a 2 1;ship s 4 5 6 7;");
        C.says("NoSuchElementException: no such ones");
        for (int what : new int[] {-1, 11, Integer.MIN_VALUE, Integer.MAX_VALUE}) {
            C.due("light 0 " + what, Checks.light(x, 0, what), THREW);
        }
        C.due("dark OCTANTS are the last ones", Checks.light(x, 0, 10), 0);
        for (int l : NO_LIGHT) {
            C.due("light " + l, Checks.light(x, l, 0), THREW);
            C.due("character " + l, x.character(l, 0), NONE);
        }
        C.due("just behind the LIGHTS", Checks.light(x, 1, 0), THREW);
        C.says("Whether a LIGHT is on at place k of its row .. NONE: no such ones");
        C.due("the first", x.character(0, 0), 1);
        C.due("the last", x.character(0, 2), 0);
        for (int k : new int[] {-1, 3, 160, Integer.MIN_VALUE, Integer.MAX_VALUE}) {
            C.due("place " + k, x.character(0, k), NONE);
        }
        C.due("just behind the LIGHTS", x.character(1, 0), NONE);
        C.says("Of a SHIP .. NONE: no such ones");
        C.due("the last what", x.ship(0, 5), 0);
        for (int bad : new int[] {-1, 6, Integer.MIN_VALUE, Integer.MAX_VALUE}) {
            C.due("ship 0 " + bad, x.ship(0, bad), NONE);
        }
        for (int s : new int[] {-1, 1, 4, Integer.MIN_VALUE, Integer.MAX_VALUE}) {
            C.due("ship " + s, x.ship(s, 0), NONE);
        }
        C.says("LIGHTS that are VISIBLE from a cell, as bits; NONE: no such cell");
        C.due("corners", x.visible(0, 0) + x.visible(19, 0) * 2 + x.visible(0, 19) * 4 + x.visible(19, 19) * 8, 1);
        for (int bad : new int[] {-1, 20, Integer.MIN_VALUE, Integer.MAX_VALUE}) {
            C.due("no x " + bad, x.visible(bad, 0), NONE);
            C.due("no y " + bad, x.visible(0, bad), NONE);
            C.due("neither", x.visible(bad, bad), NONE);
        }
        C.says("NONE for another what");
        for (int what : new int[] {-1, 6, Integer.MIN_VALUE, Integer.MAX_VALUE}) {
            C.due("now " + what, x.now(what), NONE);
        }
        C.due("the last what", x.now(5), 5);
        C.says("LIGHTS that SHINE .. that are OUT .. that have no OIL, as bits each");
        CoastLights all = of(Checks.eight("0 0 1 red 999"));
        C.due("all eight SHINE", all.now(1), 255);
        C.due("none OUT, none without OIL", all.now(2) + all.now(3), 0);
        C.due("OIL of all", all.now(5), 8 * 999);
        all.douse(7);
        C.due("the last one alone", all.now(2), 128);
        all = of(Checks.eight("0 0 1 red 0"));
        C.due("no OIL", all.now(3), 255);
        C.due("no OIL", all.now(1) + all.now(5), 0);
    }

    // ---- acts

    /** An act that is not done: all stays, and nothing can be undone. */
    private static void notDone(CoastLights x, String what, int got, int due, String scene) {
        C.due(what, got, due);
        C.due(what + " leaves all", Checks.scene(x), scene);
    }

    private static void whyNot() {
        CoastLights x = of("light a 0 0 1 red 5;light b 0 0 1 red 0;light c 0 0 1 red 0;ship s 0 0 0 1;");
        x.douse(1);
        String scene = Checks.scene(x);
        C.says("To DOUSE a LIGHT: 1 it is OUT");
        notDone(x, "douse", x.douse(1), 1, scene);
        C.says("To DOUSE a LIGHT: 1 it is OUT: it is OUT");
        C.due("douse without OIL", x.douse(2), 0);
        C.due("OUT", x.now(2), 6);
        C.due("undone", x.undo(), 1);
        C.says("To KINDLE it: why not, the least: 1 it is not OUT; 2 it has no OIL");
        notDone(x, "not OUT", x.kindle(0), 1, scene);
        notDone(x, "not OUT, and no OIL", x.kindle(2), 1, scene);
        notDone(x, "no OIL", x.kindle(1), 2, scene);
        C.says("A LIGHT is DOUSED: 0, or why not; NONE: no such one .. It is KINDLED: 0, or why not; NONE: no such one");
        for (int l : NO_LIGHT) {
            notDone(x, "douse " + l, x.douse(l), NONE, scene);
            notDone(x, "kindle " + l, x.kindle(l), NONE, scene);
        }
        notDone(x, "just behind the LIGHTS", x.douse(3), NONE, scene);
        notDone(x, "just behind the LIGHTS", x.kindle(3), NONE, scene);
        C.says("the latest .. that was done");
        C.due("the first douse alone can be undone", x.undo(), 0);
        C.due("no more", x.undo(), NONE);
        C.says("it is not OUT any more");
        x.douse(1);
        x.fill(1, 1);
        C.due("with one OIL", x.kindle(1), 0);
        C.due("it SHINES", x.light(1, 8), 1);
        x.douse(1);
        x.seconds(60);
        C.due("OUT, its OIL lasts", x.kindle(1), 0);
    }

    private static void fillAndShift() {
        CoastLights x = of("light a 0 0 1 red 998;light b 0 0 1 red 0;flash b 3 4;light c 0 0 1 red 9;from c 3;");
        String scene = Checks.scene(x);
        C.says("To FILL it with n: 1 it would have more than 999");
        notDone(x, "1000", x.fill(0, 2), 1, scene);
        notDone(x, "1997", x.fill(0, 999), 1, scene);
        notDone(x, "1008", x.fill(2, 999), 1, scene);
        C.says("It is FILLED with n (1 to 999) .. NONE: no such ones");
        for (int n : new int[] {0, -1, 1000, Integer.MIN_VALUE, Integer.MAX_VALUE}) {
            notDone(x, "fill with " + n, x.fill(1, n), NONE, scene);
            notDone(x, "fill of a full one with " + n, x.fill(0, n), NONE, scene);
        }
        for (int l : NO_LIGHT) {
            notDone(x, "fill " + l, x.fill(l, 1), NONE, scene);
            notDone(x, "shift " + l, x.shift(l, 1), NONE, scene);
        }
        notDone(x, "just behind the LIGHTS", x.fill(3, 1), NONE, scene);
        notDone(x, "just behind the LIGHTS", x.shift(3, 1), NONE, scene);
        C.says("To SHIFT it by n: 1 it is fixed ('from' or not)");
        notDone(x, "without 'from'", x.shift(0, 1), 1, scene);
        notDone(x, "with 'from'", x.shift(2, 59), 1, scene);
        C.says("It is SHIFTED by n (1 to 59) .. NONE: no such ones");
        for (int n : new int[] {0, -1, 60, Integer.MIN_VALUE, Integer.MAX_VALUE}) {
            notDone(x, "shift by " + n, x.shift(1, n), NONE, scene);
            notDone(x, "shift of a fixed one by " + n, x.shift(0, n), NONE, scene);
        }
        C.due("nothing was done", x.undo(), NONE);
        C.says("it has n more");
        C.due("to just 999", x.fill(0, 1), 0);
        C.due("999", x.light(0, 4), 999);
        C.due("from 0 to 999", x.fill(1, 999), 0);
        C.due("999", x.light(1, 4), 999);
        C.due("one more", x.fill(1, 1), 1);
        C.says("its SHIFT is n more (modulo its PERIOD)");
        C.due("shift", x.shift(1, 59), 0);
        C.due("59 of 7", x.light(1, 6), 3);
        C.due("shift", x.shift(1, 4), 0);
        C.due("7 of 7", x.light(1, 6), 0);
        C.due("by a whole PERIOD it is done, too", x.shift(1, 7), 0);
        C.due("7 of 7", x.light(1, 6), 0);
        C.due("undone", x.undo() + x.undo(), 4 + 3);
        C.due("shift", x.light(1, 6), 3);
    }

    private static void steerAndHaze() {
        CoastLights x = of("ship s 0 0 8 1;ship t 0 0 0 1;haze 30;");
        String scene = Checks.scene(x);
        C.says("To STEER a SHIP: 1 that is its COURSE");
        notDone(x, "the greatest", x.steer(0, 8), 1, scene);
        notDone(x, "the least", x.steer(1, 0), 1, scene);
        C.says("A SHIP is STEERED (0 to 8) .. NONE: no such ones");
        for (int bad : new int[] {-1, 9, Integer.MIN_VALUE, Integer.MAX_VALUE}) {
            notDone(x, "course " + bad, x.steer(0, bad), NONE, scene);
            notDone(x, "SHIP " + bad, x.steer(bad, 0), NONE, scene);
        }
        notDone(x, "just behind the SHIPS", x.steer(2, 0), NONE, scene);
        C.says("HAZE of n: 1 it is so");
        notDone(x, "so it is", x.haze(30), 1, scene);
        C.says("HAZE of n (1 to 30) .. NONE: not as told");
        for (int n : new int[] {0, 31, -1, Integer.MIN_VALUE, Integer.MAX_VALUE}) {
            notDone(x, "haze " + n, x.haze(n), NONE, scene);
        }
        C.due("nothing was done", x.undo(), NONE);
        C.says("To STEER a SHIP: 1 that is its COURSE: it is. HAZE of n: 1 it is so: it is n");
        C.due("to the least COURSE", x.steer(0, 0), 0);
        C.due("to the greatest COURSE", x.steer(1, 8), 0);
        C.due("COURSES", x.ship(0, 2) * 10 + x.ship(1, 2), 8);
        C.due("to the least HAZE", x.haze(1), 0);
        C.due("again", x.haze(1), 1);
        C.due("to the greatest HAZE", x.haze(30), 0);
        C.due("HAZE", x.now(4), 30);
    }

    // ---- SECONDS

    private static void aSecond() {
        C.says("each LIGHT that SHINES has 1 OIL less");
        CoastLights x = of("light a 0 0 1 red 1;light b 0 0 1 red 0;light c 0 0 1 red 5;light d 0 0 1 red 5;"
            + "flash d 1 2;from d 1;");
        x.douse(2);
        x.seconds(1);
        C.due("from 1", x.light(0, 4), 0);
        C.due("from 0", x.light(1, 4), 0);
        C.due("OUT", x.light(2, 4), 5);
        C.due("dark", x.light(3, 4), 5);
        x.seconds(1);
        C.due("from 0", x.light(0, 4), 0);
        C.due("dark", x.light(3, 4), 5);
        x.seconds(1);
        C.due("on", x.light(3, 4), 4);
        CoastLights all = of(Checks.eight("0 0 1 red 3"));
        all.seconds(1);
        C.due("each of eight", all.now(5), 16);
        all.seconds(60);
        C.due("not below 0", all.now(5), 0);
        C.says("n (1 to 60) SECONDS go by: how many did; NONE: not as told");
        String scene = Checks.scene(x);
        for (int n : new int[] {0, -1, 61, Integer.MIN_VALUE, Integer.MAX_VALUE}) {
            notDone(x, "seconds " + n, x.seconds(n), NONE, scene);
        }
        C.due("one", x.seconds(1), 1);
        C.due("sixty", x.seconds(60), 60);
        C.due("SECOND", x.now(0), 64);
    }

    private static void everyAndCourse() {
        C.says("if the number of the next SECOND is divided by its EVERY");
        CoastLights x = of("ship s 0 0 0 1;ship t 0 1 0 60;ship u 0 2 0 7;ship v 0 3 0 2;");
        x.seconds(1);
        C.due("each SECOND alone", x.ship(0, 0) * 1000 + x.ship(1, 0) * 100 + x.ship(2, 0) * 10 + x.ship(3, 0), 1000);
        x.seconds(5);
        C.due("ahead of 7", x.ship(2, 0), 0);
        x.seconds(1);
        C.due("to 7", x.ship(2, 0), 1);
        C.due("2, 4, 6", x.ship(3, 0), 3);
        x.seconds(52);
        C.due("ahead of 60", x.ship(1, 0), 0);
        x.seconds(1);
        C.due("to 60", x.ship(1, 0), 1);
        x.seconds(59);
        C.due("to 119", x.ship(1, 0), 1);
        x.seconds(1);
        C.due("to 120", x.ship(1, 0), 2);
        C.says("if there is no such cell on the CHART, it stays, and its COURSE is 8");
        int[][] steps = {{1, 0}, {1, 1}, {0, 1}, {-1, 1}, {-1, 0}, {-1, -1}, {0, -1}, {1, -1}, {0, 0}};
        for (int at : new int[] {0, 19, 380, 399, 9, 180, 199, 389}) {
            for (int course = 0; course <= 8; course++) {
                int cellX = at % 20;
                int cellY = at / 20;
                int goesX = cellX + steps[course][0];
                int goesY = cellY + steps[course][1];
                boolean on = goesX >= 0 && goesX <= 19 && goesY >= 0 && goesY <= 19;
                x = of("ship s " + cellX + " " + cellY + " " + course + " 1;");
                x.seconds(1);
                String way = "from " + cellX + " " + cellY + " by " + course;
                C.due(way, x.ship(0, 0) + 20 * x.ship(0, 1), on ? goesX + 20 * goesY : at);
                C.due("COURSE " + way, x.ship(0, 2), on ? course : 8);
            }
        }
        C.says("8: it lies still");
        x = of("ship s 18 5 0 1;");
        x.seconds(60);
        C.due("it reached the last cell", x.ship(0, 0), 19);
        C.due("COURSE", x.ship(0, 2), 8);
        C.due("and is STEERED on", x.steer(0, 4), 0);
        x.seconds(1);
        C.due("away", x.ship(0, 0), 18);
        C.says("Then SHIP by SHIP");
        x = of("light a 3 0 1 red 1;ship s 1 0 0 1;ship t 1 0 0 1;");
        x.seconds(1);
        C.due("two in one cell", x.ship(0, 0) + x.ship(1, 0), 4);
        C.due("the OIL burnt ahead of that", x.ship(0, 5) + x.now(5), 0);
    }

    private static void lastSeconds() {
        C.says("A SECOND (0 to 3599; 3600: all are over) goes");
        CoastLights x = of("light a 0 0 9 red 999;ship s 0 0 0 60;");
        C.due("the first", x.now(0), 0);
        Checks.goTo(x, 3599);
        C.due("the last one", x.now(0), 3599);
        C.due("one of two", x.seconds(2), 1);
        C.due("all are over", x.now(0), 3600);
        C.due("none goes", x.seconds(1), 0);
        C.due("none of 60", x.seconds(60), 0);
        C.due("none is DRAWN", x.drawn(60, 3), 0);
        C.due("n out of 1 to 60 is NONE there, too", x.seconds(61) + x.drawn(0, 3), -2);
        C.due("3600", x.now(0), 3600);
        C.says("seconds() above 0, drawn() above 0");
        C.due("the one SECOND is undone", x.undo(), 7);
        C.due("back", x.now(0), 3599);
        C.due("one of two is DRAWN", x.drawn(2, 3), 1);
        C.due("all are over", x.now(0), 3600);
        C.due("undone", x.undo(), 7);
        C.due("back", x.now(0), 3599);
        C.due("acts are done at 3600", x.seconds(1) + x.douse(0) + x.steer(0, 4) + x.haze(3), 1);
    }

    // ---- undo

    private static void act(CoastLights x, int which) {
        switch (which) {
            case 0: C.due("douse", x.douse(0), 0); break;
            case 1: C.due("kindle", x.kindle(1), 0); break;
            case 2: C.due("fill", x.fill(0, 7), 0); break;
            case 3: C.due("shift", x.shift(0, 2), 0); break;
            case 4: C.due("steer", x.steer(0, 3), 0); break;
            case 5: C.due("haze", x.haze(7), 0); break;
            case 6: C.due("seconds", x.seconds(9), 9); break;
            case 7: C.due("drawn", x.drawn(9, 3), 9); break;
            case 8: C.due("book", Checks.book(x, "steer s 5;second 4;fill a 1;haze 3;douse a;", 1), NONE); break;
            default: C.due("book", Checks.book(x, "haze 8;haze 8;", 1), 1); break;
        }
    }

    private static CoastLights afloat() {
        CoastLights x = of("light a 3 3 9 red 50;flash a 1 2;flash a 2 1;from a 2;light b 5 5 9 red 40;"
            + "ship s 5 5 1 2;ship t 9 9 5 3;haze 20;");
        x.seconds(7);
        x.douse(1);
        x.image(0);
        x.restore(0);
        return x;
    }

    private static void undone() {
        C.says("The latest of douse(), kindle(), fill(), shift(), steer(), haze() .. is undone");
        for (int which = 0; which < 10; which++) {
            CoastLights x = afloat();
            String scene = Checks.scene(x);
            act(x, which);
            C.due("act " + which + " changes something", Checks.scene(x).equals(scene), false);
            C.due("undone " + which, x.undo(), 0);
            C.due("as ahead of act " + which, Checks.scene(x), scene);
            C.due("no more", x.undo(), NONE);
            C.due("all stays", Checks.scene(x), scene);
        }
    }

    private static void undoneInTurn() {
        C.says("how many more can be (8 at most are kept); NONE: none is");
        CoastLights x = afloat();
        int[] acts = {5, 1, 2, 3, 4, 6, 8, 9, 2, 7};
        String[] ahead = new String[acts.length];
        x.fill(1, 1);
        for (int i = 0; i < acts.length; i++) {
            ahead[i] = Checks.scene(x);
            act(x, acts[i]);
        }
        for (int i = acts.length - 1; i >= 2; i--) {
            C.due("more behind act " + acts[i], x.undo(), i - 2);
            C.due("as ahead of act " + acts[i], Checks.scene(x), ahead[i]);
        }
        C.due("no ninth", x.undo(), NONE);
        C.due("all stays", Checks.scene(x), ahead[2]);
    }

    private static void notKept() {
        C.says("a BOOK of which some LINE was lived");
        CoastLights x = afloat();
        String scene = Checks.scene(x);
        C.due("WRONG at once", Checks.book(x, "haze 20;haze 3;", 1), 0);
        C.due("empty", Checks.book(x, "", 1), NONE);
        C.due("judged", Checks.book(x, "haze 3;", 0), NONE);
        C.due("a FAULT", Checks.book(x, "haze 3;haze", 1), -2 - 11);
        C.due("another lives", Checks.book(x, "haze 3;", 3), -1000);
        C.due("all stays", Checks.scene(x), scene);
        C.due("nothing to undo", x.undo(), NONE);
        C.says("haze() that was done .. (8 at most are kept)");
        for (int i = 1; i <= 8; i++) {
            C.due("haze", x.haze(i), 0);
        }
        x.haze(8);
        x.haze(0);
        x.douse(1);
        x.kindle(0);
        x.fill(0, 999);
        x.shift(1, 1);
        x.steer(0, 1);
        x.seconds(61);
        x.drawn(61, 1);
        Checks.book(x, "haze 8;", 1);
        for (int left = 7; left >= 0; left--) {
            C.due("more", x.undo(), left);
            C.due("HAZE", x.now(4), left > 0 ? left : 20);
        }
        C.due("none is", x.undo(), NONE);
        C.says("is undone: how many more can be");
        x.haze(3);
        x.haze(4);
        x.undo();
        C.due("another act", x.haze(5), 0);
        C.due("back", x.undo(), 1);
        C.due("HAZE", x.now(4), 3);
        C.due("back", x.undo(), 0);
        C.due("HAZE", x.now(4), 20);
    }

    // ---- a BOOK

    private static void lived() {
        C.says("it is judged, all staying as it is (lives 0), or lived as far as it is not WRONG (1)");
        CoastLights x = afloat();
        String scene = Checks.scene(x);
        String forty = "second 1;haze 1;haze 2;" + "haze 1;haze 2;".repeat(18) + "douse b;";
        C.due("judged", Checks.book(x, forty, 0), 39);
        C.due("all stays", Checks.scene(x), scene);
        C.due("lived", Checks.book(x, forty, 1), 39);
        C.due("as far as that", x.now(4) * 100 + x.now(0), 208);
        C.due("undone at once", x.undo(), 0);
        C.due("all is back", Checks.scene(x), scene);
        C.due("lived, the first LINE WRONG", Checks.book(x, "douse b;haze 1;second 1;", 1), 0);
        C.due("nothing is lived, nor behind it", Checks.scene(x), scene);
        C.due("lived whole", Checks.book(x, "douse a;second 60;kindle a;kindle b;second 1;", 1), NONE);
        CoastLights y = afloat();
        C.due("as by calls", y.douse(0) + y.seconds(60) + y.kindle(0) + y.kindle(1) + y.seconds(1), 61);
        C.due("as by calls", Checks.scene(x), Checks.scene(y));
        C.says("the LINE that is WRONG (from 0); NONE: none");
        C.due("no LINES", Checks.book(x, "", 0), NONE);
        C.due("no LINES", Checks.book(new CoastLights(), "", 1), NONE);
        C.due("the first", Checks.book(x, "haze 20;", 0), 0);
        C.due("the second", Checks.book(x, "haze 19;haze 19;haze 19;", 0), 1);
        C.due("the last", Checks.book(x, "haze 19;haze 20;haze 20;", 0), 2);
        C.due("all of them right", Checks.book(x, "haze 19;haze 20;", 0), NONE);
    }

    // ---- a new CHART, a call that throws

    private static void newChart() {
        C.says("A new CHART: SECOND 0, no LIGHT OUT, no SENTENCE; nothing can be undone (what other calls told last stays)");
        CoastLights x = of(Checks.COAST);
        x.seconds(3);
        x.douse(0);
        x.shift(0, 3);
        x.fill(0, 3);
        x.steer(0, 3);
        x.haze(7);
        Checks.sentence(x, "out");
        x.change();
        Checks.fits(x, 1, 1);
        x.spots(4);
        Checks.fix(x, 0, 0);
        x.tag(0);
        Checks.book(x, "second 1;haze 7;", 0);
        String last = Checks.last(x);
        C.due("what was told", last, "0 1 0 298 106 | 0 5 -1 -1 -1 -1 -1 -1 | 51 1 4 129 |s at 12 5 sees 0");
        C.due("the same CHART anew", Checks.chart(x, Checks.COAST), 13);
        C.due("as on a new object", Checks.scene(x), Checks.scene(of(Checks.COAST)));
        C.due("nothing can be undone", x.undo(), NONE);
        C.due("what was told last", Checks.last(x), last);
        String smaller = "light z 1 1 1 green 9;ship y 2 2 2 2;";
        C.due("a smaller CHART", Checks.chart(x, smaller), 2);
        C.due("as on a new object", Checks.scene(x), Checks.scene(of(smaller)));
        C.due("what was told last", Checks.last(x), last);
        C.due("an empty CHART", Checks.chart(x, ""), 0);
        C.due("as on a new object", Checks.scene(x), Checks.scene(new CoastLights()));
        C.due("what was told last", Checks.last(x), last);
        String full = Checks.eight("5 5 9 red 3") + "ship p 5 5 1 1;ship q 5 5 1 1;ship r 5 5 1 1;ship s 5 5 1 1;";
        Checks.chart(x, full);
        x.seconds(1);
        Checks.chart(x, smaller);
        x.seconds(1);
        CoastLights y = of(smaller);
        y.seconds(1);
        C.due("nothing of a fuller one is left", Checks.scene(x), Checks.scene(y));
        C.due("nothing of a fuller one is left", x.confused() + x.change() + x.most() - y.most(), 0);
    }

    private static void thrown() {
        C.says("A call that throws changes nothing");
        CoastLights x = of(Checks.COAST);
        x.seconds(2);
        x.haze(3);
        Checks.lay(x, "haze 9;");
        String scene = Checks.scene(x);
        String last = Checks.last(x);
        C.due("light", Checks.light(x, 3, 0), THREW);
        C.due("light", Checks.light(x, 0, 11), THREW);
        C.due("mean", Checks.mean(x, 2), THREW);
        C.due("all", Checks.scene(x), scene);
        C.due("what was told last", Checks.last(x), last);
        C.due("the tape", x.count(3), 7);
        C.due("what can be undone", x.undo(), 1);
    }

    // ---- DRAWN

    private static void drawn() {
        C.says("n (1 to 60) SECONDS DRAWN by a seed: how many went by; NONE: not as told");
        CoastLights x = afloat();
        String scene = Checks.scene(x);
        for (int n : new int[] {0, -1, 61, Integer.MIN_VALUE, Integer.MAX_VALUE}) {
            notDone(x, "drawn " + n, x.drawn(n, 1), NONE, scene);
        }
        C.due("nothing was done", x.undo(), NONE);
        C.due("one", x.drawn(1, 1), 1);
        C.due("sixty", x.drawn(60, 1), 60);
        C.due("undone", x.undo(), 1);
        C.says("x becomes x * 1103515245 + 12345 (an int, wrapping), the draw is (x >>> 8) % n");
        for (int first : new int[] {0, -5, Integer.MIN_VALUE, Integer.MAX_VALUE, 0x12345678}) {
            x = afloat();
            int seed = Checks.seedFrom(first, 6, 3, 30, 0);
            C.due("seed " + seed, x.drawn(1, seed), 1);
            C.due("HAZE by " + seed, x.now(4), 1);
            seed = Checks.seedFrom(first, 6, 3, 30, 29);
            x.drawn(1, seed);
            C.due("HAZE by " + seed, x.now(4), 30);
            seed = Checks.seedFrom(first, 6, 1, 2, 1, 9, 8);
            x.drawn(1, seed);
            C.due("COURSE by " + seed, x.ship(1, 2), 8);
            seed = Checks.seedFrom(first, 6, 1, 2, 1, 9, 0);
            x.drawn(1, seed);
            C.due("COURSE by " + seed, x.ship(1, 2), 0);
        }
        // -1 becomes -1103502900, and that >>> 8 is 12466609: 1 of 6
        x = of("ship s 5 5 8 60;");
        x.drawn(1, -1);
        C.due("a draw of -1 by hand", (Checks.next(-1) >>> 8) % 6, 12466609 % 6);
        C.due("COURSE by -1", x.ship(0, 2), (Checks.next(Checks.next(Checks.next(-1))) >>> 8) % 9);
        C.says("2: a draw of all LIGHTS, of 20 (and 1): it is FILLED with that");
        x = of("light a 0 0 1 red 0;light b 0 0 1 red 0;");
        x.douse(0);
        x.drawn(1, Checks.seedFrom(0, 6, 2, 2, 0, 20, 0));
        C.due("the least", x.light(0, 4), 1);
        x.drawn(1, Checks.seedFrom(0, 6, 2, 2, 0, 20, 19));
        C.due("the greatest", x.light(0, 4), 21);
        C.says("then the SECOND");
        x.drawn(1, Checks.seedFrom(0, 6, 2, 2, 1, 20, 4));
        C.due("it SHINES behind that", x.light(1, 4), 4);
    }

    private static void drawnIfItCanBe() {
        C.says("each, if it can be");
        CoastLights x = of("light a 0 0 1 red 0;ship s 9 9 8 60;haze 12;");
        x.douse(0);
        x.drawn(1, Checks.seedFrom(0, 6, 0, 1, 0));
        C.due("not KINDLED without OIL", x.now(2), 1);
        x.fill(0, 1);
        x.drawn(1, Checks.seedFrom(0, 6, 0, 1, 0));
        C.due("KINDLED, and it SHINES", x.now(2) * 10 + x.now(5), 0);
        x.drawn(1, Checks.seedFrom(0, 6, 0, 1, 0));
        C.due("DOUSED", x.now(2), 1);
        x.fill(0, 980);
        x.drawn(1, Checks.seedFrom(0, 6, 2, 1, 0, 20, 19));
        C.due("not FILLED to 1000", x.now(5), 980);
        x.drawn(1, Checks.seedFrom(0, 6, 2, 1, 0, 20, 18));
        C.due("FILLED to 999", x.now(5), 999);
        x.drawn(1, Checks.seedFrom(0, 6, 1, 1, 0, 9, 8));
        C.due("STEERED as it goes", x.ship(0, 2), 8);
        x.drawn(1, Checks.seedFrom(0, 6, 3, 30, 11));
        C.due("HAZE as it is", x.now(4), 12);
        C.due("SECONDS went by all the same", x.now(0), 7);
        C.due("each can be undone", x.undo(), 7);
    }

    /** Two SECONDS, the second one a draw of HAZE: which draw that is tells how many were drawn ahead of it. */
    private static void hazeOfTheSecond(String text, int first, int drawsAhead) {
        CoastLights x = of(text);
        int seed = 0;
        int then = 0;
        boolean good = false;
        for (; !good; seed++) {
            int n = Checks.next(seed);
            good = (n >>> 8) % 6 == first;
            for (int i = 1; i < drawsAhead; i++) {
                n = Checks.next(n);
            }
            n = Checks.next(n);
            good &= (n >>> 8) % 6 == 3;
            then = (Checks.next(n) >>> 8) % 30 + 1;
            good &= then != 30;
        }
        x.drawn(2, seed - 1);
        C.due("HAZE behind " + first + " of " + text, x.now(4), then);
    }

    private static void drawnOfNone() {
        C.says("(none of those: no more draws");
        String light = "light a 0 0 1 red 5;";
        String ship = "ship s 9 9 8 1;";
        for (int first : new int[] {0, 1, 2, 4, 5}) {
            hazeOfTheSecond("", first, 1);
        }
        hazeOfTheSecond(light, 1, 1);
        hazeOfTheSecond(ship, 0, 1);
        hazeOfTheSecond(ship, 2, 1);
        C.says("0: a draw of all LIGHTS .. 1: a draw of all SHIPS, of 9 .. 2: a draw of all LIGHTS, of 20");
        hazeOfTheSecond(light, 0, 2);
        hazeOfTheSecond(ship, 1, 3);
        hazeOfTheSecond(light, 2, 3);
        hazeOfTheSecond(light + ship, 4, 1);
        hazeOfTheSecond(light + ship, 5, 1);
    }

    // ---- images

    private static void images() {
        C.says("kept in place k (0, 1): true; false: no such one");
        CoastLights x = afloat();
        for (int k : new int[] {-1, 2, Integer.MIN_VALUE, Integer.MAX_VALUE}) {
            C.due("image " + k, x.image(k), false);
            C.due("restore " + k, x.restore(k), false);
        }
        C.says("false: no such one, or nothing is kept there");
        C.due("place 1", x.restore(1), false);
        C.due("place 0", new CoastLights().restore(0), false);
        x.haze(3);
        C.due("restore of nothing", x.restore(1), false);
        C.due("leaves what can be undone", x.undo(), 0);
        C.says("CHART, all that is so and the SENTENCE are kept");
        Checks.sentence(x, "out or shining");
        x.haze(4);
        String scene = Checks.scene(x);
        C.due("image", x.image(1), true);
        C.due("what is so stays", Checks.scene(x), scene);
        C.due("what can be undone stays", x.undo(), 0);
        String other = Checks.scene(x);
        C.due("image", x.image(0), true);
        Checks.chart(x, Checks.eight("9 9 9 green 9"));
        Checks.sentence(x, "fixed");
        Checks.lay(x, "haze 1;");
        x.tag(0);
        x.change();
        x.haze(2);
        String last = Checks.last(x);
        C.says("They are as kept in place k (the tape, and what other calls told last, stays; nothing can be undone)");
        C.due("restore", x.restore(1), true);
        C.due("as kept", Checks.scene(x), scene);
        C.due("the tape", x.count(3), 7);
        C.due("told last", Checks.last(x), last);
        C.due("nothing can be undone", x.undo(), NONE);
        x.seconds(60);
        C.due("the other place", x.restore(0), true);
        C.due("as kept", Checks.scene(x), other);
        C.due("twice", x.restore(1), true);
        C.due("as kept", Checks.scene(x), scene);
        x.douse(0);
        C.due("kept anew", x.image(1), true);
        scene = Checks.scene(x);
        x.kindle(0);
        x.restore(1);
        C.due("as kept the latest", Checks.scene(x), scene);
        C.due("the tape's BOOK knows its HAZE", x.book(1), NONE);
        C.due("lived", x.now(4), 1);
        C.due("an empty CHART", new CoastLights().image(0), true);
    }

    private static void calls() {
        C.says("An object is used for at most 512 calls after it has been made");
        CoastLights x = of(A + "ship s 0 0 8 60;");
        // its CHART took five: end(), feed() twice, end(), chart()
        for (int calls = 5; calls < 511; calls += 2) {
            C.due("haze", x.haze(calls / 2 % 29 + 1) + x.haze(30), 0);
        }
        C.due("call 512", x.undo(), 7);
    }

    private static void counts() {
        C.says("0 LIGHTS, 1 SHIPS, 2 HAZE as told, 3 bytes of the tape. NONE for another what");
        CoastLights x = of(Checks.eight("0 0 1 red 0") + "ship p 0 0 0 1;ship q 0 0 0 1;ship r 0 0 0 1;ship s 0 0 0 1;haze 1;");
        C.due("LIGHTS", x.count(0), 8);
        C.due("SHIPS", x.count(1), 4);
        x.haze(30);
        C.due("HAZE", x.count(2), 1);
        C.due("tape", x.count(3), 0);
        for (int what : new int[] {-1, 4, Integer.MIN_VALUE, Integer.MAX_VALUE}) {
            C.due("count " + what, x.count(what), NONE);
        }
    }
}
