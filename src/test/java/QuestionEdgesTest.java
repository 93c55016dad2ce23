/**
 * The edges that the document names for what is asked: "Terms", part 3, the line on fractions, and promises 19 to
 * 36, 38, 40 and 42. Its words stand ahead of what holds them.
 */
public final class QuestionEdgesTest {
    private static final int NONE = CoastLights.NONE;
    private static final int THREW = Checks.THREW;
    private static final int[] NO_LIGHT = {-1, 8, -2, Integer.MIN_VALUE, Integer.MAX_VALUE};
    private static final Checks C = new Checks();
    private static final String A = "light a 0 0 1 red 5;";
    private static final String B = "light b 0 0 1 red 5;";

    public static void main(String[] args) {
        alike();
        confused();
        beyondTheChart();
        change();
        apart();
        apartFarOn();
        both();
        fits();
        fitsAt();
        ask();
        askOfTheLatest();
        spots();
        fix();
        most();
        burn();
        waits();
        mean();
        tag();
        odds();
        told();
        said();
        C.close();
    }

    private static CoastLights of(String text) {
        return Checks.of(text);
    }

    // ---- ALIKE, CONFUSED, CHANGE

    private static void alike() {
        C.says("of one COLOUR and one PERIOD, whose rows are the same, if one of them begins at some other place");
        CoastLights x = of("light a 0 0 1 red 0;light b 0 0 1 red 0;light c 0 0 1 red 0;light d 0 0 1 white 0;"
            + "flash a 2 1;flash b 1 2;flash c 2 1;flash d 2 1;");
        C.due("110 is not 100 anywhere", x.light(0, 9), 4);
        C.due("100", x.light(1, 9), 0);
        C.due("110", x.light(2, 9), 1);
        C.due("another COLOUR", x.light(3, 9), 0);
        x = of(A + B + "light c 0 0 1 red 5;light d 0 0 1 red 5;"
            + "flash a 19 20;" + "flash a 20 20;".repeat(3) + "flash b 20 20;".repeat(3) + "flash b 19 20;"
            + "flash c 20 20;".repeat(3) + "flash c 20 19;" + "flash d 20 20;".repeat(4));
        C.due("long rows, turned about", x.light(0, 9), 2);
        C.due("long rows, turned about", x.light(1, 9), 1);
        C.due("a long row of other SECONDS", x.light(2, 9), 0);
        C.due("another PERIOD", x.light(3, 9), 0);
        String longRows = "flash a 20 20;flash b 20 20;";
        Checks.chart(x, A + B + longRows);
        Checks.chart(x, A + B + "flash a 2 1;flash b 1 2;");
        C.due("110 and 100, told behind longer rows", x.light(0, 9) + x.light(1, 9), 0);
        Checks.chart(x, A + B + longRows);
        Checks.chart(x, A + B + "flash a 1 2;flash b 2 1;");
        C.due("100 and 110, told behind longer rows", x.light(0, 9) + x.light(1, 9), 0);
        x = of(A + B + "flash a 20 20;".repeat(4) + "flash b 20 20;".repeat(4));
        C.due("the longest rows", x.light(0, 9) * 10 + x.light(1, 9), 21);
        C.says("or at the same one");
        x = of(Checks.eight("0 0 1 red 0"));
        for (int l = 0; l < 8; l++) {
            C.due("all others, not itself", x.light(l, 9), 255 - (1 << l));
        }
        C.due("one alone", of(A).light(0, 9), 0);
        C.says("(unlike PERIODS: not ALIKE, whatever they SHOW over and over)");
        x = of(A + B + "flash a 3 3;flash b 3 3;flash b 3 3;");
        C.due("one row twice", x.light(0, 9), 0);
        C.due("though not APART", x.apart(0, 1), NONE);
        C.says("ALIKE are two unlike LIGHTS of one COLOUR and one PERIOD");
        x = of("light a 0 0 1 red 0;light b 19 19 30 red 99;flash a 1 2;flash b 1 2;from b 1;dark b 3;");
        x.douse(1);
        x.shift(0, 2);
        C.due("OUT, OIL, SHIFT, RANGE, dark", x.light(0, 9), 2);
    }

    private static void confused() {
        C.says("both VISIBLE from some cell, if there was no haze (HAZE 30)");
        CoastLights x = of("light a 0 0 1 red 0;light b 2 0 1 red 0;haze 1;");
        C.due("a cell between them", x.confused(), 1);
        x = of("light a 0 0 1 red 0;light b 3 0 1 red 0;");
        C.due("no cell between them", x.confused(), 0);
        x = of("light a 0 0 14 red 0;light b 19 19 14 red 0;haze 1;");
        C.due("far, in the haze as told", x.confused(), 1);
        x.haze(2);
        C.due("far, in the haze now", x.confused(), 1);
        x = of("light a 0 0 14 red 0;light b 19 19 13 red 0;");
        C.due("just not", x.confused(), 0);
        x = of("light a 0 0 30 red 0;light b 1 1 30 red 0;");
        x.douse(0);
        C.due("OUT, OIL no matter", x.confused(), 1);
        C.says("CONFUSED: pairs of LIGHTS");
        C.due("no LIGHTS", new CoastLights().confused(), 0);
        C.due("one LIGHT", of(A).confused(), 0);
        C.due("all of eight", of(Checks.eight("0 0 1 red 0")).confused(), 28);
        C.due("no pair of one COLOUR and row", of(A + B + "flash b 1 1;light c 0 0 1 white 0;").confused(), 0);
    }

    private static String darkBut(String name, int octant) {
        StringBuilder s = new StringBuilder();
        for (int o = 0; o < 8; o++) {
            s.append(o == octant ? "" : "dark " + name + " " + o + ";");
        }
        return s.toString();
    }

    /** Two LIGHTS that are both VISIBLE from one place alone, which lies a cell beyond the CHART. */
    private static void bothBeyond(String a, int octantOfA, String b, int octantOfB, int first) {
        CoastLights x = of("light a " + a + " 1 red 0;light b " + b + " 2 red 0;"
            + darkBut("a", octantOfA) + darkBut("b", octantOfB));
        C.due("confused " + a, x.confused(), 0);
        C.due("both " + a, x.spots(3), 0);
        C.due("a alone " + a, x.spots(1), 1);
        C.due("b alone " + a, x.spots(2), 1);
        C.due("none " + a, x.spots(0), 398);
        C.due("most " + a, x.most(), first);
    }

    private static void beyondTheChart() {
        C.says("both VISIBLE from some cell");
        bothBeyond("0 19", 2, "1 19", 3, 380);
        bothBeyond("0 0", 4, "0 1", 5, 0);
        bothBeyond("19 0", 0, "19 1", 7, 19);
        bothBeyond("0 0", 6, "1 0", 5, 0);
        CoastLights x = of("light a 19 19 1 red 0;dark a 4;dark a 6;light b 18 18 2 red 0;");
        C.due("the last cell alone", x.confused(), 1);
        x = of("light a 0 0 1 red 0;dark a 0;dark a 2;light b 1 1 2 red 0;");
        C.due("the first cell alone", x.confused(), 1);
    }

    private static void change() {
        C.says("Which, as bits, by the latest change(); NONE ahead of any");
        CoastLights x = of(Checks.eight("0 0 1 red 0"));
        C.due("ahead of any", x.changes(), NONE);
        x.confused();
        C.due("confused() is none", x.changes(), NONE);
        C.says("CHANGE: the fewest LIGHTS of which each such pair has one at least; of like ones the least as bits");
        C.due("all but one of eight", x.change(), 7);
        C.due("the least", x.changes(), 127);
        x = of("light a 0 0 1 red 0;light b 0 0 1 white 0;light c 0 0 1 green 0;light d 0 0 1 red 0;light e 0 0 1 white 0;"
            + "light f 0 0 1 green 0;light g 0 0 1 red 0;light h 0 0 1 red 0;"
            + "flash d 1 1;flash e 1 1;flash f 1 1;flash g 1 2;flash h 1 2;");
        C.due("the last two alone", x.confused(), 1);
        C.due("one of them", x.change(), 1);
        C.due("the least", x.changes(), 64);
        x = of("light a 0 0 1 red 0;light b 5 0 1 red 0;light c 10 0 1 red 0;light d 15 0 1 red 0;light e 0 5 1 red 0;"
            + "light f 5 5 1 red 0;light g 10 5 1 red 0;light h 9 9 30 red 0;");
        C.due("the last one with each", x.confused(), 7);
        C.due("it alone", x.change(), 1);
        C.due("the last one", x.changes(), 128);
        x = of("light a 0 0 3 red 0;light b 5 0 3 red 0;light c 5 5 3 red 0;light d 0 5 3 red 0;");
        C.due("round a square", x.confused(), 4);
        C.due("two across", x.change(), 2);
        C.due("the least of two such", x.changes(), 5);
        C.says("CHANGE: how many LIGHTS");
        Checks.chart(x, A);
        C.due("it stays with a new CHART", x.changes(), 5);
        C.due("one LIGHT", x.change(), 0);
        C.due("none", x.changes(), 0);
        x = new CoastLights();
        C.due("no LIGHTS", x.change(), 0);
        C.due("none", x.changes(), 0);
    }

    // ---- APART, BOTH

    private static void apart() {
        C.says("the fewest SECONDS n (1 and on)");
        CoastLights x = of("light a 0 0 1 red 0;light b 0 0 1 white 0;light c 0 0 1 red 0;flash c 20 1;");
        C.due("another COLOUR at once", x.apart(0, 1), 1);
        C.due("one longer than it is ever on", x.apart(0, 2), 21);
        C.due("its dark SECOND", x.apart(2, 0), 21);
        x.seconds(20);
        C.due("from now on (this SECOND is the first one)", x.apart(2, 0), 1);
        C.due("from any place of the other", x.apart(0, 2), 21);
        C.says("NONE: not by 400 (so, too, of one and itself), no such ones");
        for (int l = 0; l < 3; l++) {
            C.due("itself", x.apart(l, l), NONE);
        }
        CoastLights alike = of(A + B + "light c 0 0 1 red 0;" + "flash a 20 20;".repeat(4)
            + "flash b 20 20;".repeat(4) + "flash c 20 20;from b 33;");
        C.due("ALIKE", alike.apart(0, 1), NONE);
        C.due("ALIKE", alike.apart(1, 0), NONE);
        C.due("they SHOW the same over and over", alike.apart(0, 2) + alike.apart(2, 1), -2);
        for (int bad : NO_LIGHT) {
            C.due("of " + bad, x.apart(bad, 0), NONE);
            C.due("from " + bad, x.apart(0, bad), NONE);
            C.due("both " + bad, x.apart(bad, bad), NONE);
        }
        C.due("just behind the LIGHTS", x.apart(0, 3), NONE);
        C.due("just behind the LIGHTS", x.apart(3, 0), NONE);
        C.due("no LIGHTS", new CoastLights().apart(0, 0), NONE);
        C.says("What a LIGHT SHOWS in a SECOND by its CHARACTER .. (OUT, OIL no matter)");
        x.douse(0);
        x.douse(1);
        C.due("OUT", x.apart(0, 2), 21);
        C.due("OUT", x.apart(0, 1), 1);
    }

    private static void apartFarOn() {
        C.says("does not come, SECOND by SECOND, in the row of m over and over from any place of it");
        CoastLights x = of("light a 0 0 1 red 0;light b 0 0 1 white 0;flash a 1 20;from a 1;flash b 1 20;");
        C.due("dark for twenty, then another COLOUR", x.apart(0, 1), 21);
        String rows = A + B + "flash a 20 20;".repeat(4) + "flash b 20 20;".repeat(3) + "flash b 20 19;";
        x = of(rows);
        C.due("longer than a PERIOD: seven spells of 20, 19 dark, and one", x.apart(0, 1), 160);
        C.due("the other way", x.apart(1, 0), 160);
        C.due("from 20 dark ones on", of(rows + "from a 20;").apart(0, 1), 140);
        C.due("from 19 dark ones on: over the end of the row", of(rows + "from a 21;").apart(0, 1), 179);
        x.seconds(21);
        C.due("as SECONDS go by", x.apart(0, 1), 179);
        x.shift(0, 59);
        x.shift(0, 59);
        x.shift(0, 21);
        C.due("as it is SHIFTED", x.apart(0, 1), 160);
    }

    private static void both() {
        C.says("BOTH of two LIGHTS (of one and itself: when it is on): SECONDS (0: now)");
        CoastLights x = of("light a 0 0 1 red 0;light b 0 0 1 white 0;light c 0 0 1 red 0;light d 0 0 1 red 0;"
            + "flash b 1 20;from b 1;flash c 1 1;flash d 1 1;from d 1;");
        C.due("now", x.both(0, 0), 0);
        C.due("now", x.both(0, 2), 0);
        C.due("when b is on", x.both(1, 1), 20);
        C.due("when b is on", x.both(0, 1), 20);
        C.due("when b is on", x.both(1, 0), 20);
        C.says("NONE: never, no such ones");
        C.due("one by one", x.both(2, 3), NONE);
        C.due("one by one", x.both(3, 2), NONE);
        CoastLights y = of(A + B + "flash a 1 1;flash b 1 3;from b 1;");
        C.due("even ones and odd ones", y.both(0, 1), NONE);
        for (int bad : NO_LIGHT) {
            C.due("of " + bad, x.both(bad, 0), NONE);
            C.due("with " + bad, x.both(0, bad), NONE);
            C.due("both " + bad, x.both(bad, bad), NONE);
        }
        C.due("just behind the LIGHTS", x.both(4, 0) + x.both(0, 4), -2);
        C.due("no LIGHTS", new CoastLights().both(0, 0), NONE);
        C.says("in how many SECONDS both are on by their CHARACTERS");
        // on in each 21st SECOND from now, and in each 20th behind 19: 399 is 19 times 21
        y = of(A + B + "flash a 1 20;flash b 1 19;from b 1;");
        C.due("far on", y.both(0, 1), 399);
        Checks.goTo(y, 399);
        C.due("from now on", y.both(0, 1), 0);
        y.seconds(1);
        C.due("a whole round but one", y.both(0, 1), 419);
        y.douse(0);
        C.due("OUT", y.both(0, 1), 419);
        y = of(A + B + "flash a 20 20;".repeat(4) + "flash b 20 20;".repeat(3) + "flash b 20 19;from a 20;");
        C.due("the longest rows: the shorter dark spell ends first", y.both(0, 1), 159);
    }

    // ---- FITS, ASK

    private static int[] row(int of, int times) {
        int[] row = new int[times];
        java.util.Arrays.fill(row, of);
        return row;
    }

    private static void fits() {
        C.says("FITS by the tape (1 to 40 bytes: 0 to 3)");
        CoastLights x = of("light a 0 0 1 white 0;light b 0 0 1 red 0;light c 0 0 1 green 0;flash c 20 20;");
        C.due("none", Checks.fits(x), NONE);
        C.due("one", Checks.fits(x, 1), 1);
        C.due("forty", Checks.fits(x, row(2, 40)), 2);
        C.due("forty-one", Checks.fits(x, row(2, 41)), NONE);
        C.due("three", Checks.fits(x, 3), 4);
        C.due("four", Checks.fits(x, 4), NONE);
        C.due("four behind others", Checks.fits(x, 3, 3, 4), NONE);
        C.due("a high byte", Checks.fits(x, 255), NONE);
        C.due("a high byte", Checks.fits(x, 128), NONE);
        int[] last = row(2, 40);
        last[39] = 4;
        C.due("the fortieth", Checks.fits(x, last), NONE);
        last[39] = 0;
        C.due("the fortieth SHOWS that none of them fits", Checks.fits(x, last), 0);
        x.feed(0x01010101, 0x01010101, 0x01010101, 0x01010101, 0x01010101);
        x.feed(0x01010101, 0x01010101, 0x01010101, 0x01010101, 0x01010101);
        C.due("forty fed at once", x.fits(), 1);
        C.says("LIGHTS that SHOW just that row from some place of theirs on");
        C.due("twenty", Checks.fits(x, row(3, 20)), 4);
        C.due("no twenty-one", Checks.fits(x, row(3, 21)), 0);
        C.due("over the end of its row", Checks.fits(x, 3, 0), 4);
        C.due("over the end of its row", Checks.fits(x, 0, 3), 4);
        C.due("dark for none of the fixed", Checks.fits(x, 0), 4);
        C.due("OUT, OIL no matter", x.douse(0) + Checks.fits(x, 1), 1);
        C.due("no LIGHTS", Checks.fits(new CoastLights(), 0), 0);
        C.due("no LIGHTS, not as told", Checks.fits(new CoastLights(), 4), NONE);
        C.due("all of eight", Checks.fits(of(Checks.eight("0 0 1 green 0")), 3, 3), 255);
        Checks.chart(x, Checks.eight("0 0 1 green 0"));
        Checks.chart(x, A);
        C.due("none of the CHART ahead", Checks.fits(x, 3), 0);
    }

    private static void fitsAt() {
        C.says("The least place of a LIGHT from which on it SHOWS that row, by the latest fits() above 0");
        CoastLights x = of("light a 0 0 1 red 0;light b 0 0 1 red 0;light c 0 0 1 white 0;"
            + "flash a 2 3;flash a 1 4;" + "flash b 20 20;".repeat(4));
        for (int l = 0; l < 8; l++) {
            C.due("ahead of any", x.fitsAt(l), NONE);
        }
        Checks.fits(x, 2);
        C.due("the first place", x.fitsAt(0) + x.fitsAt(1), 0);
        Checks.fits(x, 0, 2);
        C.due("ahead of the second spell", x.fitsAt(0), 4);
        C.due("the end of the first spell", x.fitsAt(1), 39);
        Checks.fits(x, 0, 2, 2);
        C.due("over the end of its row", x.fitsAt(0), 9);
        Checks.fits(x, 0, 0, 0, 2, 0);
        C.due("the first spell that is dark for three", x.fitsAt(0), 2);
        Checks.fits(x, 2, 0, 0, 0, 0, 2, 2, 0, 0, 0, 2, 0, 0, 0, 0, 2, 2);
        C.due("nearly twice around", x.fitsAt(0), 5);
        C.due("none of them", x.fitsAt(1), NONE);
        C.due("none of them", x.fitsAt(2), NONE);
        C.says("NONE: it is none of them, no such one then, or ahead of any");
        for (int bad : NO_LIGHT) {
            C.due("fitsAt " + bad, x.fitsAt(bad), NONE);
        }
        C.due("just behind the LIGHTS", x.fitsAt(3), NONE);
        C.says("by the latest fits() above 0");
        Checks.fits(x, 3);
        C.due("0", x.fitsAt(0), 5);
        Checks.fits(x, 4);
        C.due("NONE", x.fitsAt(0), 5);
        Checks.fits(x, 1);
        C.due("one that is above 0", x.fitsAt(0) * 10 + x.fitsAt(2), -10);
        Checks.chart(x, "");
        C.due("the LIGHTS of then", x.fitsAt(2), 0);
        Checks.chart(x, "light z 0 0 1 white 0;");
        Checks.fits(x, 1);
        C.due("the LIGHTS of now", x.fitsAt(0) * 10 + x.fitsAt(2), -1);
        x = of(Checks.eight("0 0 1 red 0") + "flash h 1 1;");
        Checks.fits(x, 0);
        C.due("the eighth alone", x.fitsAt(7) * 10 + x.fitsAt(6), 9);
    }

    private static void ask() {
        C.says("how many SECONDS behind that row (0: the next one; to 39)");
        CoastLights x = of(A + B + "flash a 1 1;flash b 1 2;");
        C.due("ahead of any", x.ask(), NONE);
        Checks.fits(x, 2, 0);
        C.due("the next one", x.ask(), 0);
        Checks.fits(x, 2);
        C.due("the one behind that", x.ask(), 1);
        x = of(A + B + "flash a 20 20;flash a 1 1;flash b 20 20;flash b 2 1;");
        Checks.fits(x, 2, 2);
        C.due("the last one", x.ask(), 39);
        Checks.fits(x, 2);
        C.due("one more is not asked: all are like", x.ask(), 0);
        Checks.fits(x, row(2, 20));
        C.due("behind twenty", x.ask(), 21);
        C.says("the greatest number of these that may still be left is the least (of like ones the least)");
        x = of("light a 0 0 1 green 0;light b 0 0 1 green 0;light c 0 0 1 green 0;flash c 2 1;");
        Checks.fits(x, 3);
        C.due("two of three, by a green one's dark", x.ask(), 1);
        Checks.fits(x, 3, 3);
        C.due("the first of like ones", x.ask(), 0);
        Checks.fits(x, 3, 3, 0);
        C.due("one alone", x.ask(), 0);
        x = of("light a 0 0 1 white 0;light b 0 0 1 red 0;light c 0 0 1 green 0;light d 0 0 1 green 0;"
            + "flash a 1 3;flash b 1 4;flash c 1 4;flash d 1 5;");
        Checks.fits(x, 0, 0);
        // a is on by 1 and each fourth behind it, b and c by 2 and each fifth, d by 3 and each sixth: 17 tells all apart
        C.due("one white, one red, one green, one dark", x.ask(), 17);
        C.says("each from the least such place on");
        x = of(A + B + "flash a 1 2;flash a 1 3;flash b 1 2;flash b 2 3;");
        Checks.fits(x, 2, 0, 0);
        C.due("from place 0 on", x.fitsAt(0) + x.fitsAt(1), 0);
        C.due("not from place 3 on", x.ask(), 1);
    }

    private static void askOfTheLatest() {
        C.says("ASK by the latest fits() above 0; NONE ahead of any");
        CoastLights x = of(A + B + "flash a 1 1;flash b 1 2;");
        Checks.fits(x, 1);
        C.due("a fits() of 0", x.ask(), NONE);
        Checks.fits(x, 4);
        C.due("a fits() of NONE", x.ask(), NONE);
        Checks.fits(x, 2);
        C.due("above 0", x.ask(), 1);
        Checks.fits(x, 1);
        Checks.fits(x);
        C.due("it stays", x.ask(), 1);
        x.seconds(1);
        x.shift(0, 1);
        C.due("SECONDS, SHIFTS no matter", x.ask(), 1);
        Checks.chart(x, A);
        C.due("it stays with a new CHART", x.ask(), 1);
        x = of(Checks.eight("0 0 1 red 0") + "flash h 2 1;");
        Checks.fits(x, 2);
        C.due("seven and the eighth", x.ask(), 1);
    }

    // ---- cells

    private static void spots() {
        C.says("SPOTS of LIGHTS (bits): how many; NONE: no such ones");
        CoastLights x = of("light a 0 0 1 red 0;light b 2 0 1 red 0;");
        C.due("the greatest set", x.spots(3), 1);
        for (int bad : new int[] {-1, 4, 5, 256, Integer.MIN_VALUE, Integer.MAX_VALUE}) {
            C.due("spots " + bad, x.spots(bad), NONE);
        }
        C.says("(OUT, OIL no matter; of 0: from which none is)");
        C.due("of 0", x.spots(0), 394);
        x.douse(0);
        C.due("OUT", x.spots(1), 2);
        CoastLights none = new CoastLights();
        C.due("of 0 without LIGHTS", none.spots(0), 400);
        C.due("the first cell", none.spotsAt(), 0);
        C.due("no LIGHT", none.spots(1), NONE);
        CoastLights all = of(Checks.eight("9 9 30 red 0"));
        C.due("all of eight", all.spots(255), 400);
        C.due("of 0", all.spots(0), 0);
        C.due("a ninth", all.spots(256), NONE);
        C.says("The first of them by the latest spots() above 0; NONE ahead of any .. Of several cells the first: 20 by y and x");
        x = of("light a 19 19 1 red 0;dark a 4;dark a 6;");
        C.due("ahead of any", x.spotsAt(), NONE);
        x.spots(2);
        C.due("NONE is not above 0", x.spotsAt(), NONE);
        x.haze(1);
        C.due("the last cell alone", x.spots(1), 1);
        C.due("the last cell", x.spotsAt(), 399);
        C.due("all others", x.spots(0), 399);
        C.due("the first cell", x.spotsAt(), 0);
        x = of("light a 5 1 1 red 0;light b 1 5 1 red 0;");
        x.spots(1);
        C.due("above the LIGHT", x.spotsAt(), 5);
        x.spots(2);
        C.due("above the LIGHT", x.spotsAt(), 4 * 20 + 1);
        C.due("none", x.spots(3), 0);
        C.due("it stays", x.spotsAt(), 81);
        x.spots(4);
        C.due("it stays", x.spotsAt(), 81);
    }

    private static void fix() {
        C.says("FIX by the tape (pairs of bytes: a LIGHT, an OCTANT: 1 to 6 of them)");
        CoastLights x = of(Checks.eight("18 18 1 red 0"));
        C.due("no pair", Checks.fix(x), NONE);
        C.due("one pair", Checks.fix(x, 0, 1), 1);
        C.due("six pairs", Checks.fix(x, 0, 1, 1, 1, 2, 1, 3, 1, 4, 1, 7, 1), 1);
        C.due("seven pairs", Checks.fix(x, 0, 1, 1, 1, 2, 1, 3, 1, 4, 1, 5, 1, 6, 1), NONE);
        C.due("half a pair", Checks.fix(x, 0), NONE);
        C.due("a pair and a half", Checks.fix(x, 0, 1, 0), NONE);
        C.due("five and a half", Checks.fix(x, 0, 1, 0, 1, 0, 1, 0, 1, 0, 1, 0), NONE);
        C.due("six and a half", Checks.fix(x, 0, 1, 0, 1, 0, 1, 0, 1, 0, 1, 0, 1, 0), NONE);
        C.says("NONE: not as told (a byte that is no LIGHT, no OCTANT, too)");
        C.due("LIGHT 8", Checks.fix(x, 8, 1), NONE);
        C.due("LIGHT 255", Checks.fix(x, 255, 1), NONE);
        C.due("OCTANT 8", Checks.fix(x, 0, 8), NONE);
        C.due("OCTANT 255", Checks.fix(x, 0, 255), NONE);
        C.due("in the sixth pair", Checks.fix(x, 0, 1, 0, 1, 0, 1, 0, 1, 0, 1, 0, 8), NONE);
        C.due("in the sixth pair", Checks.fix(x, 0, 1, 0, 1, 0, 1, 0, 1, 0, 1, 8, 1), NONE);
        C.due("LIGHT 1 of one", Checks.fix(of(A), 1, 0), NONE);
        C.due("no LIGHTS", Checks.fix(new CoastLights(), 0, 0), NONE);
        C.due("OCTANT 7 of the LIGHT that is alone", Checks.fix(of("light a 9 9 1 red 0;"), 0, 7, 0, 7) > 0, true);
        // one pair, and bytes behind it that are cut
        x.feed(0x0001ffff, 0xffffffff, 0xffffffff, 0xffffffff, 0xffffffff);
        x.end(2);
        C.due("what is cut is not told", x.fix(), 1);
        x.feed(0x0001ffff, 0xffffffff, 0xffffffff, 0xffffffff, 0xffffffff);
        x.end(3);
        C.due("a byte more is", x.fix(), NONE);
        C.says("how many cells there are that lie so from each");
        C.due("two OCTANTS of one", Checks.fix(x, 0, 1, 1, 2), 0);
        C.due("the last pair tells", Checks.fix(x, 0, 1, 0, 1, 0, 1, 0, 1, 0, 1, 0, 2), 0);
        C.due("the least OCTANT", Checks.fix(x, 0, 0), 1);
        C.due("the greatest OCTANT", Checks.fix(x, 0, 7), 1);
        C.says("The first of them by the latest fix() above 0; NONE ahead of any");
        x = of("light a 18 18 1 red 0;light b 1 1 1 red 0;");
        C.due("ahead of any", x.fixAt(), NONE);
        Checks.fix(x, 2, 0);
        Checks.fix(x, 0, 1, 0, 2);
        C.due("NONE, 0 are not above 0", x.fixAt(), NONE);
        C.due("one cell", Checks.fix(x, 0, 1), 1);
        C.due("the last cell", x.fixAt(), 399);
        C.due("one cell", Checks.fix(x, 1, 5), 1);
        C.due("the first cell", x.fixAt(), 0);
        Checks.fix(x, 0, 0);
        C.due("beside the LIGHT", x.fixAt(), 18 * 20 + 19);
        Checks.fix(x, 0, 0, 1, 4);
        C.due("it stays", x.fixAt(), 379);
        x.haze(1);
        C.due("haze, RANGE no matter", Checks.fix(x, 1, 0, 0, 5), 17 * 16 / 2);
    }

    private static void most() {
        C.says("MOST: 20 by y and x; NONE: there are no LIGHTS");
        C.due("no LIGHTS", new CoastLights().most(), NONE);
        CoastLights x = of("light a 19 19 1 red 0;dark a 4;dark a 6;");
        C.due("the last cell", x.most(), 399);
        x = of("light a 5 1 1 red 0;light b 1 5 1 red 0;");
        C.due("of several cells the first", x.most(), 5);
        x = of("light a 5 0 30 red 0;light b 1 5 1 red 0;light c 3 5 1 red 0;");
        C.due("all three from one cell", x.most(), 5 * 20 + 2);
        x.douse(1);
        C.due("OUT, OIL no matter", x.most(), 102);
        x.haze(1);
        C.due("in the haze", x.most(), 102);
        x = of(Checks.eight("0 0 30 red 0"));
        C.due("eight from the first cell", x.most(), 0);
        x = of("light a 0 0 30 red 0;dark a 0;dark a 1;dark a 2;light b 19 19 30 red 0;dark b 4;dark b 5;dark b 6;");
        C.due("their own cells alone", x.most(), 0);
        Checks.chart(x, "");
        C.due("none any more", x.most(), NONE);
    }

    // ---- BURN, WAITS

    private static void burn() {
        C.says("BURN of a LIGHT: SECONDS (0: it has none); NONE: never (it is OUT and has some), no such one");
        String rows = "flash a 2 3;flash a 1 4;";
        CoastLights x = of("light a 0 0 1 red 0;" + rows);
        C.due("it has none", x.burn(0), 0);
        x.douse(0);
        C.due("OUT, and it has none", x.burn(0), 0);
        x.fill(0, 1);
        C.due("OUT, and it has one", x.burn(0), NONE);
        for (int bad : NO_LIGHT) {
            C.due("burn " + bad, x.burn(bad), NONE);
        }
        C.due("just behind the LIGHTS", x.burn(1), NONE);
        C.due("no LIGHTS", new CoastLights().burn(0), NONE);
        C.says("behind how many SECONDS it has no OIL");
        int[] behind = {1, 2, 6, 11, 12, 16, 21};
        for (int oil = 1; oil <= behind.length; oil++) {
            x = of("light a 0 0 1 red " + oil + ";" + rows);
            C.due("with " + oil, x.burn(0), behind[oil - 1]);
            x.seconds(behind[oil - 1] - 1);
            C.due("not a SECOND sooner", x.now(3), 0);
            C.due("one more", x.burn(0), 1);
            x.seconds(1);
            C.due("none is left", x.now(3), 1);
        }
        int[] fromTwo = {4, 9, 10, 14};
        for (int oil = 1; oil <= fromTwo.length; oil++) {
            x = of("light a 0 0 1 red " + oil + ";" + rows + "from a 2;");
            C.due("from place 2 with " + oil, x.burn(0), fromTwo[oil - 1]);
        }
        x = of("light a 0 0 1 red 999;" + "flash a 20 20;".repeat(4));
        C.due("the longest row: 12 rounds, 20 on, 20 off, 19 on", x.burn(0), 12 * 160 + 59);
        Checks.chart(x, "light a 0 0 1 red 999;flash a 1 1;");
        C.due("a short row behind it", x.burn(0), 1997);
        Checks.chart(x, A);
        C.due("fixed", x.burn(0), 5);
        x = of(Checks.eight("0 0 1 red 7"));
        C.due("the eighth", x.burn(7), 7);
        C.says("if nothing else is done (SECOND 3600 no matter)");
        x = of("light a 0 0 1 red 999;flash a 1 20;from a 1;");
        C.due("from the first SECOND on", x.burn(0), 999 * 21);
        x.douse(0);
        Checks.goTo(x, 3600);
        x.kindle(0);
        // 3601 of 21 is place 10: eleven dark SECONDS, and the twelfth burns
        C.due("when all are over", x.burn(0), 12 + 998 * 21);
        C.due("all stays", x.now(0), 3600);
    }

    private static void waits() {
        C.says("WAITS of a SHIP: SECONDS (0: it SEES one); NONE: not in 600, no such one");
        CoastLights x = of("light a 11 0 1 red 999;ship s 0 0 0 60;ship t 11 1 8 1;ship u 0 9 8 1;");
        C.due("it SEES one", x.waits(1), 0);
        C.due("just 600", x.waits(0), 600);
        C.due("never", x.waits(2), NONE);
        x.seconds(1);
        C.due("599", x.waits(0), 599);
        for (int bad : new int[] {-1, 3, 4, Integer.MIN_VALUE, Integer.MAX_VALUE}) {
            C.due("waits " + bad, x.waits(bad), NONE);
        }
        C.due("no SHIPS", new CoastLights().waits(0), NONE);
        x = of("light a 12 0 1 red 999;ship s 0 0 0 60;");
        x.seconds(59);
        C.due("601", x.waits(0), NONE);
        C.due("no LIGHTS", of("ship s 0 0 0 1;").waits(0), NONE);
        C.says("in how many it SEES some LIGHT, if nothing else is done");
        x = of("light a 0 0 1 red 1;flash a 1 20;from a 1;ship s 0 0 8 1;");
        C.due("when it is on", x.waits(0), 20);
        x.douse(0);
        C.due("OUT", x.waits(0), NONE);
        x = of("light a 0 0 1 red 9;light b 10 0 1 red 9;ship s 19 0 4 1;");
        C.due("the nearer one", x.waits(0), 8);
        x = of("light a 0 0 1 red 8;light b 10 0 1 red 8;ship s 19 0 4 1;");
        C.due("burnt just ahead of that", x.waits(0), NONE);
        x = of("light a 0 0 30 red 999;flash a 1 20;from a 1;ship s 17 0 0 1;haze 18;");
        C.due("too far when it is on: the SHIP lies still by then", x.waits(0), NONE);
        x.haze(19);
        C.due("in the thinner haze", x.waits(0), 20);
        C.says("(SECOND 3600 no matter)");
        x = of("light a 0 0 1 red 999;flash a 20 20;ship s 0 0 8 1;");
        x.douse(0);
        Checks.goTo(x, 3590);
        x.kindle(0);
        // place 3590 of 40: 30
        C.due("at 3600", x.waits(0), 10);
        x.shift(0, 39);
        C.due("beyond 3600", x.waits(0), 11);
        C.due("all stays", x.now(0) * 1000 + x.now(5), 3590 * 1000 + 999);
    }

    // ---- MEAN, TAG

    private static void mean() {
        C.says("All fractions are told by two numbers: 0 above, 1 below, in least terms");
        int[][] due = {{0, 0, 1}, {1, 1, 8}, {2, 1, 4}, {4, 1, 2}, {6, 3, 4}, {8, 1, 1}, {9, 9, 8}, {12, 3, 2}, {999, 999, 8}};
        for (int[] d : due) {
            CoastLights x = of(Checks.eight("0 0 1 red 0"));
            if (d[0] > 0) {
                x.fill(3, d[0]);
            }
            C.due(d[0] + " by 8: above", Checks.mean(x, 0), d[1]);
            C.due(d[0] + " by 8: below", Checks.mean(x, 1), d[2]);
        }
        CoastLights x = of(Checks.eight("0 0 1 red 999"));
        C.due("the greatest: above", Checks.mean(x, 0), 999);
        C.due("the greatest: below", Checks.mean(x, 1), 1);
        x = of("light a 0 0 1 red 9;light b 0 0 1 red 0;light c 0 0 1 red 0;light d 0 0 1 red 0;light e 0 0 1 red 0;"
            + "light f 0 0 1 red 0;");
        C.due("9 by 6: above", Checks.mean(x, 0), 3);
        C.due("9 by 6: below", Checks.mean(x, 1), 2);
        x.seconds(5);
        C.due("4 by 6: above", Checks.mean(x, 0), 2);
        C.due("4 by 6: below", Checks.mean(x, 1), 3);
        C.due("of one: below", Checks.mean(of(A), 1), 1);
        C.says("NoSuchElementException: there are no LIGHTS, no such ones");
        for (int bad : new int[] {-1, 2, Integer.MIN_VALUE, Integer.MAX_VALUE}) {
            C.due("mean " + bad, Checks.mean(x, bad), THREW);
        }
        CoastLights none = of("ship s 0 0 0 1;");
        C.due("no LIGHTS", Checks.mean(none, 0), THREW);
        C.due("no LIGHTS", Checks.mean(none, 1), THREW);
    }

    private static void tag() {
        C.says("TAG of a SHIP: its NAME, ' at ', X, a blank and Y as digits, ' sees ' and how many LIGHTS it SEES");
        CoastLights x = of(Checks.eight("19 10 1 red 5") + "ship s 0 9 8 1;ship abcdefg 19 10 8 1;ship zyxw 9 0 8 1;"
            + "ship az 10 19 8 1;");
        C.due("byte 0 ahead of any", x.byteAt(0), NONE);
        String[] due = {"s at 0 9 sees 0", "abcdefg at 19 10 sees 8", "zyxw at 9 0 sees 0", "az at 10 19 sees 0"};
        for (int s = 0; s < 4; s++) {
            C.due("tag", Checks.tag(x, s), due[s]);
            C.due("bytes", x.tag(s), due[s].length());
        }
        C.says("TAG of a SHIP: how many bytes; NONE: no such one");
        x.tag(1);
        for (int bad : new int[] {-1, 4, Integer.MIN_VALUE, Integer.MAX_VALUE}) {
            C.due("tag " + bad, x.tag(bad), NONE);
        }
        C.due("no SHIPS", new CoastLights().tag(0), NONE);
        C.says("Byte i of the latest TAG; NONE: none such");
        C.due("the first", x.byteAt(0), 'a');
        C.due("the last", x.byteAt(22), '8');
        for (int bad : new int[] {-1, 23, 32, Integer.MIN_VALUE, Integer.MAX_VALUE}) {
            C.due("byte " + bad, x.byteAt(bad), NONE);
        }
        x.tag(0);
        C.due("the last of a shorter one", x.byteAt(14), '0');
        C.due("no more of the longer one", x.byteAt(15), NONE);
        x.seconds(5);
        Checks.chart(x, "");
        C.due("the latest stays", x.byteAt(0), 's');
        C.due("a SHIP that is not there any more", x.tag(0), NONE);
        C.due("the latest stays", x.byteAt(14), '0');
    }

    // ---- ODDS, TOLD, SAID

    private static void odds() {
        C.says("Of n (1 to 30) seeds x, x and 1, ..");
        CoastLights x = of("light a 2 2 9 red 20;flash a 2 1;light b 9 9 4 green 30;flash b 1 2;ship s 5 5 8 60;"
            + "ship t 5 6 8 60;haze 12;");
        x.seconds(1);
        x.image(0);
        int[] sees = new int[31];
        int first = Integer.MAX_VALUE - 14;
        for (int i = 0; i <= 30; i++) {
            x.drawn(30, first + i);
            sees[i] = x.ship(0, 5) != 0 ? 1 : 0;
            x.restore(0);
        }
        int sum = 0;
        for (int n = 1; n <= 30; n++) {
            sum += sees[n - 1];
            C.due(n + " seeds, over the greatest int", x.odds(0, n, first), sum);
            C.due("seed " + n + " alone", x.odds(0, 1, first + n), sees[n]);
        }
        C.due("some do, some do not", sum > 0 && sum < 30, true);
        C.says("NONE: no such ones");
        for (int bad : new int[] {0, -1, 31, Integer.MIN_VALUE, Integer.MAX_VALUE}) {
            C.due("n " + bad, x.odds(0, bad, 1), NONE);
        }
        for (int bad : new int[] {-1, 2, 4, Integer.MIN_VALUE, Integer.MAX_VALUE}) {
            C.due("SHIP " + bad, x.odds(bad, 1, 1), NONE);
        }
        C.due("all stays", x.now(0), 1);
        C.due("nothing to undo", x.undo(), NONE);
        C.says("behind 30 SECONDS DRAWN from now on");
        x = of("light a 0 0 30 red 999;flash a 1 1;ship s 0 0 8 60;");
        x.douse(0);
        Checks.goTo(x, 3600);
        x.kindle(0);
        C.due("all are over: it SEES one now", x.odds(0, 30, 5), 30);
        x.shift(0, 1);
        C.due("all are over: it SEES none", x.odds(0, 30, 5), 0);
        C.due("no LIGHTS", of("ship s 0 0 8 60;").odds(0, 30, 5), 0);
    }

    private static void told() {
        C.says("NONE: another what, or ahead of any");
        CoastLights x = of(Checks.COAST);
        for (int what = 0; what < 4; what++) {
            C.due("ahead of any " + what, x.told(what), NONE);
        }
        Checks.book(x, "?", 0);
        Checks.book(x, "haze 5;", 2);
        for (int what = 0; what < 4; what++) {
            C.due("ahead of any that had no FAULT " + what, x.told(what), NONE);
        }
        x.book(0);
        for (int bad : new int[] {-1, 4, Integer.MIN_VALUE, Integer.MAX_VALUE}) {
            C.due("told " + bad, x.told(bad), NONE);
        }
        C.says("0 why it was WRONG (0: it was not");
        C.due("it was not", x.told(0), 0);
        String[] books = {"douse a;douse a;", "douse a;kindle b;", "douse c;kindle c;", "haze 1;fill a 900;",
            "haze 1;shift c 59;", "haze 1;steer t 8;", "haze 1;haze 1;"};
        int[] why = {1, 11, 12, 21, 31, 41, 51};
        for (int i = 0; i < books.length; i++) {
            C.due(books[i], Checks.book(x, books[i], 0), 1);
            C.due("why of " + books[i], x.told(0), why[i]);
            C.due("LINES of " + books[i], x.told(1), 1);
        }
        Checks.book(x, "fill a 899;shift a 59;steer t 0;kindle a;", 0);
        C.due("just not WRONG, then kindling of what is not OUT", x.told(0), 11);
        C.says("1 how many LINES are ahead of the one that is WRONG (all, if none is)");
        Checks.book(x, "", 1);
        C.due("none of none", x.told(1), 0);
        C.due("the SECOND then", x.told(2), 0);
        C.due("OIL of all then", x.told(3), 130);
        Checks.book(x, "haze 1;haze 2;".repeat(20), 0);
        C.due("all forty", x.told(1), 40);
        Checks.book(x, "haze 20;", 0);
        C.due("the first is WRONG", x.told(1), 0);
        C.says("61: fewer SECONDS are left");
        Checks.goTo(x, 3541);
        C.due("just as many", Checks.book(x, "second 58;second 1;", 0), NONE);
        C.due("the SECOND then", x.told(2), 3600);
        C.due("one too many", Checks.book(x, "second 60;", 1), 0);
        C.due("why", x.told(0), 61);
        C.due("the SECOND then", x.told(2), 3541);
        C.due("none goes", x.now(0), 3541);
        C.due("one too many", Checks.book(x, "second 58;second 2;haze 3;", 1), 1);
        C.due("the SECOND then", x.told(2), 3599);
        C.due("no haze behind that", x.now(4), 20);
        C.due("the last one", Checks.book(x, "second 1;second 1;", 1), 1);
        C.due("at 3600", x.told(2), 3600);
        C.says("Of the latest book() that had no FAULT (and was not -1000)");
        int told = x.told(0) * 10 + x.told(1);
        Checks.book(x, "haze 5;haze", 1);
        Checks.book(x, "haze 5;", -7);
        C.due("it stays", x.told(0) * 10 + x.told(1), told);
        C.due("what it was", told, 611);
        Checks.chart(x, "");
        C.due("with a new CHART", x.told(0), 61);
    }

    private static void said() {
        C.says("how many (k NONE), or the k-th. NONE: there is no SENTENCE, none such");
        CoastLights x = of(Checks.eight("0 0 1 red 5"));
        for (int k : new int[] {NONE, 0, -2, 7, Integer.MAX_VALUE}) {
            C.due("no SENTENCE", x.said(k), NONE);
        }
        Checks.sentence(x, "?");
        C.due("a FAULT is none", x.said(NONE), NONE);
        Checks.sentence(x, "not out");
        C.due("all of eight", x.said(NONE), 8);
        for (int k = 0; k < 8; k++) {
            C.due("the k-th", x.said(k), k);
        }
        for (int bad : new int[] {8, -2, 31, 32, 33, Integer.MIN_VALUE, Integer.MAX_VALUE}) {
            C.due("said " + bad, x.said(bad), NONE);
        }
        x.douse(0);
        x.douse(3);
        C.due("as it is now", x.said(NONE), 6);
        C.due("the first", x.said(0), 1);
        C.due("the third", x.said(2), 4);
        C.due("the last", x.said(5), 7);
        C.due("no more", x.said(6), NONE);
        Checks.sentence(x, "oil > 999");
        C.due("none: another SENTENCE is said now", x.said(NONE), 0);
        C.due("none such", x.said(0), NONE);
        Checks.sentence(x, "number = 7 or number < 1");
        C.due("the first and the last", x.said(0) * 10 + x.said(1), 7);
        C.says("( 'oil' | 'period' | 'range' | 'number' ) SIGN NUMBER");
        x = of("light a 0 0 1 red 0;light b 0 0 30 red 999;" + "flash b 20 20;".repeat(4));
        String[] said = {"oil = 0", "oil < 1", "oil < 0", "oil > 998", "oil = 999", "oil > 999", "period = 1", "period < 2",
            "period = 160", "period > 159", "period > 160", "range = 1", "range < 1", "range > 29", "range = 30",
            "number = 0", "number < 0", "number = 1", "number > 1", "oil = 000"};
        int[] due = {1, 1, 0, 2, 2, 0, 1, 1, 2, 2, 0, 1, 0, 2, 2, 1, 0, 2, 0, 1};
        for (int i = 0; i < said.length; i++) {
            Checks.sentence(x, said[i]);
            int set = 0;
            for (int k = 0; k < x.said(NONE); k++) {
                set |= 1 << x.said(k);
            }
            C.due(said[i], set, due[i]);
        }
        C.says("'like' LIGHT (it is that one, or ALIKE) .. 'fixed' (it has no 'flash')");
        Checks.sentence(x, "like b");
        C.due("it is that one", x.said(NONE) * 10 + x.said(0), 11);
        Checks.sentence(x, "fixed");
        C.due("no 'flash'", x.said(NONE) * 10 + x.said(0), 10);
        x = of(Checks.COAST);
        Checks.sentence(x, "like b");
        C.due("it and the one ALIKE", x.said(NONE) * 10 + x.said(0), 20);
        Checks.sentence(x, "like c or by s");
        C.due("it and one that is SEEN", x.said(0) * 10 + x.said(1), 12);
        Checks.sentence(x, "not like a and by s or out");
        C.due("none", x.said(NONE), 0);
        Checks.sentence(x, "by t");
        C.due("that one SEES none", x.said(NONE), 0);
    }
}
