/**
 * The edges that the document names for the tape and its texts: "Terms", part 1, and promises 2 to 5, 39 and 41.
 * Its words stand ahead of what holds them; in a text with a FAULT a ^ stands at the FAULT's place.
 */
public final class TextEdgesTest {
    private static final int NONE = CoastLights.NONE;
    private static final Checks C = new Checks();
    private static final String A = "light a 0 0 1 red 0;";
    private static final String[] RESERVED = ("light flash from dark ship haze white red green douse kindle fill shift "
        + "steer second or and not out shining fixed like by oil period range number").split(" ");

    public static void main(String[] args) {
        tokens();
        words();
        numbers();
        runs();
        chartNumbers();
        chartSorts();
        names();
        mostOfASort();
        books();
        sentences();
        sentenceDepth();
        cannotCome();
        faultOrder();
        faultAtTheEnd();
        faultAtTheMost();
        readWhole();
        faultKinds();
        tape();
        tapeIsEmptied();
        faultStaysOut();
        faultOfTheLatest();
        C.close();
    }

    // ---- what the tests below are told with

    private static void goodChart(String text) {
        CoastLights x = new CoastLights();
        C.due("chart " + text, Checks.chart(x, text), text.chars().filter(c -> c == ';').count());
        C.due("no FAULT in " + text, x.fault(), 0);
    }

    private static void badChart(int kind, String marked) {
        CoastLights x = Checks.of(Checks.COAST);
        C.due("chart " + marked, Checks.chart(x, Checks.unmarked(marked)), -1 - Checks.place(marked));
        C.due("FAULT of " + marked, x.fault(), kind);
    }

    private static void goodBook(String text) {
        CoastLights x = Checks.of(Checks.COAST);
        C.due("book " + text, Checks.book(x, text, 0) >= NONE, true);
        C.due("no FAULT in " + text, x.fault(), 0);
    }

    private static void badBook(int kind, String marked) {
        CoastLights x = Checks.of(Checks.COAST);
        C.due("book " + marked, Checks.book(x, Checks.unmarked(marked), 1), -2 - Checks.place(marked));
        C.due("FAULT of " + marked, x.fault(), kind);
    }

    private static void goodSentence(String text, int ones) {
        CoastLights x = Checks.of(Checks.COAST);
        C.due("sentence " + text, Checks.sentence(x, text), ones);
        C.due("no FAULT in " + text, x.fault(), 0);
    }

    private static void badSentence(int kind, String marked) {
        CoastLights x = Checks.of(Checks.COAST);
        C.due("sentence " + marked, Checks.sentence(x, Checks.unmarked(marked)), -1 - Checks.place(marked));
        C.due("FAULT of " + marked, x.fault(), kind);
    }

    /** A NUMBER of a CHART from low to high: both edges, and what lies beyond them. */
    private static void chartNumber(String ahead, int low, int high, String behind) {
        goodChart(ahead + low + behind);
        goodChart(ahead + high + behind);
        if (low > 0) {
            badChart(2, ahead + "^" + (low - 1) + behind);
        }
        badChart(high < 999 ? 2 : 1, ahead + "^" + (high + 1) + behind);
    }

    private static void bookNumber(String ahead, int low, int high) {
        goodBook(ahead + low + ";");
        goodBook(ahead + high + ";");
        if (low > 0) {
            badBook(2, ahead + "^" + (low - 1) + ";");
        }
        badBook(high < 999 ? 2 : 1, ahead + "^" + (high + 1) + ";");
    }

    private static String blanks(int n) {
        return " ".repeat(n);
    }

    // ---- TOKENS

    private static void tokens() {
        C.says("TOKENS of all texts, with blanks (32, 10) between them or not");
        goodChart("haze 5;");
        goodChart("\n haze\n\n5 ; \n");
        goodChart("light a 0 0 1 red 0;flash a 1 1;\nfrom a 0\n;haze 1;");
        goodBook("haze\n5;  haze 6 \n;");
        goodSentence("oil<5 or(out)and not(shining)", 6);
        goodSentence("\n oil \n< \n 5 \n", 1);
        for (int blank : new int[] {0, 9, 11, 12, 13, 31, 33, 160}) {
            badChart(1, "haze^" + (char) blank + "5;");
            badBook(1, "haze^" + (char) blank + "5;");
            badSentence(1, "out^" + (char) blank + "or out");
        }
        C.says("what is not as told is no TOKEN");
        for (int b = 0; b < 256; b++) {
            if (b == 32 || b == 10) {
                goodChart("" + (char) b);
                goodBook("" + (char) b);
            } else if (b != '^') {
                badChart(1, "^" + (char) b);
                badBook(1, "^" + (char) b);
                badSentence(1, b == '(' ? "(^" : "^" + (char) b);
            }
        }
        badBook(1, "haze 5^,");
        badBook(1, "haze 5^:");
        badSentence(1, "oil ^. 5");
        badSentence(1, "oil ^: 5");
        badSentence(1, "oil ^? 5");
        badSentence(1, "^[out]");
    }

    private static void words() {
        C.says("WORDS: small letters, 1 to 7");
        goodChart("light z 0 0 1 red 0;light abcdefg 0 0 1 red 0;ship y 0 0 0 1;ship zzzzzzz 0 0 0 1;");
        badChart(1, "light ^abcdefgh 0 0 1 red 0;");
        badChart(1, "ship ^abcdefgh 0 0 0 1;");
        badChart(1, A + "flash ^aaaaaaaa 1 1;");
        badChart(1, "^" + "a".repeat(900));
        badChart(1, "light g^Ull 0 0 1 red 0;");
        badChart(1, "light g^" + (char) 233 + " 0 0 1 red 0;");
        badChart(1, "^lIght");
        badChart(1, "^Light");
        badBook(1, "douse ^abcdefgh;");
        badSentence(1, "like ^abcdefgh");
        // like NAMES but for one letter, or for how often it comes, are others
        goodChart("light gullsee 0 0 1 red 0;light gullsef 0 0 1 red 0;light fullsee 0 0 1 red 0;"
            + "light a 0 0 1 red 0;light aa 0 0 1 red 0;light aaa 0 0 1 red 0;ship aaaa 0 0 0 1;");
    }

    private static void numbers() {
        C.says("NUMBERS: 1 to 3 digits");
        goodChart("haze 5;");
        goodChart("haze 05;");
        goodChart("haze 005;");
        badChart(1, "haze ^0005;");
        badBook(1, "haze ^0005;");
        badSentence(1, "oil < ^0005");
        // as an int each of these would wrap to 5
        badChart(1, "haze ^4294967301;");
        badBook(1, "haze ^4294967301;");
        badSentence(1, "oil < ^4294967301");
        badChart(1, "haze ^" + "0".repeat(800) + "5;");
        badChart(1, "haze ^-5;");
        badChart(1, "haze ^+5;");
        CoastLights x = Checks.of("light a 019 007 030 green 099;haze 008;");
        C.due("zeros ahead", x.light(0, 0), 19);
        C.due("zeros ahead", x.light(0, 1), 7);
        C.due("zeros ahead", x.light(0, 4), 99);
        C.due("zeros ahead", x.now(4), 8);
    }

    private static void runs() {
        C.says("A WORD, NUMBER goes on as long as small letters and digits do");
        badChart(1, "^haze5;");
        badChart(1, "^5haze 5;");
        badChart(1, "haze ^5a;");
        badChart(1, "haze ^5haze 5;");
        badChart(1, "^haze1 5;");
        badChart(1, "^1haze 5;");
        badChart(1, "light ^a1 0 0 1 red 0;");
        badChart(1, "light ^1a 0 0 1 red 0;");
        badChart(1, "light a 0 0 1 ^red1 0;");
        badChart(1, A + "flash ^a1 1 1;");
        badChart(1, "haze 5^A;");
        badBook(1, "^second1 5;");
        badSentence(1, "^out1");
        badSentence(1, "out ^or1 out");
        // 59 is the ;, 40 the (, 41 the ), 60 the <
        badChart(1, "haze 5 ^0059");
        badChart(1, "haze 5 ^a59");
        badBook(1, "haze 5 ^0059");
        badSentence(1, "^a40 out)");
        badSentence(1, "(out ^a41");
        badSentence(1, "oil ^a60 5");
        badSentence(1, "oil ^0060 5");
    }

    // ---- a CHART

    private static void chartNumbers() {
        C.says("X Y .. (0 to 19 each");
        chartNumber("light a ", 0, 19, " 0 1 red 0;");
        chartNumber("light a 0 ", 0, 19, " 1 red 0;");
        C.says("RANGE .. 1 to 30");
        chartNumber("light a 0 0 ", 1, 30, " red 0;");
        C.says("OIL .. 0 to 999)");
        chartNumber("light a 0 0 1 red ", 0, 999, ";");
        C.says("'flash' LIGHT ON OFF (1 to 20 seconds each");
        chartNumber(A + "flash a ", 1, 20, " 1;");
        chartNumber(A + "flash a 1 ", 1, 20, ";");
        C.says("'from' LIGHT N (0 to 59");
        chartNumber(A + "from a ", 0, 59, ";");
        C.says("'dark' LIGHT OCTANT (0 to 7");
        chartNumber(A + "dark a ", 0, 7, ";");
        C.says("'ship' NAME X Y COURSE EVERY (0 to 19 each; 0 to 8; 1 to 60 seconds)");
        chartNumber("ship s ", 0, 19, " 0 0 1;");
        chartNumber("ship s 0 ", 0, 19, " 0 1;");
        chartNumber("ship s 0 0 ", 0, 8, " 1;");
        chartNumber("ship s 0 0 0 ", 1, 60, ";");
        C.says("'haze' N (1 to 30");
        chartNumber("haze ", 1, 30, ";");
        CoastLights x = Checks.of("light a 19 0 30 red 999;ship s 0 19 8 60;haze 1;");
        C.due("the edges are told", Checks.scene(x), "1 1 1 0 1 0 0 1 999 "
            + "| 19 0 30 2 999 1 0 0 1 0 0 1| | | | | | | | 0 19 8 60 0 0 "
            + "| -1 -1 -1 -1 -1 -1 | -1 -1 -1 -1 -1 -1 | -1 -1 -1 -1 -1 -1 | -1 -1 0");
    }

    private static void chartSorts() {
        C.says("'white', 'red' or 'green', numbered from 1");
        CoastLights x = Checks.of("light a 0 0 1 white 0;light b 0 0 1 red 0;light c 0 0 1 green 0;");
        for (int l = 0; l < 3; l++) {
            C.due("COLOUR", x.light(l, 3), l + 1);
        }
        badChart(1, "light a 0 0 1 ^blue 0;");
        badChart(1, "light a 0 0 1 ^1 0;");
        badChart(1, "light a 0 0 1 ^light 0;");
        C.says("the next ones of its CHARACTER");
        x = Checks.of("light a 0 0 1 red 0;light b 0 0 1 red 0;flash a 1 2;flash b 3 1;flash a 2 1;");
        String row = "100110";
        for (int k = 0; k < row.length(); k++) {
            C.due("character", x.character(0, k), row.charAt(k) - '0');
        }
        C.due("PERIOD of the other", x.light(1, 5), 4);
        C.says("once for each; 0 without");
        Checks.chart(x, A + "light b 0 0 1 red 0;flash a 9 9;flash b 9 9;from a 5;from b 5;");
        C.due("once for each", x.light(0, 6) + x.light(1, 6), 10);
        Checks.chart(x, A + "light b 0 0 1 red 0;flash a 9 9;flash b 9 9;");
        C.due("0 without, though told of the CHART ahead", x.light(0, 6) + x.light(1, 6), 0);
        badChart(3, A + "from a 0;from ^a 0;");
        C.says("OCTANT (0 to 7; each once for each");
        goodChart(A + "light b 0 0 1 red 0;dark a 7;dark a 6;dark a 5;dark a 4;dark a 3;dark a 2;dark a 1;dark a 0;"
            + "dark b 0;dark b 1;dark b 2;dark b 3;dark b 4;dark b 5;dark b 6;dark b 7;");
        for (int octant = 0; octant < 8; octant++) {
            badChart(3, A + "dark a " + octant + ";dark a ^" + octant + ";");
        }
        Checks.chart(x, A);
        C.due("none dark, though told of the CHART ahead", x.light(0, 10), 0);
        C.says("'haze' N (1 to 30; once; 30 without)");
        Checks.chart(x, "haze 3;");
        C.due("told", x.now(4), 3);
        Checks.chart(x, "");
        C.due("without", x.now(4), 30);
        C.due("without, as told", x.count(2), 30);
        badChart(3, "haze 30;^haze 30;");
        C.due("once in this CHART", Checks.chart(x, "haze 4;"), 1);
    }

    private static void names() {
        C.says("NAME: a WORD, none of those told here, in a BOOK or a SENTENCE");
        for (String word : RESERVED) {
            badChart(1, "light ^" + word + " 0 0 1 red 0;");
            badChart(1, "ship ^" + word + " 0 0 0 1;");
            badChart(1, "flash ^" + word + " 1 1;");
            badBook(1, "douse ^" + word + ";");
            badSentence(1, "like ^" + word);
            String longer = word.length() < 7 ? word + "a" : word.substring(1);
            goodChart("light " + longer + " 0 0 1 red 0;ship " + word.substring(1) + "x 0 0 0 1;");
        }
        C.says("told once");
        badChart(3, A + "light ^a 9 9 9 green 9;");
        badChart(3, A + "ship ^a 0 0 0 1;");
        badChart(3, "ship s 0 0 0 1;ship ^s 0 0 0 1;");
        badChart(3, "ship s 0 0 0 1;light ^s 0 0 1 red 0;");
        CoastLights x = Checks.of(A + "ship s 0 0 0 1;");
        C.due("once in each CHART", Checks.chart(x, "ship a 0 0 0 1;light s 0 0 1 red 0;"), 2);
        C.due("a NAME of the CHART ahead is not told", Checks.chart(x, "flash s 1 1;"), -7);
        C.due("not told: its kind", x.fault(), 3);
    }

    private static void mostOfASort() {
        String lights = Checks.eight("0 0 1 red 0");
        String ships = "ship p 0 0 0 1;ship q 0 0 0 1;ship r 0 0 0 1;ship s 0 0 0 1;";
        String flashes = "";
        for (char c = 'a'; c <= 'h'; c++) {
            flashes += ("flash " + c + " 1 1;").repeat(4);
        }
        C.says("8 LIGHTS, 4 'flash' of each, 4 SHIPS at most");
        goodChart(lights + ships + flashes);
        badChart(4, lights + "^light i 0 0 1 red 0;");
        badChart(4, lights + ships + flashes + "^light i 0 0 1 red 0;");
        badChart(4, ships + "^ship t 0 0 0 1;");
        badChart(4, lights + ships + flashes + "^ship t 0 0 0 1;");
        badChart(4, lights + flashes + "flash ^h 1 1;");
        badChart(4, lights + flashes + "flash ^a 1 1;");
        goodChart(A + "flash a 20 20;".repeat(4));
        badChart(4, A + "flash a 20 20;".repeat(4) + "flash ^a 20 20;");
        C.says("numbered from 0 each");
        CoastLights x = Checks.of("ship s 3 0 0 1;light a 5 0 1 red 0;light b 6 0 1 red 0;ship t 4 0 0 1;");
        C.due("LIGHT 0", x.light(0, 0), 5);
        C.due("LIGHT 1", x.light(1, 0), 6);
        C.due("SHIP 0", x.ship(0, 0), 3);
        C.due("SHIP 1", x.ship(1, 0), 4);
        x = Checks.of(lights + ships);
        C.due("LIGHT 7", Checks.light(x, 7, 2), 1);
        C.due("no LIGHT 8", Checks.light(x, 8, 2), Checks.THREW);
        C.due("SHIP 3", x.ship(3, 3), 1);
        C.due("no SHIP 4", x.ship(4, 3), NONE);
        C.says("A CHART is a text of at most 900 bytes: { LINE ; }");
        goodChart("");
        goodChart(blanks(900));
        goodChart(blanks(880) + A);
        goodChart(A + blanks(880));
        badChart(1, A + blanks(880) + "^ ");
        badChart(1, blanks(900) + "^" + A);
        badChart(1, "^;");
        badChart(1, A + "^;");
        badChart(1, "light a 0 0 1 red 0 ^light b 0 0 1 red 0;");
    }

    // ---- a BOOK, a SENTENCE

    private static void books() {
        C.says("A BOOK is a text of at most 400 bytes: { LINE ; }, 40 at most");
        goodBook("");
        goodBook(blanks(400));
        goodBook(blanks(393) + "haze 5;");
        badBook(1, blanks(394) + "haze 5^;");
        badBook(1, blanks(400) + "^ ");
        goodBook("haze 1;".repeat(40));
        goodBook("haze 1;".repeat(40) + blanks(120));
        badBook(4, "haze 1;".repeat(40) + "^haze 1;");
        badBook(1, "^;");
        badBook(1, "haze 5;^;");
        badBook(1, "^light");
        C.says("'fill' LIGHT N (1 to 999)");
        bookNumber("fill a ", 1, 999);
        C.says("'shift' LIGHT N (1 to 59)");
        bookNumber("shift a ", 1, 59);
        C.says("'steer' SHIP COURSE (0 to 8)");
        bookNumber("steer s ", 0, 8);
        C.says("'haze' N (1 to 30)");
        bookNumber("haze ", 1, 30);
        C.says("'second' N (1 to 60)");
        bookNumber("second ", 1, 60);
        C.says("'douse' LIGHT | 'kindle' LIGHT");
        goodBook("douse a;kindle a;");
        badBook(1, "douse a ^1;");
        badBook(1, "douse ^;");
        badBook(3, "kindle ^x;");
        badBook(3, "douse ^s;");
        badBook(3, "fill ^s 1;");
        badBook(3, "shift ^s 1;");
        badBook(3, "steer ^a 1;");
    }

    private static void sentences() {
        C.says("A SENTENCE is a text of at most 200 bytes");
        goodSentence("out" + blanks(197), 1);
        goodSentence(blanks(197) + "out", 1);
        badSentence(1, "out" + blanks(197) + "^ ");
        badSentence(1, blanks(200) + "^out");
        C.says("COND: ALL { 'or' ALL }. ALL: ONE { 'and' ONE }");
        badSentence(1, "^");
        badSentence(1, "(^)");
        badSentence(1, "^or out");
        badSentence(1, "^and out");
        badSentence(1, "out ^out");
        badSentence(1, "out and ^and out");
        badSentence(1, "out or ^or out");
        badSentence(1, "out^)");
        badSentence(1, "out^;");
        badSentence(1, "not ^or out");
        badSentence(1, "^a");
        badSentence(1, "^5");
        C.says("'like' LIGHT .. 'by' SHIP");
        badSentence(3, "like ^x");
        badSentence(3, "like ^s");
        badSentence(3, "by ^a");
        badSentence(1, "by ^5");
        badSentence(1, "like ^(a)");
        C.says("( 'oil' | 'period' | 'range' | 'number' ) SIGN NUMBER (its number). SIGN: < = >");
        for (String what : new String[] {"oil", "period", "range", "number"}) {
            goodSentence(what + "<0", 1);
            goodSentence(what + " = 999", 1);
            goodSentence(what + " >000", 1);
            badSentence(1, what + " > ^1000");
            badSentence(1, what + " ^5");
            badSentence(1, what + " ^;5");
            badSentence(1, what + " <^= 5");
            badSentence(1, what + " ^(= 5)");
            badSentence(1, what + " = ^out");
        }
        C.says("It is said of LIGHTS");
        CoastLights none = new CoastLights();
        C.due("of none", Checks.sentence(none, "not out"), 2);
        C.due("of none", none.said(NONE), 0);
        C.due("of none", none.said(0), NONE);
    }

    private static void sentenceDepth() {
        C.says("20 ONES");
        String twenty = "out" + " or out".repeat(19);
        goodSentence(twenty, 20);
        badSentence(4, twenty + " or ^out");
        goodSentence("out" + " and out".repeat(19), 20);
        badSentence(4, "out" + " and out".repeat(19) + " and ^not out");
        goodSentence("not out" + " and not out".repeat(9), 20);
        badSentence(4, "not out" + " and not out".repeat(9) + " and ^(out)");
        goodSentence("(out)" + "or(out)".repeat(9), 20);
        badSentence(4, "(out)" + "or(out)".repeat(8) + "or not not ^out");
        badSentence(4, "(out)" + "or(out)".repeat(9) + "or ^fixed");
        // all twenty are kept: only the last one, or all but the last one, tell
        CoastLights x = Checks.of(Checks.COAST);
        Checks.sentence(x, "out" + " or out".repeat(18) + " or number=2");
        C.due("the last of twenty", x.said(0), 2);
        Checks.sentence(x, "not out" + " and not out".repeat(8) + " and not fixed");
        C.due("the last of twenty", x.said(NONE), 2);
        C.says("8 within one another");
        goodSentence("not ".repeat(7) + "out", 8);
        badSentence(4, "not ".repeat(8) + "^out");
        goodSentence("(".repeat(7) + "out" + ")".repeat(7), 8);
        badSentence(4, "(".repeat(8) + "^out" + ")".repeat(8));
        badSentence(4, "(".repeat(8) + "^(");
        goodSentence("not(not(not(not out)))", 8);
        badSentence(4, "not(not(not(not(^out))))");
        goodSentence("(((((((out and out and out)))))))or(((((((out)))))))", 18);
        badSentence(4, "(((((((out)))))))or((((((((^out");
        badSentence(4, "(((((((out and not ^out");
    }

    // ---- FAULTS

    /** A LINE, whole; each of its TOKENS but the first is missing once. */
    private static String[] cut(String line) {
        String[] parts = line.split(" ");
        String[] all = new String[parts.length - 1];
        StringBuilder text = new StringBuilder(parts[0]);
        for (int i = 1; i < parts.length; i++) {
            all[i - 1] = text.toString();
            text.append(' ').append(parts[i]);
        }
        return all;
    }

    private static void cannotCome() {
        C.says("1 no TOKEN, or one that can't come (at it");
        for (String line : new String[] {"light b 0 0 1 red 0", "flash a 1 1", "from a 0", "dark a 0", "ship s 0 0 0 1", "haze 5"}) {
            goodChart(A + line + ";");
            for (String ahead : cut(line)) {
                badChart(1, A + ahead + "^;");
                badChart(1, A + ahead + " ^; haze 0;");
                badChart(1, A + ahead + " ^( 0");
                badChart(1, A + ahead + " ^light 0");
            }
            badChart(1, A + line + " ^5;");
            badChart(1, A + line + " ^x;");
            badChart(1, A + line + " ^haze");
            badChart(1, A + line + " ^>;");
        }
        for (String line : new String[] {"douse a", "kindle a", "fill a 5", "shift a 5", "steer s 5", "haze 5", "second 5"}) {
            goodBook(line + ";");
            for (String ahead : cut(line)) {
                badBook(1, ahead + "^;");
                badBook(1, ahead + " ^;haze 0;");
                badBook(1, ahead + " ^) 0");
                badBook(1, ahead + " ^out");
            }
            badBook(1, line + " ^5;");
            badBook(1, line + " ^x;");
            badBook(1, line + " ^haze");
            badBook(1, line + " ^=;");
        }
        for (String one : new String[] {"out", "shining", "fixed", "like a", "by s", "oil = 5", "not out", "( out )"}) {
            for (String ahead : cut(one)) {
                badSentence(1, ahead + "^;");
                badSentence(1, ahead + " ^light");
            }
            badSentence(1, one + " ^x");
            badSentence(1, one + " ^5");
            badSentence(1, one + " ^not out");
            badSentence(1, one + "^(out)");
        }
        badChart(1, "^x");
        badChart(1, "^5;");
        badChart(1, "light ^5 0 0 1 red 0;");
        badChart(1, "light a ^b 0 1 red 0;");
        badChart(1, "light a 0 0 1 ^5 0;");
        badChart(1, "^douse a;");
        badChart(1, "^out");
        badBook(1, "^flash a 1 1;");
        badBook(1, "^or");
        for (String ahead : new String[] {"not", "(", "like", "by", "oil", "oil =", "out or", "out and"}) {
            badSentence(1, ahead + " ^or out");
            badSentence(1, ahead + " ^and out");
            badSentence(1, ahead + " ^)");
        }
        badSentence(1, "^douse");
        badSentence(1, "^white");
    }

    private static void faultOrder() {
        C.says("FAULTS, the first along the text");
        badChart(2, "haze ^0;haze 0;light light");
        badChart(1, "^?haze 0;");
        badChart(3, "haze 5;^haze 0 ?");
        badChart(3, A + "from a 5;from ^a 60");
        badChart(2, "light a ^20 20 0 blue 1000");
        badChart(3, A + "light ^a 20");
        badBook(2, "haze ^31;douse x;");
        badBook(3, "douse ^x ?");
        badSentence(3, "like ^x or or");
        badSentence(1, "out or ^or like x");
        C.says("of one TOKEN the least");
        String full = "haze 1;".repeat(40);
        badBook(1, full + "^red");
        badBook(1, full + "^5");
        String twenty = "out" + " or out".repeat(19);
        badSentence(1, twenty + " or ^red");
        badSentence(1, twenty + " or ^");
        badSentence(1, "(".repeat(8) + "^)");
        badSentence(1, "not ".repeat(8) + "^and");
        badChart(3, A + "flash a 1 1;".repeat(4) + "flash ^b 1 1;");
        badChart(1, A + "flash a 1 1;".repeat(4) + "flash ^5 1 1;");
        badChart(1, Checks.eight("0 0 1 red 0") + "^lights i");
        badChart(2, A + "dark a 1;dark a ^8;");
        badChart(1, A + "dark a 1;dark a ^0001;");
    }

    private static void faultAtTheEnd() {
        C.says("(at it; the end: how many bytes there are");
        for (String text : new String[] {"light", "light a", "light a 0", "light a 0 0", "light a 0 0 1",
            "light a 0 0 1 red", "light a 0 0 1 red 0", "flash", "from", "dark", "ship", "ship s 0 0 0", "haze", "haze 5",
            A + "flash a", A + "flash a 1", A + "flash a 1 1", A + "from a", A + "dark a", A + "haze"}) {
            badChart(1, text + "^");
            badChart(1, text + " \n ^");
        }
        for (String text : new String[] {"douse", "douse a", "fill a", "fill a 1", "steer", "steer s", "haze", "second",
            "second 1", "second 1;shift b 1"}) {
            badBook(1, text + "^");
            badBook(1, text + "\n\n^");
        }
        for (String text : new String[] {"", "not", "(", "(out", "out or", "out and", "like", "by", "oil", "number ="}) {
            badSentence(1, text + "^");
            badSentence(1, text + "  ^");
        }
        badChart(1, blanks(896) + "haze^");
        badBook(1, blanks(396) + "haze^");
        badSentence(1, blanks(200) + "^");
    }

    private static void faultAtTheMost() {
        C.says("the most bytes told, if there are more and no FAULT is ahead");
        badChart(1, blanks(900) + "^ ");
        badChart(1, blanks(900) + "^" + blanks(40));
        badChart(1, "haze 5;" + blanks(893) + "^ ");
        badChart(1, blanks(892) + "haze 5 ;^haze 0;");
        badChart(1, blanks(893) + "haze 5 ^;");
        badChart(1, blanks(895) + "haze ^5;");
        badChart(1, blanks(900) + "^??");
        badBook(1, blanks(400) + "^ ");
        badBook(1, blanks(400) + "^" + blanks(540));
        badBook(1, "haze 1;".repeat(40) + blanks(120) + "^haze 1;");
        badSentence(1, "out" + blanks(197) + "^" + blanks(740));
        badSentence(1, "out or" + blanks(194) + "^out");
        badSentence(1, blanks(200) + "^");
        badChart(1, blanks(899) + "^? ");
        badChart(1, "^?" + blanks(930));
        badChart(2, "haze ^31" + blanks(930));
        badBook(3, "douse ^x" + blanks(930));
        badSentence(3, "like ^x" + blanks(930));
        badSentence(4, "not ".repeat(8) + "^out" + blanks(200));
    }

    private static void readWhole() {
        C.says("TOKENS that begin ahead of it are read whole");
        badChart(1, blanks(894) + "haze 3^0;");
        badChart(2, blanks(894) + "haze ^31;");
        badChart(1, blanks(894) + "haze ^3a;");
        badChart(1, blanks(894) + "haze ^3000;");
        badChart(1, blanks(897) + "haz^e 5;");
        badChart(1, blanks(897) + "^hazel 5;");
        badChart(1, blanks(897) + "^haze5;");
        String ab = "light ab 0 0 1 red 0;";
        badChart(1, ab + blanks(872) + "flash a^b 1 1;");
        badChart(3, ab + blanks(872) + "flash ^ac 1 1;");
        badChart(3, ab + blanks(872) + "light ^ab 0");
        badChart(1, ab + blanks(872) + "light a^c 0");
        badChart(1, ab + blanks(872) + "light ^abcdefgh");
        badChart(1, blanks(899) + "^hazes");
        badBook(1, blanks(394) + "haze 3^0;");
        badBook(2, blanks(394) + "haze ^31;");
        badBook(1, blanks(399) + "h^aze 5;");
        badBook(1, blanks(399) + "^hazes;");
        badSentence(1, blanks(195) + "oil=5^5");
        badSentence(1, blanks(195) + "oil=^5a");
        badSentence(1, blanks(195) + "oil=^5555");
        badSentence(1, blanks(198) + "ou^t");
        badSentence(1, blanks(198) + "^outs");
    }

    private static void faultKinds() {
        C.says("2 a NUMBER that is not as told (at it)");
        badChart(2, A + "dark a ^999;");
        badBook(2, "second ^000;");
        C.says("3 a NAME told twice, not told, or of another sort");
        badChart(3, A + "ship ^a 0 0 0 1;");
        badChart(3, "flash ^a 1 1;" + A);
        badChart(3, "from ^a 1;");
        badChart(3, "dark ^a 1;");
        badChart(3, "ship s 0 0 0 1;flash ^s 1 1;");
        badChart(3, "ship s 0 0 0 1;from ^s 1;");
        badChart(3, "ship s 0 0 0 1;dark ^s 1;");
        C.says("'from' of a LIGHT told again (at the LIGHT), an OCTANT told again (at it), 'haze' told again (at the WORD)");
        badChart(3, A + "from a 0;from ^a ?");
        badChart(3, A + "dark a 0;dark a ^0?");
        badChart(3, "haze 30;^haze ?");
        badChart(3, "haze 30;\n ^haze 99;");
        C.says("4 one more than there may be of a sort (a 'flash': at the LIGHT)");
        badChart(4, Checks.eight("0 0 1 red 0") + "^light");
        badChart(4, Checks.eight("0 0 1 red 0") + "\n ^light h 99");
        badChart(4, Checks.eight("0 0 1 red 0") + "^light or 0");
        badChart(4, "ship p 0 0 0 1;ship q 0 0 0 1;ship r 0 0 0 1;ship s 0 0 0 1;^ship");
        badChart(4, A + "flash a 1 1;".repeat(4) + "flash ^a");
        badChart(4, A + "flash a 1 1;".repeat(4) + "flash ^a 0 ?");
        C.says("a 41st LINE of a BOOK (at the LINE's first WORD), a 21st ONE, a ninth within (at its first TOKEN)");
        badBook(4, "haze 1;".repeat(40) + "\n ^douse");
        badBook(4, "haze 1;".repeat(40) + "^douse x;");
        String twenty = "out" + " or out".repeat(19);
        badSentence(4, twenty + " and ^like x");
        badSentence(4, twenty + " and ^( ?");
        badSentence(4, twenty + " and ^not");
        badSentence(4, twenty + " and ^oil ?");
        badSentence(4, "not ".repeat(8) + "^like x");
        badSentence(4, "not ".repeat(8) + "^not");
    }

    // ---- the tape

    private static void tape() {
        C.says("NONE, and none come, if it would have more than 940");
        CoastLights x = new CoastLights();
        for (int i = 1; i <= 47; i++) {
            C.due("feed", x.feed(0x20202020, 0x20202020, 0x20202020, 0x20202020, 0x20202020), 20 * i);
        }
        C.due("over 940", x.feed(0x3f3f3f3f, 0, 0, 0, 0), NONE);
        C.due("none come", x.count(3), 940);
        C.due("to 921", x.end(921), true);
        C.due("over 940 by one", x.feed(0x3f3f3f3f, 0, 0, 0, 0), NONE);
        C.due("none come", x.count(3), 921);
        C.due("to 920", x.end(920), true);
        C.due("just 940", x.feed(0x3f3f3f3f, 0, 0, 0, 0), 940);
        x.end(900);
        C.due("none came ahead of 900", x.chart(), 0);
        C.says("of each number the highest first");
        x.feed(0x68617a65, 0x20353b20, 0x20202020, 0x20202020, 0x20202020);
        C.due("'haze 5;'", x.chart(), 1);
        x.feed(0x20202020, 0xff202020, 0, 0, 0);
        C.due("a high byte first", x.chart(), -5);
        x.feed(0x20202020, 0x202020ff, 0, 0, 0);
        C.due("a high byte last", x.chart(), -8);
        x.feed(Integer.MAX_VALUE, 0, 0, 0, 0);
        C.due("the greatest number", x.chart(), -1);
        C.says("false, if it has not so many, or n is below 0");
        C.due("of an empty tape", x.end(0), true);
        C.due("of an empty tape", x.end(1), false);
        C.due("of an empty tape", x.end(-1), false);
        x.feed(0x20202020, 0x20202020, 0x20202020, 0x20202020, 0x20202020);
        C.due("one more", x.end(21), false);
        C.due("below 0", x.end(-1), false);
        C.due("the least", x.end(Integer.MIN_VALUE), false);
        C.due("the greatest", x.end(Integer.MAX_VALUE), false);
        C.due("it stays", x.count(3), 20);
        C.due("all", x.end(20), true);
        C.due("all but one", x.end(19), true);
        C.due("what is cut is gone", x.end(20), false);
        C.due("none", x.end(0), true);
        C.due("none", x.count(3), 0);
        C.says("The tape has its first n bytes alone");
        // 'outout ...' cut behind three
        x.feed(0x6f75746f, 0x75746f75, 0x746f7574, 0x6f75746f, 0x75746f75);
        x.end(3);
        C.due("out", x.sentence(), 1);
        // 'haze 300 ...' cut behind six, and a ; behind that
        x.feed(0x68617a65, 0x20333030, 0x30303030, 0x30303030, 0x30303030);
        x.end(7);
        C.due("haze 30", x.chart(), -8);
        x.feed(0x01010104, 0x04040404, 0x04040404, 0x04040404, 0x04040404);
        x.end(3);
        C.due("no byte of 4", x.fits(), 0);
        for (int i = 0; i < 47; i++) {
            x.feed(0x61616161, 0x61616161, 0x61616161, 0x61616161, 0x61616161);
        }
        C.due("940 letters", x.chart(), -1);
        for (int i = 0; i < 47; i++) {
            x.feed(0x20202020, 0x20202020, 0x20202020, 0x20202020, 0x20202020);
        }
        C.due("940 blanks", x.chart(), -901);
    }

    private static void tapeIsEmptied() {
        C.says("The tape (empty then, with a FAULT, too, here and below)");
        CoastLights x = Checks.of(Checks.COAST);
        String[] charts = {Checks.COAST, "", "?", "haze 5"};
        for (String text : charts) {
            Checks.chart(x, text);
            C.due("chart " + text, x.count(3), 0);
        }
        for (String text : new String[] {"", "haze 5;", "haze 5;haze 5;", "?", "second"}) {
            for (int lives = 0; lives < 2; lives++) {
                Checks.book(x, text, lives);
                C.due("book " + text, x.count(3), 0);
            }
        }
        for (String text : new String[] {"", "out", "?", "like x"}) {
            Checks.sentence(x, text);
            C.due("sentence " + text, x.count(3), 0);
        }
        int[][] rows = {{1}, {3, 3}, {4}, new int[40], new int[41], {0, 0, 0, 255}};
        for (int[] row : rows) {
            Checks.fits(x, row);
            C.due("fits", x.count(3), 0);
        }
        int[][] pairs = {{0, 0}, {0, 0, 0, 1}, {0}, {9, 9}, new int[12], new int[14]};
        for (int[] pair : pairs) {
            Checks.fix(x, pair);
            C.due("fix", x.count(3), 0);
        }
        C.says("-1000: another lives (the tape stays)");
        for (int lives : new int[] {2, -1, 1000, Integer.MIN_VALUE, Integer.MAX_VALUE}) {
            Checks.lay(x, "haze 7;");
            C.due("book", x.book(lives), -1000);
            C.due("tape", x.count(3), 7);
        }
        C.due("the BOOK is still there", x.book(1), NONE);
        C.due("and is lived", x.now(4), 7);
    }

    private static void faultStaysOut() {
        C.says("-1 less the place of a FAULT: it stays");
        CoastLights x = Checks.of(Checks.COAST);
        x.seconds(3);
        x.douse(1);
        x.haze(9);
        Checks.sentence(x, "out or fixed");
        x.tag(0);
        x.change();
        String scene = Checks.scene(x);
        for (String text : new String[] {"?", "light z 3 3 3 red 3;flash z 1 1;ship y 3 3 3 3;haze 3;?", "haze 31;",
            Checks.eight("3 3 3 red 3") + "light", "light z 3 3 3 red 3"}) {
            C.due("chart " + text, Checks.chart(x, text) < 0, true);
            C.due("after " + text, Checks.scene(x), scene);
        }
        C.says("-2 less the place of a FAULT");
        for (String text : new String[] {"?", "haze 3;douse a;second 60;?", "haze 3;haze", "second 60;second 61;"}) {
            C.due("book " + text, Checks.book(x, text, 1) < -1, true);
            C.due("after " + text, Checks.scene(x), scene);
        }
        C.says("The tape is the SENTENCE now .. -1 less the place of a FAULT: it stays");
        for (String text : new String[] {"", "?", "shining or", "shining?", "not not not like x", "shining shining"}) {
            C.due("sentence " + text, Checks.sentence(x, text) < 0, true);
            C.due("after " + text, Checks.scene(x), scene);
        }
        C.due("all three acts can be undone", x.undo(), 2);
    }

    private static void faultOfTheLatest() {
        C.says("0 without one and ahead of any");
        CoastLights x = new CoastLights();
        C.due("ahead of any", x.fault(), 0);
        Checks.book(x, "", 7);
        C.due("ahead of any", x.fault(), 0);
        C.says("The kind of the FAULT of the latest chart(), book() or sentence()");
        Checks.chart(x, "?");
        C.due("chart", x.fault(), 1);
        Checks.book(x, "haze 0;", 0);
        C.due("book", x.fault(), 2);
        Checks.sentence(x, "like x");
        C.due("sentence", x.fault(), 3);
        Checks.sentence(x, "out");
        C.due("a good sentence", x.fault(), 0);
        Checks.sentence(x, "like x");
        Checks.book(x, "haze 5;", 0);
        C.due("a good book", x.fault(), 0);
        Checks.book(x, "haze 1;".repeat(40) + "haze 1;", 1);
        C.due("a long book", x.fault(), 4);
        Checks.chart(x, A);
        C.due("a good chart", x.fault(), 0);
        C.says("(a book() of -1000 leaves it)");
        Checks.book(x, "douse x;", 1);
        Checks.book(x, "haze 5;", 2);
        C.due("after a FAULT", x.fault(), 3);
        x.book(0);
        Checks.book(x, "?", -1);
        C.due("after none", x.fault(), 0);
        C.says("the latest chart(), book() or sentence()");
        Checks.chart(x, "haze 0;");
        Checks.fits(x, 9);
        Checks.fix(x, 9);
        x.image(0);
        x.restore(0);
        x.seconds(1);
        x.undo();
        C.due("it stays", x.fault(), 2);
        Checks.book(x, "haze 30;", 1);
        C.due("WRONG is no FAULT", x.fault(), 0);
    }
}
