/** The edges of a text, sentence by sentence ('Terms' of the document); the answers were worked out by hand. */
public final class TextEdgeTest {
    private static final String TELLS = "row field loom weaves dries gathers store gusts seed";
    private static final String VARS = "shed warp pick water needs drowns day which wide";
    private static final String WORDS = TELLS + " if then else " + VARS;
    private static final String ALL = WORDS + " name 7 ; = + - * / < ( ) ? abcdefghi 12345";
    private static final String UNIT = "7 ( " + VARS;
    private static final String MORE = "+ - * / ";
    private static final String FIELDS = "field p 1 2;field q 1 2;field r 1 2;field s 1 2;field t 1 2;field u 1 2;";
    private static final String LOOMS = "loom i 1 2;loom j 1 2;loom k 1 2;loom l 1 2;";

    private static final Check CHECK = new Check();

    private TextEdgeTest() { }

    public static void main(String[] args) {
        lengths();
        blanks();
        names();
        numbers();
        signs();
        longest();
        grammar();
        rows();
        fields();
        looms();
        laws();
        lastOnes();
        firstFault();
        room();
        laterFaults();
        faultyTexts();
        wholeTexts();
        CHECK.end();
    }

    private static String blank(int many) {
        return " ".repeat(many);
    }

    private static void lengths() {
        CHECK.says("A TEXT has 2,000 bytes at most.");
        RainLoom x = new RainLoom();
        CHECK.due("read of 2,000 bytes", Texts.read(x, "row o;" + blank(1988) + "row o;"), 0);
        CHECK.due("its last ROW", x.count(1), 2);
        CHECK.reads("seed 1;" + blank(1992) + "?", 1, 1999);
        CHECK.says("(a byte; the text's end: its length)");
        CHECK.reads(blank(1995) + "row o", 1, 2000);
        CHECK.reads(blank(1994) + "row o", 1, 1999);
        CHECK.reads(blank(1994) + "seed 1", 1, 2000);
        CHECK.reads("row" + blank(1997), 1, 2000);
        CHECK.reads("row a;" + blank(1994), 6, 2000);
        CHECK.reads("row a;", 6, 6);
        CHECK.reads("row", 1, 3);
        // What was taken back, or what an older text had there, is not read.
        RainLoom y = new RainLoom();
        Texts.read(y, "?".repeat(40));
        int[] dues = {9, 12, 3, 0};
        String[] texts = {"seed 12345", "row abcdefghi", "row?", "?"};
        for (int i = 0; i < dues.length; i++) {
            int[] f = Texts.feeds(texts[i])[0];
            y.feed(f[0], f[1], f[2], f[3], f[4]);
            y.back(21 - texts[i].length());
            CHECK.due("read of " + texts[i] + " but the last", y.read(), i == 3 ? 0 : 1);
            CHECK.due("place of " + texts[i] + " but the last", y.place(), i == 3 ? -1 : dues[i]);
        }
        CHECK.says("text: {TELL}.");
        CHECK.good("");
        CHECK.good(blank(2000));
    }

    private static boolean isBlank(int b) {
        return b == 9 || b == 10 || b == 13 || b == 32;
    }

    private static boolean isLetter(int b) {
        return b >= 97 && b <= 122;
    }

    private static boolean isDigit(int b) {
        return b >= 48 && b <= 57;
    }

    private static void blanks() {
        CHECK.says("with blanks (9, 10, 13, 32) between or not");
        for (int b = 0; b < 256; b++) {
            String text = "seed" + (char) b + "1;";
            if (isBlank(b) || isDigit(b)) {
                CHECK.good(text);
            } else {
                CHECK.reads(text, 1, isLetter(b) ? 0 : 4);
            }
            String two = "seed 1;" + (char) b + "seed 2;";
            CHECK.reads(two, isBlank(b) ? 0 : 1, isBlank(b) ? -1 : 7);
            String last = "seed 1;" + (char) b;
            CHECK.reads(last, isBlank(b) ? 0 : 1, isBlank(b) ? -1 : 7);
        }
        CHECK.good("row\too\n;\rfield p 1\t2;");
        CHECK.good("weaves=if(1)<2then 3else 4;");
        CHECK.good("loom l1 2;store 3;gusts 4;seed 5;");
    }

    private static void names() {
        CHECK.says("NAMES (letters a .. z, 8 at most, none of the words in quotes)");
        for (char c = 'a'; c <= 'z'; c++) {
            CHECK.good("field " + c + " 1 2;");
            CHECK.good("loom " + String.valueOf(c).repeat(8) + " 1 2;");
            CHECK.reads("loom " + String.valueOf(c).repeat(9) + " 1 2;", 1, 5);
        }
        for (String word : WORDS.split(" ")) {
            CHECK.reads("row " + word + ";", 1, 4);
            CHECK.reads("field " + word + " 1 2;", 1, 6);
            CHECK.reads("loom " + word + " 1 2;", 1, 5);
            CHECK.good("field " + word + "x 1 2; loom " + word.substring(1) + " 3 4;");
        }
        CHECK.reads("row ooooooooo;", 1, 4);
        CHECK.good("row oooooooo;");
        CHECK.reads("field p_q 1 2;", 1, 7);
        CHECK.reads("field Pq 1 2;", 1, 6);
        CHECK.reads("field pQ 1 2;", 1, 7);
    }

    private static void numbers() {
        CHECK.says("INTS (1 to 4 digits)");
        CHECK.good("seed 0; seed 00; seed 000; seed 0000; seed 9; seed 99; seed 999; seed 9999;");
        CHECK.reads("seed 00000;", 1, 5);
        CHECK.reads("seed 10000;", 1, 5);
        CHECK.reads("seed ;", 1, 5);
        CHECK.reads("store 4294967296;", 1, 6);
        CHECK.reads("field p 00001 2;", 1, 8);
        CHECK.reads("field p 1 00002;", 1, 10);
        CHECK.reads("loom l 00001 2;", 1, 7);
        CHECK.reads("loom l 1 00002;", 1, 9);
        CHECK.good("weaves = 9999;");
        CHECK.reads("weaves = 10000;", 1, 9);
        CHECK.reads("weaves = 1 + 00001;", 1, 13);
        CHECK.due("store 0042", Texts.of("store 0042;").count(5), 42);
    }

    private static void signs() {
        CHECK.says("SIGNS ; = + - * / < ( )");
        for (int b = 0; b < 256; b++) {
            String text = "weaves = 1 " + (char) b + " 2;";
            if (b < 128 && "+-*/".indexOf(b) >= 0) {
                CHECK.good(text);
            } else {
                CHECK.reads(text, 1, isBlank(b) || b == ';' ? 13 : 11);
            }
        }
        CHECK.good("weaves = if (1 + 2 - 3) * 4 / 5 < 6 then 7 else 8;");
    }

    private static void longest() {
        CHECK.says("TOKENS, the longest that can be");
        CHECK.reads("rowo;", 1, 0);
        CHECK.reads("weaves = shedwarp;", 1, 9);
        CHECK.reads("weaves = iff 1 < 2 then 3 else 4;", 1, 9);
        CHECK.reads("weaves = if 1 < 2 then3 else4;", 0, -1);
        CHECK.reads("weaves = if 1 < 2 thenx 3 else 4;", 1, 18);
        CHECK.reads("seed 1 2;", 1, 7);
        CHECK.good("seed 12;");
        CHECK.good("field p1 2;");
        CHECK.good("field p12 3;loom q8 4;");
        CHECK.says("A longer one, all else, is no TOKEN.");
        CHECK.reads("field abcdefghi 1 2;", 1, 6);
        CHECK.reads("field " + "abcdefgh".repeat(2) + " 1 2;", 1, 6);
        CHECK.reads("weaves = 12345;", 1, 9);
        CHECK.reads("weaves = 12341234;", 1, 9);
        CHECK.reads("field p.q 1 2;", 1, 7);
        CHECK.reads("seed 1.5;", 1, 6);
    }

    /** Texts of so many TOKENS that tell nothing of a sort that there may not be many of. */
    private static String filler(int tokens) {
        int laws = tokens % 3;
        return "weaves=1;".repeat(laws) + "seed 1;".repeat((tokens - 4 * laws) / 3);
    }

    /** Behind a beginning (with a blank between any two TOKENS of it) come only those that are fine. */
    private static void follows(String beginning, String fine) {
        String begin = beginning.isEmpty() ? "" : beginning + " ";
        int tokens = beginning.isEmpty() ? 0 : beginning.split(" ").length;
        for (String next : ALL.split(" ")) {
            boolean goesOn = (" " + fine + " ").contains(" " + next + " ");
            String text = begin + next;
            CHECK.says("1 SYNTAX: a TOKEN, or what is none, with which no text goes on.");
            if (!goesOn) {
                CHECK.reads(text, 1, begin.length());
            } else if (next.equals(";")) {
                CHECK.good(text);
            } else {
                CHECK.reads(text, 1, text.length());
            }
            CHECK.says("of one place the least");
            String full = filler(400 - tokens) + begin;
            CHECK.reads(full + next, goesOn ? 2 : 1, full.length());
        }
        boolean ends = beginning.isEmpty() || beginning.endsWith(";");
        CHECK.reads(begin, ends ? 0 : 1, ends ? -1 : begin.length());
        CHECK.reads(filler(400 - tokens) + begin, ends ? 0 : 1, ends ? -1 : (filler(400 - tokens) + begin).length());
    }

    private static void grammar() {
        follows("", TELLS);
        follows("row", "name");
        follows("row oo", ";");
        follows("row oo ;", TELLS);
        for (String what : new String[] {"field", "loom"}) {
            follows(what, "name");
            follows(what + " p", "7");
            follows(what + " p 1", "7");
            follows(what + " p 1 2", ";");
            follows(what + " p 1 2 ;", TELLS);
        }
        for (String what : new String[] {"store", "gusts", "seed"}) {
            follows(what, "7");
            follows(what + " 1", ";");
            follows(what + " 1 ;", TELLS);
        }
        for (String what : new String[] {"weaves", "dries", "gathers"}) {
            follows(what, "=");
            followsIn(what + " =", "if " + UNIT, ";");
            followsIn(what + " = if", UNIT, "<");
            followsIn(what + " = if 1 <", UNIT, "then");
            followsIn(what + " = if 1 < 2 then", UNIT, "else");
            followsIn(what + " = if 1 < 2 then 3 else", "if " + UNIT, ";");
        }
        for (String var : VARS.split(" ")) {
            follows("dries = " + var, MORE + ";");
        }
    }

    /** An E comes next, and behind it what ends it. */
    private static void followsIn(String begin, String first, String end) {
        follows(begin, first);
        follows(begin + " 1", MORE + end);
        follows(begin + " (", UNIT);
        follows(begin + " ( 1", MORE + ")");
        follows(begin + " ( 1 )", MORE + end);
        for (String sign : MORE.trim().split(" ")) {
            follows(begin + " 1 " + sign, UNIT);
            follows(begin + " 1 " + sign + " 2", MORE + end);
        }
    }

    private static void rows() {
        CHECK.says("ROWS, 6 at most, of the land from north to south");
        CHECK.due("6 ROWS", Texts.of("row o;".repeat(6)).count(1), 6);
        CHECK.reads("row o;".repeat(7), 2, 36);
        CHECK.says("all as long as the first one");
        for (int n = 1; n <= 8; n++) {
            for (int m = 1; m <= 8; m++) {
                String text = "row " + "o".repeat(n) + ";row " + "o".repeat(m) + ";";
                CHECK.reads(text, n == m ? 0 : 6, n == m ? -1 : n + 9);
            }
        }
        CHECK.reads("row oo;row oo;row o;", 6, 18);
        CHECK.reads("row oo;row o;row oo;row o;", 6, 11);
        CHECK.due("8 CELLS in a ROW", Texts.of("row oooooooo;").count(0), 8);
        CHECK.says("each letter a CELL from west to east: of FIELD 0 (a), 1 (b), .. 5 (f), or of none (o)");
        RainLoom x = Texts.of("row abcdefo;row ofedcba;" + FIELDS);
        for (int i = 0; i < 6; i++) {
            CHECK.due("cell(" + i + ", 0, 0)", x.cell(i, 0, 0), i);
            CHECK.due("cell(" + (6 - i) + ", 1, 0)", x.cell(6 - i, 1, 0), i);
        }
        CHECK.due("cell(6, 0, 0)", x.cell(6, 0, 0), -2);
        CHECK.due("cell(0, 1, 0)", x.cell(0, 1, 0), -2);
        CHECK.says("(at it) a ROW with a letter that is none of these");
        for (char c = 'a'; c <= 'z'; c++) {
            boolean fine = c <= 'f' || c == 'o';
            CHECK.reads("row " + c + ";" + FIELDS, fine ? 0 : 6, fine ? -1 : 4);
            CHECK.reads("row oooooooo; row ooooooo" + c + ";" + FIELDS, fine ? 0 : 6, fine ? -1 : 18);
        }
        CHECK.says("X from the west, Y from the north, from 0 on.");
        RainLoom y = Texts.of("row abo;row bbb;field p 1 2;field q 1 2;");
        CHECK.due("cell(0, 0, 0)", y.cell(0, 0, 0), 0);
        CHECK.due("cell(1, 0, 0)", y.cell(1, 0, 0), 1);
        CHECK.due("cell(0, 1, 0)", y.cell(0, 1, 0), 1);
        CHECK.due("cell(-1, 0, 0)", y.cell(-1, 0, 0), -1);
        CHECK.due("cell(0, -1, 0)", y.cell(0, -1, 0), -1);
    }

    private static void fields() {
        CHECK.says("FIELDS, 6 at most");
        CHECK.due("6 FIELDS", Texts.of(FIELDS).count(2), 6);
        CHECK.reads(FIELDS + "field v 1 2;", 2, FIELDS.length());
        CHECK.says("how much water each CELL NEEDS 0 .. 99");
        CHECK.due("NEEDS 0", Texts.of("row aa;field p 0 1;").field(0, 4), 0);
        CHECK.due("NEEDS 99", Texts.of("row aa;field p 99 1;").field(0, 4), 198);
        CHECK.reads("field p 100 1;", 5, 8);
        CHECK.reads("field p 9999 1;", 5, 8);
        CHECK.says("more than how much DROWNS it 0 .. 999)");
        RainLoom x = Texts.of("row a;field p 0 0;loom l 1 0;");
        CHECK.due("0 is not more than DROWNS 0", x.cell(0, 0, 3), 0);
        x.fall(0, 1, 1, 0, 0);
        CHECK.due("1 is more than DROWNS 0", x.cell(0, 0, 3), 1);
        CHECK.good("field p 1 999;");
        CHECK.reads("field p 1 1000;", 5, 10);
        CHECK.reads("field p 1 9999;", 5, 10);
        CHECK.good("field p 99 0;");
    }

    private static void looms() {
        CHECK.says("LOOMS, 4 at most");
        CHECK.due("4 LOOMS", Texts.of(LOOMS).count(3), 4);
        CHECK.reads(LOOMS + "loom m 1 2;", 2, LOOMS.length());
        CHECK.says("how WIDE 1 .. 8");
        for (int n = 0; n <= 12; n++) {
            boolean fine = n >= 1 && n <= 8;
            CHECK.reads("loom l " + n + " 0;", fine ? 0 : 5, fine ? -1 : 7);
        }
        CHECK.due("WIDE 1", Texts.of("loom l 1 0;").loom(0, 0), 1);
        CHECK.due("WIDE 8", Texts.of("loom l 8 0;").loom(0, 0), 8);
        CHECK.says("at which PICK it stands 0 .. 99)");
        CHECK.due("PICK 0", Texts.of("loom l 1 0;").loom(0, 1), 0);
        CHECK.due("PICK 99", Texts.of("loom l 1 99;").loom(0, 1), 99);
        CHECK.reads("loom l 1 100;", 5, 9);
        CHECK.reads("loom l 1 9999;", 5, 9);
        CHECK.says("numbered each from 0 on as they stand");
        RainLoom x = Texts.of("loom l 3 9;field p 7 8;loom k 2 5;row ba;field j 6 8;loom i 4 1;");
        CHECK.due("LOOM 0", x.loom(0, 0), 3);
        CHECK.due("LOOM 1", x.loom(1, 0), 2);
        CHECK.due("LOOM 2", x.loom(2, 0), 4);
        CHECK.due("no LOOM 3", x.loom(3, 0), -1);
        CHECK.due("FIELD 0", x.field(0, 4), 7);
        CHECK.due("FIELD 1", x.field(1, 4), 6);
        CHECK.due("no FIELD 2", x.field(2, 4), -1);
    }

    private static void laws() {
        CHECK.says("LAWS: WEAVES (1), DRIES (1), GATHERS (0), if not told; the last one.");
        RainLoom x = Texts.of("row o;loom l 8 0;store 50;");
        CHECK.due("WEAVES", x.thread(0, 7, 9999), 1);
        x.fall(0, 1, 1, 0, 0);
        x.fall(0, 1, 1, 0, 0);
        x.days(1);
        CHECK.due("DRIES", x.cell(0, 0, 1), 1);
        CHECK.due("GATHERS", x.count(5), 48);
        RainLoom y = Texts.of("weaves = 9; dries = 7; gathers = 5; row o; loom l 1 0; weaves = 8; dries = 3; gathers = 4; store 50;"
            + "gathers = 2; dries = 5; weaves = 6;");
        y.fall(0, 1, 1, 0, 0);
        CHECK.due("the last WEAVES", y.cell(0, 0, 1), 6);
        y.days(1);
        CHECK.due("the last DRIES", y.cell(0, 0, 1), 1);
        CHECK.due("the last GATHERS", y.count(5), 46);
        RainLoom z = Texts.of("weaves = 2 * 3 + 1; weaves = 5; loom l 1 0;");
        CHECK.due("a short LAW behind a long one", z.thread(0, 0, 0), 5);
        Texts.read(z, "loom l 1 0;");
        CHECK.due("no LAW behind a text with one", z.thread(0, 0, 0), 1);
    }

    private static void lastOnes() {
        CHECK.says("STORE 0 .. 9999 (100), GUSTS 0 .. 100 (0), SEED 0 .. 9999 (0): the last one.");
        CHECK.due("no STORE told", Texts.of("").count(5), 100);
        CHECK.due("STORE 0", Texts.of("store 0;").count(5), 0);
        CHECK.due("STORE 9999", Texts.of("store 9999;").count(5), 9999);
        CHECK.due("the last STORE", Texts.of("store 9; store 0; store 7;").count(5), 7);
        RainLoom told = Texts.of("store 9;");
        Texts.read(told, "seed 1;");
        CHECK.due("no STORE behind a text with one", told.count(5), 100);
        CHECK.good("gusts 0;");
        CHECK.good("gusts 100;");
        CHECK.reads("gusts 101;", 5, 6);
        CHECK.reads("gusts 9999;", 5, 6);
        CHECK.reads("gusts 101;gusts 1;", 5, 6);
        CHECK.reads("gusts 1;gusts 101;", 5, 14);
        // LOT 100 of SEED 13 is 0: one GUST would be enough.
        CHECK.due("no GUSTS told", blown("seed 13;", 0), false);
        CHECK.due("GUSTS 0", blown("seed 13; gusts 0;", 0), false);
        CHECK.due("GUSTS 1", blown("seed 13; gusts 1;", 0), true);
        CHECK.due("the last GUSTS, 0", blown("gusts 100; gusts 0;", 0), false);
        CHECK.due("the last GUSTS, 100", blown("gusts 0; gusts 100;", 0), true);
        // LOT 100 of LOOM 0 on day 0: 36 of SEED 0, 8 of 1, 61 of 7, 48 of 9999.
        CHECK.due("no SEED told", blown("gusts 37;", 0), true);
        CHECK.due("no SEED told", blown("gusts 36;", 0), false);
        CHECK.due("SEED 0", blown("seed 0; gusts 37;", 0), true);
        CHECK.due("SEED 0", blown("seed 0; gusts 36;", 0), false);
        CHECK.due("SEED 9999", blown("seed 9999; gusts 49;", 0), true);
        CHECK.due("SEED 9999", blown("seed 9999; gusts 48;", 0), false);
        CHECK.due("the last SEED", blown("seed 7; gusts 9; seed 1;", 0), true);
        CHECK.due("the last SEED", blown("seed 1; gusts 61; seed 7;", 0), false);
        RainLoom x = Texts.of("seed 7; gusts 60;");
        Texts.read(x, "row oo; loom l 1 0; dries = 0; gusts 37;");
        x.order(0, 1, 1, 0, 0);
        x.days(1);
        CHECK.due("no SEED behind a text with one", x.cell(1, 0, 1), 1);
    }

    /** Whether LOOM 0's PIECE of that day falls one CELL further to the east. */
    private static boolean blown(String text, int day) {
        RainLoom x = Texts.of("row oo; loom l 1 0; dries = 0;" + text);
        x.days(day);
        x.order(0, 1, 1, 0, 0);
        x.days(1);
        return x.cell(1, 0, 1) == 1;
    }

    private static void firstFault() {
        CHECK.says("FAULTS of a text, the first by its place");
        CHECK.reads("row ? ?", 1, 4);
        CHECK.reads("row o;".repeat(7) + "?", 2, 36);
        CHECK.reads("?" + "row o;".repeat(7), 1, 0);
        CHECK.reads("row o;".repeat(6) + "field ;row o;", 1, 42);
        CHECK.reads("weaves = (((((((1;", 2, 15);
        CHECK.reads("weaves = ((((((1;", 1, 16);
        CHECK.reads(filler(400) + "row ?", 2, filler(400).length());
        CHECK.reads(filler(399) + "row ?", 1, filler(399).length() + 4);
        CHECK.reads(filler(399) + "row o;", 2, filler(399).length() + 4);
    }

    private static void room() {
        CHECK.says("a 401st TOKEN");
        CHECK.good(filler(400));
        CHECK.good(filler(400) + " \t\r\n");
        CHECK.reads(filler(400) + "seed 1;", 2, filler(400).length());
        CHECK.reads(filler(401), 2, filler(401).length() - 1);
        CHECK.reads("weaves = 1" + "+1".repeat(199) + ";", 2, 407);
        CHECK.good("weaves = 1" + "+1".repeat(198) + ";");
        CHECK.says("one more of a sort than told (at its first TOKEN)");
        String rows = "row o;".repeat(6);
        CHECK.good(rows + FIELDS + LOOMS);
        CHECK.reads(rows + FIELDS + LOOMS + " row o;", 2, rows.length() + FIELDS.length() + LOOMS.length() + 1);
        CHECK.reads(rows + FIELDS + LOOMS + " field v 1 2;", 2, rows.length() + FIELDS.length() + LOOMS.length() + 1);
        CHECK.reads(rows + FIELDS + LOOMS + " loom v 1 2;", 2, rows.length() + FIELDS.length() + LOOMS.length() + 1);
        CHECK.reads(rows + "row", 2, 36);
        CHECK.reads(FIELDS + "field", 2, FIELDS.length());
        CHECK.reads(LOOMS + "loom", 2, LOOMS.length());
        CHECK.good("weaves = 1;".repeat(9) + "dries = 1;".repeat(9) + "gathers = 1;".repeat(9));
        CHECK.good("store 1;".repeat(40) + "gusts 1;".repeat(40) + "seed 1;".repeat(40));
        CHECK.says("a 5th if of a LAW (at it)");
        String once = "if 1 < 2 then 3 else ";
        for (String what : new String[] {"weaves", "dries", "gathers"}) {
            String begin = what + " = ";
            CHECK.good(begin + once.repeat(4) + "5;" + begin + once.repeat(4) + "5;" + begin + once + "5;");
            CHECK.reads(begin + once.repeat(5) + "5;", 2, begin.length() + 84);
            CHECK.reads(begin + once.repeat(4) + "if", 2, begin.length() + 84);
            CHECK.reads("weaves = " + once.repeat(4) + "1;" + begin + once.repeat(5) + "5;", 2, 95 + begin.length() + 84);
        }
        CHECK.says("a 7th ( within one another (at it)");
        String[] parts = {"weaves = if ", " < ", " then ", " else ", ";"};
        for (int deep = 0; deep < 4; deep++) {
            StringBuilder six = new StringBuilder();
            StringBuilder seven = new StringBuilder();
            int place = 0;
            for (int e = 0; e < 4; e++) {
                six.append(parts[e]).append("((((((1))))))");
                seven.append(parts[e]);
                place = e == deep ? seven.length() + 6 : place;
                seven.append(e == deep ? "(((((((1)))))))" : "((((((1))))))");
            }
            CHECK.good(six + parts[4]);
            CHECK.reads(seven + parts[4], 2, place);
        }
        CHECK.good("dries = (1)+(1)+(1)+(1)+(1)+(1)+(1)+(1)*(1)-(1)/(1);");
        CHECK.good("dries = ((((((1))))) + (((((2))))));");
        CHECK.good("gathers = ((((((1)) + ((2)))))) * ((((((3))))));");
        CHECK.reads("gathers = 1+(1+(1+(1+(1+(1+(1*(2)))))));", 2, 30);
        CHECK.reads("gathers = ((((((1))))) + ((((((2)))))));", 2, 30);
        CHECK.reads("gathers = (((((((", 2, 16);
    }

    private static void laterFaults() {
        CHECK.says("If there is none, likewise");
        CHECK.reads("gusts 101; field p 1 2; field p 1 2; row x; ?", 1, 44);
        CHECK.reads("gusts 101;" + "row x;".repeat(7), 2, 46);
        CHECK.reads("gusts 101; field p 1 2; loom p 1 2; row x;", 5, 6);
        CHECK.reads("field p 1 2; loom p 1 2; gusts 101; row x;", 3, 18);
        CHECK.reads("row x; field p 1 2; loom p 1 2; gusts 101;", 6, 4);
        CHECK.reads("row a; loom p 1 2; loom p 1 2;", 3, 24);
        CHECK.reads("row a; gusts 101;", 5, 13);
        CHECK.reads("row a; row x;", 6, 11);
        CHECK.says("3 TWICE: a NAME told already (of FIELDS and LOOMS together).");
        CHECK.reads("field p 1 2; field p 3 4;", 3, 19);
        CHECK.reads("field p 1 2; loom p 3 4;", 3, 18);
        CHECK.reads("loom p 1 2; field p 3 4;", 3, 18);
        CHECK.reads("loom p 1 2; loom p 3 4;", 3, 17);
        CHECK.reads("loom p 1 2; loom q 3 4; field r 1 2; field p 1 2; field q 1 2;", 3, 43);
        CHECK.reads(FIELDS + LOOMS.replace("loom l", "loom u"), 3, FIELDS.length() + 38);
        CHECK.reads("field abcdefgh 1 2; loom abcdefgh 1 2;", 3, 25);
        CHECK.good("field abcdefgh 1 2; loom abcdefg 1 2; loom bcdefgh 1 2; field a 1 2; field aa 1 2; field aaa 1 2;");
        CHECK.good("row a; row a; field a 1 2; loom o 1 2;");
        CHECK.says("5 WRONG (at the INT): a number not as told above.");
        CHECK.reads("field p 100 1000;", 5, 8);
        CHECK.reads("field p 99 1000;", 5, 11);
        CHECK.reads("loom l 0 100;", 5, 7);
        CHECK.reads("loom l 8 100;", 5, 9);
        CHECK.reads("loom l 9 99;", 5, 7);
        CHECK.reads("gusts  101 ;", 5, 7);
        CHECK.good("weaves = 9999; dries = 9999; gathers = 9999;");
        CHECK.says("or not as long as the first one");
        CHECK.reads("row ooo; row oo;", 6, 13);
        CHECK.reads("row oo; row ooo;", 6, 12);
        CHECK.says("(at the text's end) a CELL of a FIELD that there is not.");
        String text = "row abcdef;";
        for (int fields = 0; fields < 6; fields++) {
            CHECK.reads(text, 6, text.length());
            CHECK.reads(text + "  ", 6, text.length() + 2);
            String cell = "row " + (char) ('a' + fields) + ";" + FIELDS.substring(0, 12 * fields);
            CHECK.reads(cell, 6, cell.length());
            CHECK.good(cell + "field z 1 2;");
            text += "field f" + "abcdef".charAt(fields) + " 1 2;";
        }
        CHECK.good(text);
        CHECK.reads("row oooooooo;".repeat(5) + "row ooooooob;field p 1 2;", 6, 90);
        CHECK.reads("row a;" + LOOMS, 6, 6 + LOOMS.length());
    }

    private static RainLoom busy() {
        RainLoom x = Texts.of("row ab;row oa;field p 3 5;field q 0 1;loom l 2 0;loom m 1 1;weaves = pick + warp;gusts 50;");
        x.order(0, 2, 2, 0, 0);
        x.fall(1, 1, 2, 1, 0);
        x.hold(1);
        x.days(2);
        x.tell(0, 0, 1);
        x.tell(1, 0, 3);
        return x;
    }

    private static void faultyTexts() {
        CHECK.says("A text with a FAULT changes nothing but the tape");
        String want = Looks.through(busy());
        String[] faulty = {"row oo;?", "row o;".repeat(7), "field p 1 2;loom p 1 2;", "row ooo;gusts 101;", "row x;",
            "loom l 8 9;row a;weaves = 7;store 3;"};
        int[] faults = {1, 2, 3, 5, 6, 6};
        for (int i = 0; i < faulty.length; i++) {
            RainLoom x = busy();
            CHECK.due("read of " + faulty[i], Texts.read(x, faulty[i]), faults[i]);
            int place = x.place();
            CHECK.due("after " + faulty[i], Looks.through(x), want.replace("\nplace -1", "\nplace " + place));
        }
        RainLoom x = busy();
        Texts.read(x, "loom l 8 9;weaves = 7;seed 7;gusts 0;?");
        CHECK.due("the tape is empty", x.count(8), 0);
        CHECK.due("the LAW is as it was", x.thread(0, 1, 3), 4);
        CHECK.due("days are as they were", x.then(0, 0, 9), busy().then(0, 0, 9));
        CHECK.due("read after a FAULT", Texts.read(x, "row o;"), 0);
    }

    /** Has read two texts that tell all that can be told, and has done all that can be done, by each of them. */
    private static RainLoom worn() {
        RainLoom x = new RainLoom();
        for (int n = 0; n < 2; n++) {
            Texts.read(x, "row abcdefab;".repeat(6) + FIELDS + "loom i 8 9;loom j 7 8;loom k 6 7;loom l 5 6;weaves = 9 - warp;dries = 2;"
                + "gathers = 7;store 9000;gusts 77;seed 13;");
            for (int loom = 0; loom < 4; loom++) {
                x.order(loom, 5, 6, loom, 0);
            }
            x.days(3);
            x.tell(0, 0, 1);
            x.hold(0);
            x.hold(1);
            x.hold(2);
        }
        return x;
    }

    /** What is there, and how it goes on from there. */
    private static String goesOn(RainLoom x) {
        String first = Looks.of(x);
        String cloth = " " + x.thread(0, 0, 1) + " " + x.holds(0, 1, 6, false) + " " + x.comes(0, 1, 1) + " " + x.round(0);
        x.order(0, 1, 2, 0, 0);
        x.fall(1, 1, 1, 0, 0);
        x.days(5);
        return first + cloth + Looks.through(x);
    }

    private static void wholeTexts() {
        CHECK.says("else it is in place of the one ahead: day 0, all dry, no orders, nothing lacked or flooded yet; "
            + "nothing can be undone, nothing is TOLD, SLOTS hold nothing.");
        String[] texts = {"", "row ab;row oa;field p 3 5;field q 0 1;loom l 2 0;loom m 1 1;weaves = pick + warp;gusts 50;",
            "row a;field p 1 2;loom l 1 0;", "row aoa;field p 1 2;loom l 1 0;", "row oo;row oo;loom l 8 9;loom m 7 8;loom k 6 7;", "store 5;"};
        for (String text : texts) {
            RainLoom x = worn();
            CHECK.due("read of " + text, Texts.read(x, text), 0);
            CHECK.due("after " + text, goesOn(x), goesOn(Texts.of(text)));
        }
        RainLoom x = busy();
        CHECK.due("lacked ahead", x.count(12) > 0, true);
        CHECK.due("flooded ahead", x.count(13) > 0, true);
        Texts.read(x, "row ab;row oa;field p 3 5;field q 0 1;loom l 2 0;loom m 1 1;weaves = 9 - pick;");
        int[] fresh = {2, 2, 2, 2, 0, 100, 0, 0, 0, 0, 0, 0, 0, 0};
        for (int what = 0; what < fresh.length; what++) {
            CHECK.due("count(" + what + ")", x.count(what), fresh[what]);
        }
        CHECK.due("no ORDER", x.loom(0, 2), -2);
        CHECK.due("stands as told", x.loom(0, 1), 0);
        CHECK.due("nothing woven", x.loom(1, 6), 0);
        CHECK.due("the cloth is the new one", x.thread(0, 0, 1), 8);
        CHECK.due("undo()", x.undo(), false);
        CHECK.due("restore(1)", x.restore(1), false);
        CHECK.due("forget()", x.forget(), 0);
        CHECK.due("place()", x.place(), -1);
    }
}
