/** The edges of LAWS, PIECES, ORDERS and DAYS, sentence by sentence (part II); the answers were worked out by hand. */
public final class DayEdgeTest {
    private static final Check CHECK = new Check();
    /** The least int and the greatest one, as a LAW can make them. */
    private static final String LEAST = "(8192 * 8192 * 32)";
    private static final String MOST = "(8192 * 8192 * 32 - 1)";

    private DayEdgeTest() { }

    public static void main(String[] args) {
        ifs();
        wraps();
        divisions();
        varsNotTold();
        threads();
        driesAndGathers();
        pieces();
        wetterCells();
        beyondTheLand();
        torn();
        orders();
        gusts();
        lots();
        tallies();
        dusk();
        byHand();
        CHECK.end();
    }

    /** The THREAD of warp 1, pick 7, of LOOM 1, which is 5 wide. */
    private static void weaves(String law, int want) {
        RainLoom x = Texts.of("loom k 1 0; loom l 5 0; weaves = " + law + ";");
        CHECK.due("weaves = " + law, x.thread(1, 1, 7), want);
    }

    private static void ifs() {
        CHECK.says("the E of the first if that holds (one less than the other), else the last one");
        weaves("if 1 < 2 then 3 else 4", 3);
        weaves("if 2 < 2 then 3 else 4", 4);
        weaves("if 3 < 2 then 3 else 4", 4);
        weaves("if 0 - 1 < 0 then 3 else 4", 3);
        weaves("if 0 < 0 - 1 then 3 else 4", 4);
        weaves("if " + LEAST + " < " + MOST + " then 3 else 4", 3);
        weaves("if " + MOST + " < " + LEAST + " then 3 else 4", 4);
        String never = "if 1 < 1 then 9 else ";
        weaves("if 1 < 2 then 3 else if 1 < 2 then 4 else if 1 < 2 then 5 else if 1 < 2 then 6 else 7", 3);
        weaves(never + "if 1 < 2 then 4 else if 1 < 2 then 5 else if 1 < 2 then 6 else 7", 4);
        weaves(never + never + "if 1 < 2 then 5 else if 1 < 2 then 6 else 7", 5);
        weaves(never + never + never + "if 1 < 2 then 6 else 7", 6);
        weaves(never + never + never + never + "7", 7);
        weaves("7", 7);
        // As deep as can be, with as much left to be worked as can be.
        String deep = "1+1*(".repeat(6) + "1" + ")".repeat(6);
        weaves(deep, 7);
        weaves(never + never + never + "if " + deep + " < " + deep + " then 2 else " + deep, 7);
        weaves(never + never + never + "if " + deep + " < " + deep + "+1 then " + deep + " else 2", 7);
    }

    private static void wraps() {
        CHECK.says("ints of 32 bits that wrap");
        weaves(MOST, 9);
        weaves(MOST + " + 1", 0);
        weaves(MOST + " + 1 + " + MOST + " + 6", 5);
        weaves(LEAST, 0);
        weaves(LEAST + " - 1", 9);
        weaves("if 0 - " + LEAST + " < 0 then 1 else 2", 1);
        weaves(LEAST + " * 2 + 3", 3);
        weaves(MOST + " * " + MOST + " + 3", 4);
        weaves("if 9999 * 9999 * 43 < 0 then 1 else 2", 2);
        weaves("if 9999 * 9999 * 22 < 0 then 1 else 2", 1);
        weaves("if " + LEAST + " / (0 - 1) < 0 then 1 else 2", 1);
        CHECK.says("/ rounded towards 0");
        weaves("7 / 2", 3);
        weaves("9 + (0 - 7) / 2", 6);
        weaves("9 + 7 / (0 - 2)", 6);
        weaves("(0 - 7) / (0 - 2)", 3);
        weaves("9 + (0 - 1) / 2", 9);
        weaves("9 + 1 / 2", 9);
        weaves("9 + (0 - 2) / 2", 8);
    }

    private static void divisions() {
        CHECK.says("a LAW in which something that is looked at is divided by 0 is 0");
        weaves("7 / 0", 0);
        weaves("0 / 0", 0);
        weaves("5 + 7 / 0", 0);
        weaves("5 + 0 * (7 / (3 - 3))", 0);
        weaves("7 / 0 / 2 + 5", 0);
        weaves("if 7 / 0 < 1 then 3 else 4", 0);
        weaves("if 1 < 7 / 0 then 3 else 4", 0);
        weaves("if 1 < 2 then 3 / 0 else 4", 0);
        weaves("if 2 < 1 then 3 else 4 / 0", 0);
        weaves("if 2 < 1 then 3 else if 7 / 0 < 1 then 4 else 5", 0);
        weaves("if 1 < 2 then 3 else 4 / 0", 3);
        weaves("if 2 < 1 then 3 / 0 else 4", 4);
        weaves("if 1 < 2 then 3 else if 7 / 0 < 1 then 4 else 5", 3);
        weaves("0 / 7 + 5", 5);
        RainLoom x = Texts.of("row o; loom l 2 0; weaves = 5 / warp + 3; dries = 7 / (day - 1) + 9; gathers = 40 / day; store 99;");
        CHECK.due("by a warp of 0", x.thread(0, 0, 0), 0);
        CHECK.due("by a warp of 1", x.thread(0, 1, 0), 8);
        x.turn(0, 1);
        x.days(1);
        CHECK.due("GATHERS on day 0", x.count(5), 99);
        x.days(1);
        CHECK.due("GATHERS on day 1", x.count(5), 139);
        RainLoom y = Texts.of("row o; loom l 1 0; weaves = 9; dries = 3 / day + 1; store 99;");
        y.fall(0, 1, 1, 0, 0);
        y.days(1);
        CHECK.due("DRIES on day 0", y.cell(0, 0, 1), 9);
        y.days(1);
        CHECK.due("DRIES on day 1", y.cell(0, 0, 1), 5);
    }

    private static void varsNotTold() {
        CHECK.says("a VAR not told for a LAW is 0 in it");
        String[] vars = {"shed", "warp", "pick", "water", "needs", "drowns", "day", "which", "wide"};
        int[] woven = {3, 1, 7, 0, 0, 0, 0, 1, 5};
        // On day 2 a CELL with 8, of a FIELD that NEEDS 4 and that more than 6 DROWNS.
        int[] dried = {0, 0, 0, 8, 4, 6, 2, 0, 0};
        int[] gathered = {0, 0, 0, 0, 0, 0, 2, 0, 0};
        for (int i = 0; i < vars.length; i++) {
            weaves(vars[i], woven[i]);
            RainLoom x = Texts.of("row oa; field p 4 6; loom k 1 0; loom l 2 3; weaves = 8; store 50; dries = if day < 2 then 0 else "
                + vars[i] + "; gathers = if day < 2 then 0 else " + vars[i] + ";");
            x.fall(1, 1, 1, 1, 0);
            x.days(2);
            CHECK.due("ahead of dries by " + vars[i], x.cell(1, 0, 1), 8);
            CHECK.due("thread " + vars[i], x.thread(1, 1, 7), 8);
            x.days(1);
            CHECK.due("dries by " + vars[i], 8 - x.cell(1, 0, 1), dried[i]);
            CHECK.due("gathers " + vars[i], x.count(5) - 42, gathered[i]);
        }
    }

    private static void threads() {
        CHECK.says("A THREAD of a LOOM: what WEAVES tells, held to 0 .. 9");
        for (int n = 0; n <= 30; n++) {
            weaves(n + " - 10", Math.max(0, Math.min(9, n - 10)));
        }
        weaves(LEAST, 0);
        weaves(MOST, 9);
        CHECK.says("which: the LOOM's number; warp: 0 .. WIDE less 1; pick: 0 and so on; shed: the rest of pick by 4; wide: the LOOM's.");
        RainLoom x = Texts.of("loom i 1 0; loom j 8 0; loom k 3 0; loom l 5 0; weaves = which;");
        int[] wide = {1, 8, 3, 5};
        for (int loom = 0; loom < 4; loom++) {
            CHECK.due("which", x.thread(loom, 0, 0), loom);
            CHECK.due("the last warp", x.thread(loom, wide[loom] - 1, 0), loom);
            CHECK.due("one too many", x.thread(loom, wide[loom], 0), -1);
        }
        RainLoom y = Texts.of("loom i 1 0; loom j 8 0; loom k 3 0; loom l 5 0; weaves = wide;");
        RainLoom z = Texts.of("loom i 8 0; weaves = warp;");
        RainLoom s = Texts.of("loom i 8 0; weaves = shed;");
        RainLoom p = Texts.of("loom i 8 0; weaves = pick - 9993;");
        for (int i = 0; i < 8; i++) {
            CHECK.due("wide", y.thread(i % 4, 0, i), wide[i % 4]);
            CHECK.due("warp", z.thread(0, i, 3), i);
            CHECK.due("shed", s.thread(0, 0, i), i % 4);
            CHECK.due("pick", p.thread(0, 0, 9992 + i), Math.max(0, i - 1));
        }
        CHECK.due("shed of 9999", s.thread(0, 0, 9999), 3);
        RainLoom far = Texts.of("loom l 1 99; weaves = if 9999 < pick then pick - 9998 + shed else 1;");
        for (int n = 0; n < 100; n++) {
            far.turn(0, 99);
        }
        CHECK.due("stands", far.loom(0, 1), 9999);
        CHECK.due("9999 and 10000", far.holds(0, 1, 2, false), 3);
        far.turn(0, 1);
        CHECK.due("10000 to 10002", far.holds(0, 1, 3, false), 2 + 4 + 6);
    }

    private static RainLoom dried(String law) {
        RainLoom x = Texts.of("row o; loom l 1 0; weaves = 9; store 9999; dries = " + law + ";");
        for (int n = 0; n < 12; n++) {
            x.fall(0, 1, 1, 0, 0);
        }
        x.days(1);
        return x;
    }

    private static int gathered(String law) {
        RainLoom x = Texts.of("store 5; gathers = " + law + ";");
        x.days(1);
        return x.count(5) - 5;
    }

    private static void driesAndGathers() {
        CHECK.says("DRIES of a CELL (water: as it is; needs, drowns: of its FIELD, 0 of none; day), held to 0 .. 99");
        CHECK.due("DRIES -1", dried("0 - 1").cell(0, 0, 1), 108);
        CHECK.due("DRIES 0", dried("0").cell(0, 0, 1), 108);
        CHECK.due("DRIES 98", dried("98").cell(0, 0, 1), 10);
        CHECK.due("DRIES 99", dried("99").cell(0, 0, 1), 9);
        CHECK.due("DRIES 100", dried("100").cell(0, 0, 1), 9);
        CHECK.due("DRIES as much as an int can be", dried(MOST).cell(0, 0, 1), 9);
        CHECK.due("DRIES as little", dried(LEAST).cell(0, 0, 1), 108);
        RainLoom x = Texts.of("row aob; field p 4 6; field q 1 3; loom l 3 0; weaves = 9; dries = needs * 2 + drowns / 3 - water / 9;");
        x.fall(0, 3, 1, 0, 0);
        x.days(1);
        CHECK.due("of FIELD 0", x.cell(0, 0, 1), 0);
        CHECK.due("of none", x.cell(1, 0, 1), 9);
        CHECK.due("of FIELD 1", x.cell(2, 0, 1), 7);
        RainLoom none = Texts.of("row oa; field p 2 3; loom l 2 0; weaves = 9; dries = needs + drowns + 1;");
        none.fall(0, 2, 1, 0, 0);
        none.days(1);
        CHECK.due("0 and 0 of none", none.cell(0, 0, 1), 8);
        CHECK.due("2 and 3 of FIELD 0", none.cell(1, 0, 1), 3);
        CHECK.says("GATHERS (day), held to 0 .. 999");
        CHECK.due("GATHERS -1", gathered("0 - 1"), 0);
        CHECK.due("GATHERS 0", gathered("0"), 0);
        CHECK.due("GATHERS 1", gathered("1"), 1);
        CHECK.due("GATHERS 999", gathered("999"), 999);
        CHECK.due("GATHERS 1000", gathered("1000"), 999);
        CHECK.due("GATHERS as much as an int can be", gathered(MOST), 999);
        CHECK.due("GATHERS as little", gathered(LEAST), 0);
    }

    private static void pieces() {
        CHECK.says("A PIECE of a LOOM, w by h (w no more than WIDE, h 1 .. 6)");
        String land = "row oooooooo;".repeat(6);
        for (int wide = 1; wide <= 8; wide++) {
            RainLoom x = Texts.of(land + "loom l " + wide + " 0;");
            CHECK.due("as WIDE", x.fall(0, wide, 6, 0, 0), 6 * wide);
            CHECK.due("wider", x.fall(0, wide + 1, 6, 0, 0), -1);
            CHECK.due("h 7", x.fall(0, wide, 7, 0, 0), -1);
            CHECK.due("h 0", x.fall(0, wide, 0, 0, 0), -1);
            CHECK.due("w 0", x.fall(0, 0, 1, 0, 0), -1);
            CHECK.due("1 by 1", x.fall(0, 1, 1, 0, 0), 1);
        }
        CHECK.says("the THREADS of warps 0 to w less 1, of the h PICKS from where the LOOM stands on.");
        CHECK.says("its PICKS go from there to the south, its warps to the east");
        RainLoom x = Texts.of("row oooo;row oooo;row oooo;row oooo; loom l 3 2; weaves = pick * 2 + warp - 3;");
        // Picks 2, 3 and 4 are 1 2 3, 3 4 5 and 5 6 7.
        CHECK.due("fall(0, 2, 3, 1, 1)", x.fall(0, 2, 3, 1, 1), 1 + 2 + 3 + 4 + 5 + 6);
        int[][] want = {{0, 0, 0, 0}, {0, 1, 2, 0}, {0, 3, 4, 0}, {0, 5, 6, 0}};
        for (int i = 0; i < 16; i++) {
            CHECK.due("cell(" + i % 4 + ", " + i / 4 + ", 1)", x.cell(i % 4, i / 4, 1), want[i / 4][i % 4]);
        }
        CHECK.due("the next one goes on from there", x.fall(0, 1, 1, 0, 0), 7);
    }

    private static void wetterCells() {
        CHECK.says("each CELL there is so much wetter, 999 at most");
        RainLoom x = Texts.of("row oo; loom l 2 0; weaves = if warp < 1 then 9 else 7; store 9999; dries = 0;");
        for (int n = 1; n <= 110; n++) {
            x.fall(0, 2, 1, 0, 0);
        }
        CHECK.due("9 times 110", x.cell(0, 0, 1), 990);
        x.fall(0, 2, 1, 0, 0);
        CHECK.due("9 times 111", x.cell(0, 0, 1), 999);
        CHECK.due("woven all the same", x.fall(0, 2, 1, 0, 0), 16);
        CHECK.due("999", x.cell(0, 0, 1), 999);
        CHECK.due("7 times 112", x.cell(1, 0, 1), 784);
        for (int n = 0; n < 30; n++) {
            x.fall(0, 2, 1, 0, 0);
        }
        CHECK.due("7 times 142", x.cell(1, 0, 1), 994);
        x.fall(0, 2, 1, 0, 0);
        CHECK.due("7 times 143", x.cell(1, 0, 1), 999);
        x.order(0, 2, 1, 0, 0);
        x.days(2);
        CHECK.due("by an ORDER too", x.count(6), 1998);
        RainLoom y = Texts.of("row a; field p 0 999; loom l 1 0; weaves = 9; store 9999; dries = 0;");
        for (int n = 0; n < 115; n++) {
            y.fall(0, 1, 1, 0, 0);
        }
        CHECK.due("999 is not more than 999", y.cell(0, 0, 3), 0);
    }

    /** Falls on a land of 8 by 6: all that is wet is where it should be. */
    private static void fallsOn(int w, int h, int x, int y) {
        RainLoom land = Texts.of("row oooooooo;".repeat(6) + "loom l 8 0; weaves = 2;");
        CHECK.due("woven", land.fall(0, w, h, x, y), 2 * w * h);
        CHECK.due("count(5)", land.count(5), 100 - 2 * w * h);
        for (int i = 0; i < 48; i++) {
            boolean wet = i % 8 >= x && i % 8 < x + w && i / 8 >= y && i / 8 < y + h;
            CHECK.due(w + " by " + h + " at " + x + ", " + y + ": cell(" + i % 8 + ", " + i / 8 + ", 1)",
                land.cell(i % 8, i / 8, 1), wet ? 2 : 0);
        }
    }

    private static void beyondTheLand() {
        CHECK.says("(what falls beyond the land is lost)");
        fallsOn(8, 6, 0, 0);
        fallsOn(8, 6, 7, 5);
        fallsOn(8, 6, 1, 0);
        fallsOn(8, 6, 0, 1);
        fallsOn(2, 1, 7, 0);
        fallsOn(1, 2, 0, 5);
        fallsOn(3, 3, 6, 4);
        RainLoom x = Texts.of("row oo;row oo;row oo; loom l 8 0; weaves = 2; dries = 0;");
        x.fall(0, 8, 6, 1, 1);
        CHECK.due("on a small land", x.count(6), 4);
        CHECK.due("it is woven", x.loom(0, 6), 96);
        CHECK.due("out of the STORE", x.count(5), 4);
    }

    private static void torn() {
        CHECK.says("one for which there is not enough left is TORN: nothing more of the PIECE is woven or falls.");
        CHECK.says("The LOOM stands h PICKS further then, TORN or not.");
        String land = "row oo;row oo;row oo; loom l 2 0; weaves = if pick < 1 then 3 + warp else 1;";
        // 3 4 / 1 1 / 1 1: by the STORE, how much is woven, TORN or not, which CELLS are wet.
        int[][] dues = {{0, 0, 1, 0}, {2, 0, 1, 0}, {3, 3, 1, 1}, {6, 3, 1, 1}, {7, 7, 1, 2}, {8, 8, 1, 3}, {9, 9, 1, 4}, {10, 10, 1, 5},
            {11, 11, 0, 6}, {12, 11, 0, 6}};
        for (int[] due : dues) {
            RainLoom x = Texts.of(land + "store " + due[0] + ";");
            CHECK.due("woven of " + due[0], x.fall(0, 2, 3, 0, 0), due[1]);
            CHECK.due("left of " + due[0], x.count(5), due[0] - due[1]);
            CHECK.due("TORN of " + due[0], x.loom(0, 7), due[2]);
            CHECK.due("stands", x.loom(0, 1), 3);
            CHECK.due("loom(0, 6)", x.loom(0, 6), due[1]);
            CHECK.due("dry CELLS of " + due[0], x.dry(0), 6 - due[3]);
        }
        RainLoom none = Texts.of("row o; loom l 8 0; weaves = 0; store 0;");
        CHECK.due("for none there is enough", none.fall(0, 8, 6, 0, 0), 0);
        CHECK.due("not TORN", none.loom(0, 7), 0);
        RainLoom off = Texts.of("row o; loom l 2 0; weaves = 3; store 5;");
        CHECK.due("TORN beyond the land", off.fall(0, 2, 1, 0, 0), 3);
        CHECK.due("TORN beyond the land", off.loom(0, 7), 1);
        // Two THREADS of one PIECE lack: it is one PIECE that is TORN; the next one goes on with what is left.
        RainLoom twice = Texts.of("row ooo; loom l 3 0; weaves = if pick < 1 then 2 else 1; store 3;");
        CHECK.due("2 of 6", twice.fall(0, 3, 1, 0, 0), 2);
        CHECK.due("TORN once", twice.loom(0, 7), 1);
        CHECK.due("1 of 3", twice.fall(0, 3, 1, 0, 0), 1);
        CHECK.due("TORN twice", twice.loom(0, 7), 2);
    }

    private static void orders() {
        CHECK.says("An ORDER of a LOOM: a PIECE for each day, w by h, at X, Y. A DAY: LOOM by LOOM that has one: it is LET FALL");
        RainLoom x = Texts.of("row ooo; loom i 1 0; loom j 1 0; loom k 1 0; loom l 1 0; weaves = which + 1; dries = 0; store 7;");
        x.order(3, 1, 1, 0, 0);
        x.order(2, 1, 1, 1, 0);
        x.order(1, 1, 1, 2, 0);
        // LOOM 1 takes 2, LOOM 2 takes 3, LOOM 3's 4 are not there any more; LOOM 0 has no ORDER.
        x.days(1);
        CHECK.due("LOOM 0", x.loom(0, 1) + x.loom(0, 6), 0);
        CHECK.due("LOOM 1", x.loom(1, 6), 2);
        CHECK.due("LOOM 2", x.loom(2, 6), 3);
        CHECK.due("LOOM 3", x.loom(3, 6), 0);
        CHECK.due("LOOM 3 is TORN", x.loom(3, 7), 1);
        CHECK.due("LOOM 3 stands", x.loom(3, 1), 1);
        x.days(2);
        CHECK.due("LOOM 1 once more", x.loom(1, 6), 4);
        CHECK.due("LOOM 1 TORN then", x.loom(1, 7), 1);
        CHECK.due("LOOM 2 TORN twice", x.loom(2, 7), 2);
        CHECK.due("LOOM 3 stands", x.loom(3, 1), 3);
        CHECK.due("count(5)", x.count(5), 0);
    }

    private static boolean blown(int gusts, int seed, int loom, int day) {
        RainLoom x = Texts.of("row oo; loom i 1 0; loom j 1 0; loom k 1 0; loom l 1 0; dries = 0; gusts " + gusts + "; seed " + seed + ";");
        for (int n = 0; n < day; n += 30) {
            x.days(Math.min(30, day - n));
        }
        x.order(loom, 1, 1, 0, 0);
        x.days(1);
        CHECK.due("it fell", x.cell(0, 0, 1) + x.cell(1, 0, 1), 1);
        return x.cell(1, 0, 1) == 1;
    }

    private static void gusts() {
        CHECK.says("is less than GUSTS) one CELL further to the east");
        // LOTS of LOOM 0 on day 0: 61 of SEED 7, 0 of SEED 13, 99 of SEED 224.
        CHECK.due("61 is less than 62", blown(62, 7, 0, 0), true);
        CHECK.due("61 is not less than 61", blown(61, 7, 0, 0), false);
        CHECK.due("0 is not less than 0", blown(0, 13, 0, 0), false);
        CHECK.due("0 is less than 1", blown(1, 13, 0, 0), true);
        CHECK.due("99 is not less than 99", blown(99, 224, 0, 0), false);
        CHECK.due("99 is less than 100", blown(100, 224, 0, 0), true);
        RainLoom x = Texts.of("row oooooooo;".repeat(2) + "loom l 2 0; weaves = 2; gusts 100; dries = 0;");
        x.order(0, 2, 2, 7, 0);
        x.days(1);
        CHECK.due("beyond the last CELL all is lost", x.count(6), 0);
        CHECK.due("but woven", x.loom(0, 6), 8);
        CHECK.due("out of the STORE", x.count(5), 92);
        x.order(0, 2, 2, 6, 0);
        x.days(1);
        CHECK.due("cell(7, 0, 1)", x.cell(7, 0, 1), 2);
        CHECK.due("cell(7, 1, 1)", x.cell(7, 1, 1), 2);
        CHECK.due("no more than these", x.count(6), 4);
        CHECK.due("the ORDER stays where it was", x.loom(0, 4), 6);
        x.fall(0, 1, 1, 0, 0);
        CHECK.due("no GUSTS by hand", x.cell(0, 0, 1), 2);
        // Each day by itself, each LOOM by itself: SEED 7, LOOMS 0 and 1, days 0 to 3: 61 3, 82 25, 42 34, 63 36.
        RainLoom y = Texts.of("row oo;row oo; loom l 1 0; loom m 1 0; gusts 62; seed 7; dries = 0;");
        y.order(0, 1, 1, 0, 0);
        y.order(1, 1, 1, 0, 1);
        y.days(4);
        CHECK.due("LOOM 0", y.cell(1, 0, 1), 2);
        CHECK.due("LOOM 1", y.cell(1, 1, 1), 4);
    }

    private static void lots() {
        CHECK.says("(LOT 100 of the SEED and 8 * the day and the LOOM's number is less than GUSTS)");
        CHECK.says("(32 bits that wrap)");
        // SEED, LOOM, day, LOT
        int[][] lots = {{0, 0, 0, 36}, {0, 1, 0, 71}, {0, 2, 0, 40}, {0, 3, 0, 49}, {0, 3, 1, 87}, {0, 0, 29, 70}, {0, 0, 59, 26},
            {1, 0, 0, 8}, {1, 1, 0, 3}, {1, 2, 1, 2}, {1, 3, 2, 5}, {1, 0, 100, 64}, {1, 0, 499, 31}, {42, 0, 3, 52}, {42, 1, 3, 53},
            {5000, 0, 0, 1}, {5000, 1, 3, 0}, {5000, 2, 0, 95}, {9999, 0, 0, 48}, {9999, 3, 1, 2}, {9999, 0, 499, 94}};
        for (int[] lot : lots) {
            String what = "LOT of SEED " + lot[0] + ", LOOM " + lot[1] + ", day " + lot[2];
            CHECK.due(what + " is less than one more", blown(lot[3] + 1, lot[0], lot[1], lot[2]), true);
            CHECK.due(what + " is not less than itself", blown(lot[3], lot[0], lot[1], lot[2]), false);
        }
    }

    private static void tallies() {
        CHECK.says("then each CELL of a FIELD that has less than it NEEDS has LACKED, each with more than DROWNS it is FLOODED");
        // 0 1 .. 7 fall on eight CELLS: of FIELDS NEEDS 3, DROWNS 5, and of none.
        RainLoom x = Texts.of("row aaaaaaaa;row oooooooo; field p 3 5; loom l 8 0; weaves = warp; dries = 0; store 99;");
        x.fall(0, 8, 2, 0, 0);
        CHECK.due("LACKED ahead of a day", x.field(0, 2), 0);
        CHECK.due("FLOODED ahead of a day", x.field(0, 3), 0);
        x.days(1);
        CHECK.due("0, 1 and 2 LACKED", x.field(0, 2), 3);
        CHECK.due("6 and 7 are FLOODED", x.field(0, 3), 2);
        CHECK.due("of none: neither", x.count(12) * 10 + x.count(13), 32);
        CHECK.says("(both are counted day by day)");
        x.days(3);
        CHECK.due("LACKED", x.field(0, 2), 12);
        CHECK.due("FLOODED", x.field(0, 3), 8);
        // Counted behind the fall, ahead of the drying.
        RainLoom y = Texts.of("row ab; field p 2 1; field q 0 1; loom l 2 0; weaves = 2; dries = 2;");
        y.order(0, 2, 1, 0, 0);
        y.days(1);
        CHECK.due("as much as it NEEDS fell", y.field(0, 2), 0);
        CHECK.due("FLOODED, though dry at the end", y.field(1, 3), 1);
        CHECK.due("dry at the end", y.count(6), 0);
        RainLoom both = Texts.of("row a; field p 9 2; loom l 1 0; weaves = 5;");
        both.order(0, 1, 1, 0, 0);
        both.days(1);
        CHECK.due("LACKED and FLOODED at once", both.field(0, 2) * 10 + both.field(0, 3), 11);
        RainLoom needless = Texts.of("row a; field p 0 0;");
        needless.days(5);
        CHECK.due("nothing NEEDED, nothing DROWNS", needless.count(12) + needless.count(13), 0);
    }

    private static void dusk() {
        CHECK.says("then each CELL is DRIES less wet (0 at least)");
        RainLoom x = Texts.of("row oooo; loom l 4 0; weaves = warp + 1; dries = 3;");
        x.fall(0, 4, 1, 0, 0);
        x.days(1);
        int[] left = {0, 0, 0, 1};
        for (int i = 0; i < 4; i++) {
            CHECK.due("cell(" + i + ", 0, 1)", x.cell(i, 0, 1), left[i]);
        }
        x.days(1);
        CHECK.due("all dry", x.count(6), 0);
        CHECK.says("then the STORE is GATHERS more, 9999 at most.");
        int[][] stores = {{9988, 9998}, {9989, 9999}, {9990, 9999}, {9999, 9999}, {0, 10}};
        for (int[] store : stores) {
            RainLoom y = Texts.of("gathers = 10; store " + store[0] + ";");
            y.days(1);
            CHECK.due("of " + store[0], y.count(5), store[1]);
        }
        // What comes in the evening is not there for the day's PIECE.
        RainLoom late = Texts.of("row o; loom l 1 0; weaves = 5; store 4; gathers = 9;");
        late.order(0, 1, 1, 0, 0);
        late.days(1);
        CHECK.due("TORN", late.loom(0, 7), 1);
        CHECK.due("count(5)", late.count(5), 13);
        late.days(1);
        CHECK.due("not TORN", late.loom(0, 7), 1);
        CHECK.due("count(5)", late.count(5), 17);
        CHECK.says("It is the next day.");
        RainLoom day = Texts.of("store 0; gathers = day + 1;");
        CHECK.due("day 0", day.count(4), 0);
        day.days(1);
        CHECK.due("GATHERS of day 0", day.count(5), 1);
        CHECK.due("day 1", day.count(4), 1);
        day.days(2);
        CHECK.due("GATHERS of days 1 and 2", day.count(5), 6);
    }

    private static void byHand() {
        CHECK.says("each THREAD that is woven takes as much from the STORE");
        RainLoom x = Texts.of("row ooo; loom l 3 1; loom m 2 0; weaves = pick * 2 + warp; store 50; gusts 100; dries = 0;");
        // Picks 1 and 2 are 2 3 4 and 4 5 6.
        CHECK.due("fall(0, 3, 1, 0, 0)", x.fall(0, 3, 1, 0, 0), 9);
        CHECK.due("50 - 9", x.count(5), 41);
        CHECK.says("a PIECE is LET FALL at once");
        CHECK.due("whatever the GUSTS", x.cell(0, 0, 1) * 100 + x.cell(1, 0, 1) * 10 + x.cell(2, 0, 1), 234);
        CHECK.due("it is still day 0", x.count(4), 0);
        CHECK.due("LOOM 0 stands further", x.loom(0, 1), 2);
        CHECK.due("LOOM 1 does not", x.loom(1, 1), 0);
        CHECK.says("a LOOM is turned on by so many PICKS without weaving");
        CHECK.due("turn(0, 3)", x.turn(0, 3), 5);
        CHECK.due("nothing is woven", x.loom(0, 6), 9);
        CHECK.due("nothing is TORN", x.loom(0, 7), 0);
        CHECK.due("nothing is taken", x.count(5), 41);
        CHECK.due("nothing falls", x.count(6), 9);
        CHECK.due("LOOM 1 is not turned", x.loom(1, 1), 0);
        CHECK.says("an ORDER is told, or taken back");
        x.order(1, 2, 1, 0, 0);
        CHECK.due("it does not fall yet", x.count(6), 9);
        x.days(1);
        CHECK.due("0 1, one CELL to the east", x.cell(0, 0, 1) * 100 + x.cell(1, 0, 1) * 10 + x.cell(2, 0, 1), 235);
        x.stop(1);
        x.days(1);
        CHECK.due("no longer", x.count(6), 10);
        CHECK.due("LOOM 1 stands still", x.loom(1, 1), 1);
        CHECK.due("days go by all the same", x.count(4), 2);
    }
}
