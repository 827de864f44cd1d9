/** Each promise of the document, with answers that were worked out by hand. */
public final class PromiseTest {
    private static final String LAND = "row aab; row aob; field clay 3 5; field sand 2 4; ";
    private static final String LOOMS = "loom one 2 0; loom two 3 1; ";
    /** Where pick and warp are odd together 2, else 1 of LOOM 0, 0 of LOOM 1. */
    private static final String CLOTH = "weaves = if (pick + warp) / 2 * 2 < pick + warp then 2 else 1 - which; ";
    private static final String TEXT = LAND + LOOMS + CLOTH + "dries = 1; gathers = 2; store 20;";

    private static int wrong = 0;
    private static int promise = 0;

    private PromiseTest() { }

    private static void due(String call, int got, int want) {
        if (got != want) {
            wrong++;
            System.out.println("promise " + promise + ": " + call + " answered " + got + ", due is " + want);
        }
    }

    private static void due(String call, boolean got, boolean want) {
        due(call, got ? 1 : 0, want ? 1 : 0);
    }

    private static void faulty(String text, int fault, int place) {
        RainLoom x = new RainLoom();
        due("read of <" + text + ">", Texts.read(x, text), fault);
        due("place of <" + text + ">", x.place(), place);
    }

    private static void good(String text) {
        faulty(text, 0, -1);
    }

    public static void main(String[] args) {
        tapes();
        syntax();
        room();
        laterFaults();
        reading();
        state();
        laws();
        orders();
        falls();
        turnsAndDays();
        gusts();
        undoing();
        cloth();
        where();
        cutting();
        ahead();
        serving();
        years();
        telling();
        holding();
        counting();
        far();
        System.out.println(wrong == 0 ? "all promises hold" : wrong + " answers are not as due");
        if (wrong != 0) {
            System.exit(1);
        }
    }

    private static void tapes() {
        promise = 1;
        RainLoom x = new RainLoom();
        for (int what = 0; what <= 13; what++) {
            due("new count(" + what + ")", x.count(what), what == 5 ? 100 : 0);
        }
        due("new cell(0, 0, 0)", x.cell(0, 0, 0), -1);
        due("new field(0, 0)", x.field(0, 0), -1);
        due("new loom(0, 0)", x.loom(0, 0), -1);
        promise = 2;
        for (int n = 1; n <= 100; n++) {
            due("feed " + n, x.feed(0, 0, 0, 0, 0), 20 * n);
        }
        due("feed 101", x.feed(0, 0, 0, 0, 0), -1);
        due("count(8)", x.count(8), 2000);
        due("back(19)", x.back(19), 1981);
        due("feed beyond 2,000", x.feed(0, 0, 0, 0, 0), -1);
        due("back(1)", x.back(1), 1980);
        due("feed up to 2,000", x.feed(0, 0, 0, 0, 0), 2000);
        promise = 3;
        due("back(-1)", x.back(-1), -1);
        due("back(2001)", x.back(2001), -1);
        due("back(MAX)", x.back(Integer.MAX_VALUE), -1);
        due("back(MIN)", x.back(Integer.MIN_VALUE), -1);
        due("count(8)", x.count(8), 2000);
        due("back(0)", x.back(0), 2000);
        due("back(2000)", x.back(2000), 0);
        due("back(1)", x.back(1), -1);
        due("back(0)", x.back(0), 0);
        promise = 2;
        // "row abo;" and blanks: the highest byte comes first.
        x.feed(0x726f7720, 0x61626f3b, 0x20202020, 0x20202020, 0x20202020);
        // "field x 1 2;field y 3 4;" without its end, which the next twenty bring.
        x.feed(0x6669656c, 0x64207820, 0x3120323b, 0x6669656c, 0x64207920);
        x.feed(0x33203420, 0x20202020, 0x20202020, 0x20202020, 0x2020203b);
        due("read()", x.read(), 0);
        due("cell(0, 0, 0)", x.cell(0, 0, 0), 0);
        due("cell(1, 0, 0)", x.cell(1, 0, 0), 1);
        due("cell(2, 0, 0)", x.cell(2, 0, 0), -2);
        due("field(1, 4)", x.field(1, 4), 3);
    }

    private static void syntax() {
        promise = 4;
        good("");
        good("   ");
        good("\trow\noo\r; ");
        good("field a1 2;");
        good("field zaz 1 2; field az 1 2; field za 1 2;");
        faulty("field a{ 1 2;", 1, 7);
        faulty("field a` 1 2;", 1, 7);
        faulty("seed 1:;", 1, 6);
        good("field abcdefgh 1 2;store 0001;");
        good("weaves=(((((1)))))*2;");
        faulty("row", 1, 3);
        faulty("row aa", 1, 6);
        faulty("row aa  ", 1, 8);
        faulty("row aa;x", 1, 7);
        faulty("rowoo;", 1, 0);
        faulty("row abcdefghi;", 1, 4);
        faulty("row Oo;", 1, 4);
        faulty("row oO;", 1, 5);
        faulty("row o\0;", 1, 5);
        faulty("row o\u00e9;", 1, 5);
        faulty("row oo;\13", 1, 7);
        faulty("row 1;", 1, 4);
        faulty("row if;", 1, 4);
        faulty("field row 1 2;", 1, 6);
        faulty("field wide 1 2;", 1, 6);
        faulty("field a 1;", 1, 9);
        faulty("field a 1 2 3;", 1, 12);
        faulty("loom 1 2;", 1, 5);
        faulty("store 12345;", 1, 6);
        faulty("store;", 1, 5);
        faulty("seed 1 2;", 1, 7);
        faulty("seed -1;", 1, 5);
        for (char sign : ";=+-*/<()".toCharArray()) {
            faulty(String.valueOf(sign), 1, 0);
            faulty("seed 1;" + sign, 1, 7);
        }
        faulty("weaves = (1", 1, 11);
        faulty("weaves = (1;", 1, 11);
        faulty("weaves = 1);", 1, 10);
        faulty("weaves 1;", 1, 7);
        faulty("weaves = ;", 1, 9);
        faulty("weaves = -1;", 1, 9);
        faulty("weaves = 1 + ;", 1, 13);
        faulty("weaves = 1 * * 2;", 1, 13);
        faulty("weaves = 1 2;", 1, 11);
        faulty("weaves = (1;", 1, 11);
        faulty("weaves = 1);", 1, 10);
        faulty("weaves = ();", 1, 10);
        faulty("weaves = 1 < 2;", 1, 11);
        faulty("weaves = x;", 1, 9);
        faulty("weaves = if 1 then", 1, 14);
        faulty("weaves = if 1 < 2 then 3;", 1, 24);
        faulty("weaves = if 1 < 2 < 3 then 3 else 4;", 1, 18);
        faulty("weaves = if 1 < 2 else 3;", 1, 18);
        faulty("weaves = (if 1 < 2 then 3 else 4);", 1, 10);
        faulty("weaves = 1 + if 1 < 2 then 3 else 4;", 1, 13);
        faulty("dries = 1", 1, 9);
        faulty(";", 1, 0);
        faulty("gusts 101; row", 1, 14);
    }

    private static void room() {
        promise = 4;
        good("row o;".repeat(6));
        faulty("row o;".repeat(7), 2, 36);
        faulty("row o;".repeat(6) + "row 1", 2, 36);
        faulty("row o;".repeat(5) + "row 1;" + "row o;", 1, 34);
        String fields = "field a 1 2;field b 1 2;field c 1 2;field d 1 2;field e 1 2;field g 1 2;";
        good(fields);
        faulty(fields + "field h 1 2;", 2, 72);
        String looms = "loom i 1 2;loom j 1 2;loom k 1 2;loom l 1 2;";
        good(fields + looms);
        faulty(looms + "loom m 1 2;", 2, 44);
        String once = "if 1 < 2 then 3 else ";
        good("weaves = " + once.repeat(4) + "4; dries = " + once.repeat(4) + "5;");
        faulty("weaves = " + once.repeat(5) + "4;", 2, 93);
        good("weaves = ((((((1)))))) + ((((((1))))));");
        good("dries = if ((((((1)))))) < ((((((1)))))) then ((((((1)))))) else ((((((1))))));");
        faulty("weaves = (((((((1)))))));", 2, 15);
        faulty("weaves = if ((((((1)))))) < 1 then (((((((1))))))) else 1;", 2, 41);
        String full = "seed 1;".repeat(132) + "weaves=1;";
        good(full);
        good(full + "  ");
        faulty(full + "seed 1;", 2, 933);
        faulty(full + " x", 1, 934);
        faulty(full + "?", 1, 933);
        faulty("seed 1;".repeat(133) + "seed 1;", 2, 936);
        faulty("seed 1;".repeat(133) + "seed ;", 1, 936);
        faulty("seed 1;".repeat(133) + "seed", 1, 935);
        good("store 1;store 2;".repeat(30));
    }

    private static void laterFaults() {
        promise = 4;
        good("seed 0; store 0;");
        good("gusts 100; gusts 0; seed 9999; store 9999; field a 99 999; field b 0 0; loom l 8 99; loom m 1 0;");
        good("field a 9 3;");
        faulty("gusts 101;", 5, 6);
        faulty("field a 100 0;", 5, 8);
        faulty("field a 0 1000;", 5, 10);
        faulty("loom l 9 0;", 5, 7);
        faulty("loom l 0 0;", 5, 7);
        faulty("loom l 1 100;", 5, 9);
        faulty("loom l12 3;", 5, 6);
        faulty("field a 1 2; field a 1 2;", 3, 19);
        faulty("field a 1 2; loom a 1 0;", 3, 18);
        faulty("loom a 1 2; loom a 1 0;", 3, 17);
        faulty("field a 1 2; field a 100 2;", 3, 19);
        faulty("field a 100 2; field a 1 2;", 5, 8);
        faulty("row og;", 6, 4);
        faulty("row oo; row o;", 6, 12);
        faulty("row o; row oo;", 6, 11);
        faulty("row oo; row o; field a 100 1;", 6, 12);
        faulty("row a;", 6, 6);
        faulty("row ob; field a 1 2; ", 6, 21);
        faulty("row ob; field a 1 2; gusts 200;", 5, 27);
        faulty("row f; field a 1 2; field b 1 2; field c 1 2; field d 1 2; field e 1 2;", 6, 71);
        good("row f; field a 1 2; field b 1 2; field c 1 2; field d 1 2; field e 1 2; field g 1 2;");
        good("row a; field a 1 2; loom b 1 2;");
    }

    private static void reading() {
        promise = 4;
        RainLoom x = Texts.of(TEXT);
        x.order(0, 1, 1, 0, 0);
        x.days(2);
        x.tell(0, 0, 1);
        x.hold(1);
        due("read with a fault", Texts.read(x, "row"), 1);
        due("count(8)", x.count(8), 0);
        due("count(4)", x.count(4), 2);
        due("count(9)", x.count(9), 2);
        due("count(10)", x.count(10), 1);
        due("count(11)", x.count(11), 1);
        due("loom(0, 2)", x.loom(0, 2), 1);
        due("count(12)", x.count(12) > 0, true);
        promise = 5;
        due("place()", x.place(), 3);
        due("place() again", x.place(), 3);
        promise = 4;
        due("read again", Texts.read(x, TEXT), 0);
        int[] fresh = {3, 2, 2, 2, 0, 20, 0, 0, 0, 0, 0, 0, 0, 0};
        for (int what = 0; what < fresh.length; what++) {
            due("count(" + what + ") after read", x.count(what), fresh[what]);
        }
        due("loom(0, 2)", x.loom(0, 2), -2);
        due("loom(0, 1)", x.loom(0, 1), 0);
        due("undo()", x.undo(), false);
        due("restore(1)", x.restore(1), false);
        promise = 5;
        due("place()", x.place(), -1);
        promise = 4;
        due("read of nothing", x.read(), 0);
        due("count(1)", x.count(1), 0);
        due("count(5)", x.count(5), 100);
        RainLoom y = Texts.of("store 1; store 7; seed 3; gusts 4; weaves = 2; loom l 1 0; weaves = 3;");
        due("the last store", y.count(5), 7);
        due("the last law", y.thread(0, 0, 0), 3);
    }

    private static void state() {
        RainLoom x = Texts.of(TEXT);
        x.fall(1, 3, 1, 0, 0);
        x.fall(1, 1, 6, 1, 0);
        promise = 6;
        // LOOM 1 at pick 1: 2 0 2; at picks 2 and 3: 0 and 2 for warp 0.
        due("cell(0, 0, 1)", x.cell(0, 0, 1), 2);
        due("cell(1, 0, 1)", x.cell(1, 0, 1), 0);
        due("cell(1, 1, 1)", x.cell(1, 1, 1), 2);
        due("cell(2, 0, 1)", x.cell(2, 0, 1), 2);
        due("cell(0, 0, 2)", x.cell(0, 0, 2), 1);
        due("cell(2, 0, 2)", x.cell(2, 0, 2), 0);
        due("cell(1, 1, 2)", x.cell(1, 1, 2), 0);
        due("cell(1, 1, 0)", x.cell(1, 1, 0), -2);
        due("cell(2, 1, 0)", x.cell(2, 1, 0), 1);
        int[][] none = {{3, 0, 0}, {0, 2, 0}, {-1, 0, 0}, {0, -1, 0}, {0, 0, 4}, {0, 0, -1}};
        for (int[] a : none) {
            due("cell of none", x.cell(a[0], a[1], a[2]), -1);
        }
        RainLoom f = Texts.of("row ao; field a 2 3; loom l 2 0; weaves = 4;");
        f.fall(0, 2, 1, 0, 0);
        due("cell(0, 0, 3)", f.cell(0, 0, 3), 1);
        due("cell(1, 0, 3)", f.cell(1, 0, 3), 0);
        RainLoom e = Texts.of("row a; field a 3 3; loom l 1 0; weaves = 3;");
        e.fall(0, 1, 1, 0, 0);
        due("no more than DROWNS", e.cell(0, 0, 3), 0);
        due("as much as it NEEDS", e.cell(0, 0, 2), 0);
        promise = 7;
        due("field(0, 0)", x.field(0, 0), 3);
        due("field(0, 1)", x.field(0, 1), 2);
        due("field(1, 1)", x.field(1, 1), 2);
        due("field(0, 4)", x.field(0, 4), 9);
        due("field(1, 4)", x.field(1, 4), 4);
        due("field(2, 0)", x.field(2, 0), -1);
        due("field(-1, 0)", x.field(-1, 0), -1);
        due("field(0, 5)", x.field(0, 5), -1);
        due("field(0, -1)", x.field(0, -1), -1);
        x.days(2);
        due("field(0, 2)", x.field(0, 2), 6);
        due("field(1, 2)", x.field(1, 2), 3);
        due("field(0, 3)", x.field(0, 3), 0);
        f.days(3);
        // 4, 3, 2: FLOODED once, and LACKED not at all.
        due("field(0, 3)", f.field(0, 3), 1);
        due("field(0, 2)", f.field(0, 2), 0);
        promise = 8;
        due("loom(1, 0)", x.loom(1, 0), 3);
        due("loom(1, 1)", x.loom(1, 1), 8);
        due("loom(1, 6)", x.loom(1, 6), 10);
        due("loom(0, 6)", x.loom(0, 6), 0);
        due("loom(1, 7)", x.loom(1, 7), 0);
        x.order(1, 2, 3, 1, 0);
        int[] order = {2, 3, 1, 0};
        for (int what = 2; what <= 5; what++) {
            due("loom(1, " + what + ")", x.loom(1, what), order[what - 2]);
            due("loom(0, " + what + ")", x.loom(0, what), -2);
        }
        due("loom(2, 0)", x.loom(2, 0), -1);
        due("loom(-1, 0)", x.loom(-1, 0), -1);
        due("loom(0, 8)", x.loom(0, 8), -1);
        due("loom(0, -1)", x.loom(0, -1), -1);
        promise = 29;
        RainLoom n = Texts.of("row aab; field a 2 3; field b 0 0; loom l 3 0; weaves = warp * 4;");
        due("now(0, false)", n.now(0, false), 2);
        due("now(1, false)", n.now(1, false), 0);
        n.fall(0, 3, 1, 0, 0);
        due("now(0, false)", n.now(0, false), 1);
        due("now(0, true)", n.now(0, true), 1);
        due("now(1, true)", n.now(1, true), 1);
        due("now(2, true)", n.now(2, true), -1);
        due("now(-1, false)", n.now(-1, false), -1);
    }

    /** The first THREAD by a law, of pick 7 and warp 1 of LOOM 1, 5 wide. */
    private static int woven(String law) {
        return Texts.of("loom k 1 0; loom l 5 0; weaves = " + law + ";").thread(1, 1, 7);
    }

    private static void law(String law, int want) {
        due("weaves = " + law, woven(law), want);
    }

    private static void laws() {
        promise = 9;
        law("1 + 2 * 3", 7);
        law("9 - 2 - 3", 4);
        law("8 / 2 / 2", 2);
        law("9 - 8 / 4 * 2", 5);
        law("(1 + 2) * 2", 6);
        law("9 - (2 - 3)", 9);
        law("2 * (1 + (3 - 2) * 2) - 1", 5);
        law("10", 9);
        law("0 - 1", 0);
        law("(0 - 7) / 2 + 9", 6);
        law("7 / (0 - 2) + 9", 6);
        law("8192 * 8192 * 64 + 5", 5);
        law("8192 * 8192 * 32", 0);
        law("8192 * 8192 * 32 / (0 - 1) - 1", 9);
        law("8192 * 8192 * 32 - 1", 9);
        law("1 / 0 + 9", 0);
        law("9 + 0 * (3 / (1 - 1))", 0);
        law("if 1 < 2 then 5 else 1 / 0", 5);
        law("if 1 / 0 < 2 then 5 else 6", 0);
        law("if 1 < 2 / 0 then 5 else 6", 0);
        law("if 2 < 1 then 1 / 0 else 6", 6);
        law("if 1 < 2 then 1 / 0 else 6", 0);
        law("if 1 < 1 then 2 else 3", 3);
        law("if 2 < 1 then 2 else if 1 < 2 then 3 else 4", 3);
        law("if 2 < 1 then 2 else if 2 < 1 then 3 else if 2 < 1 then 4 else if 2 < 1 then 5 else 6", 6);
        law("if 0 - 1 < 0 then 7 else 8", 7);
        law("shed", 3);
        law("warp", 1);
        law("pick", 7);
        law("which", 1);
        law("wide", 5);
        law("5 + water + needs + drowns + day", 5);
        RainLoom x = Texts.of("loom k 3 5; weaves = pick - 9990;");
        due("thread(0, 0, 9999)", x.thread(0, 0, 9999), 9);
        due("thread(0, 0, 9995)", x.thread(0, 2, 9995), 5);
        due("thread(0, 0, 10000)", x.thread(0, 0, 10000), -1);
        due("thread(0, 0, -1)", x.thread(0, 0, -1), -1);
        due("thread(0, 3, 0)", x.thread(0, 3, 0), -1);
        due("thread(0, -1, 0)", x.thread(0, -1, 0), -1);
        due("thread(1, 0, 0)", x.thread(1, 0, 0), -1);
        due("thread(-1, 0, 0)", x.thread(-1, 0, 0), -1);
        due("weaves 1, if not told", Texts.of("loom k 3 5;").thread(0, 2, 3), 1);
    }

    private static void orders() {
        promise = 10;
        RainLoom x = Texts.of(TEXT);
        int[][] none = {{2, 1, 1, 0, 0}, {-1, 1, 1, 0, 0}, {0, 0, 1, 0, 0}, {0, 3, 1, 0, 0}, {0, 1, 0, 0, 0}, {0, 1, 7, 0, 0},
            {0, 1, 1, 3, 0}, {0, 1, 1, 0, 2}, {0, 1, 1, -1, 0}, {0, 1, 1, 0, -1}};
        for (int[] a : none) {
            due("order of none", x.order(a[0], a[1], a[2], a[3], a[4]), false);
            promise = 12;
            due("fall of none", x.fall(a[0], a[1], a[2], a[3], a[4]), -1);
            promise = 10;
        }
        due("count(9)", x.count(9), 0);
        due("order", x.order(0, 2, 6, 2, 1), true);
        due("order, which is so", x.order(0, 2, 6, 2, 1), false);
        due("count(9)", x.count(9), 1);
        due("another one", x.order(0, 2, 5, 2, 1), true);
        due("loom(0, 3)", x.loom(0, 3), 5);
        due("another one", x.order(0, 2, 6, 1, 1), true);
        due("another one", x.order(0, 2, 6, 1, 0), true);
        due("another one", x.order(0, 1, 6, 1, 0), true);
        promise = 11;
        due("stop(1)", x.stop(1), false);
        due("stop(2)", x.stop(2), false);
        due("stop(-1)", x.stop(-1), false);
        due("stop(0)", x.stop(0), true);
        due("loom(0, 2)", x.loom(0, 2), -2);
        due("stop(0) again", x.stop(0), false);
        due("count(9)", x.count(9), 6);
        promise = 10;
        due("order after stop", x.order(0, 1, 6, 1, 0), true);
    }

    private static void falls() {
        promise = 12;
        RainLoom x = Texts.of("row ooo; row ooo; loom l 3 0; weaves = pick * 3 + warp; store 30;");
        // Picks 0 and 1 are 0 1 2, 3 4 5; pick 2 is 6 7 8, of which 2 do not fit any more.
        due("fall(0, 3, 2, 1, 0)", x.fall(0, 3, 2, 1, 0), 15);
        due("cell(1, 0, 1)", x.cell(1, 0, 1), 0);
        due("cell(2, 0, 1)", x.cell(2, 0, 1), 1);
        due("cell(1, 1, 1)", x.cell(1, 1, 1), 3);
        due("cell(2, 1, 1)", x.cell(2, 1, 1), 4);
        due("count(5)", x.count(5), 15);
        due("loom(0, 1)", x.loom(0, 1), 2);
        due("torn", x.fall(0, 3, 2, 0, 0), 13);
        due("cell(0, 0, 1)", x.cell(0, 0, 1), 6);
        due("cell(1, 0, 1)", x.cell(1, 0, 1), 7);
        due("cell(2, 0, 1)", x.cell(2, 0, 1), 1);
        due("cell(0, 1, 1)", x.cell(0, 1, 1), 0);
        due("count(5)", x.count(5), 2);
        due("loom(0, 7)", x.loom(0, 7), 1);
        due("loom(0, 6)", x.loom(0, 6), 28);
        due("loom(0, 1)", x.loom(0, 1), 4);
        due("torn at once", x.fall(0, 1, 1, 0, 0), 0);
        due("loom(0, 1)", x.loom(0, 1), 5);
        due("loom(0, 7)", x.loom(0, 7), 2);
        // Nothing more is woven, even what would fit: 3, then 1.
        RainLoom t = Texts.of("row oo; loom l 2 0; weaves = if warp < 1 then 3 else 1; store 2;");
        due("torn", t.fall(0, 2, 1, 0, 0), 0);
        due("cell(1, 0, 1)", t.cell(1, 0, 1), 0);
        due("count(5)", t.count(5), 2);
        RainLoom z = Texts.of("row o; loom l 1 0; weaves = 0; store 0;");
        due("nothing of nothing", z.fall(0, 1, 6, 0, 0), 0);
        due("is not torn", z.loom(0, 7), 0);
        RainLoom wet = Texts.of("row o; loom l 1 0; weaves = 9; store 9999; dries = 0;");
        for (int n = 0; n < 111; n++) {
            wet.fall(0, 1, 1, 0, 0);
        }
        due("cell(0, 0, 1)", wet.cell(0, 0, 1), 999);
        due("fall", wet.fall(0, 1, 1, 0, 0), 9);
        due("999 at most", wet.cell(0, 0, 1), 999);
        due("count(5)", wet.count(5), 9999 - 112 * 9);
    }

    private static void turnsAndDays() {
        promise = 13;
        RainLoom x = Texts.of(TEXT);
        due("turn(0, 1)", x.turn(0, 1), 1);
        due("turn(1, 99)", x.turn(1, 99), 100);
        due("turn(0, 0)", x.turn(0, 0), -1);
        due("turn(0, 100)", x.turn(0, 100), -1);
        due("turn(2, 1)", x.turn(2, 1), -1);
        due("turn(-1, 1)", x.turn(-1, 1), -1);
        due("loom(0, 1)", x.loom(0, 1), 1);
        due("count(7)", x.count(7), 0);
        due("count(9)", x.count(9), 2);
        promise = 14;
        due("days(0)", x.days(0), 0);
        due("count(9)", x.count(9), 2);
        due("days(31)", x.days(31), -1);
        due("days(-1)", x.days(-1), -1);
        due("days(30)", x.days(30), 30);
        due("count(9)", x.count(9), 3);
        due("days(0)", x.days(0), 30);
        due("count(5)", x.count(5), 80);
        RainLoom y = Texts.of("row ao; field a 2 3; loom l 2 0; loom m 1 0; weaves = 4 + which; store 20; "
            + "dries = if water < 6 then needs + day else drowns + day * 2; gathers = day * 7 + 1;");
        y.order(0, 2, 1, 0, 0);
        y.order(1, 1, 1, 1, 0);
        // Day 0: 4 and 9 fall; the first dries by 2 + 0, the other (no FIELD) by 0.
        due("days(1)", y.days(1), 1);
        due("cell(0, 0, 1)", y.cell(0, 0, 1), 2);
        due("cell(1, 0, 1)", y.cell(1, 0, 1), 9);
        due("count(13)", y.count(13), 1);
        due("count(12)", y.count(12), 0);
        due("count(5)", y.count(5), 8);
        // Day 1: 4 and 4 fall, 5 is torn; 6 dries by 3 + 2, 13 by 0 + 2.
        due("days(1)", y.days(1), 2);
        due("cell(0, 0, 1)", y.cell(0, 0, 1), 1);
        due("cell(1, 0, 1)", y.cell(1, 0, 1), 11);
        due("loom(1, 7)", y.loom(1, 7), 1);
        due("loom(1, 1)", y.loom(1, 1), 2);
        due("count(5)", y.count(5), 8);
        RainLoom v = Texts.of("row o; loom l 1 3; weaves = 9; store 9990; "
            + "dries = 1 + pick + warp + shed + which + wide; gathers = 6 + water + needs + drowns + pick + wide;");
        v.fall(0, 1, 1, 0, 0);
        v.days(1);
        due("dries by 1", v.cell(0, 0, 1), 8);
        due("gathers 6", v.count(5), 9987);
        v.days(3);
        due("9999 at most", v.count(5), 9999);
        RainLoom w = Texts.of("row o; loom l 1 0; weaves = 9; dries = 0 - 5; gathers = 2000; store 9000;");
        w.fall(0, 1, 1, 0, 0);
        w.days(1);
        due("dries 0 at least", w.cell(0, 0, 1), 9);
        due("gathers 999 at most", w.count(5), 9990);
        RainLoom d = Texts.of("row o; loom l 1 0; weaves = 9; dries = 1000; store 999;");
        for (int n = 0; n < 12; n++) {
            d.fall(0, 1, 1, 0, 0);
        }
        d.days(1);
        due("dries 99 at most", d.cell(0, 0, 1), 9);
        d.days(1);
        due("0 at least", d.cell(0, 0, 1), 0);
        RainLoom both = Texts.of("row a; field a 9 2; loom l 1 0; weaves = 5;");
        both.order(0, 1, 1, 0, 0);
        both.days(1);
        due("LACKED", both.field(0, 2), 1);
        due("and FLOODED", both.field(0, 3), 1);
    }

    private static void gusts() {
        promise = 14;
        // LOT 100 of SEED 7, LOOMS 0 and 1, by days: 61 3, 82 25, 42 34, 63 36, 7 32, 16 95.
        String text = "row ooo; row ooo; loom l 1 0; loom m 1 0; dries = 0; seed 7; ";
        RainLoom x = Texts.of(text + "gusts 42;");
        x.order(0, 1, 1, 0, 0);
        x.order(1, 1, 1, 1, 1);
        x.days(6);
        due("cell(0, 0, 1)", x.cell(0, 0, 1), 4);
        due("cell(1, 0, 1)", x.cell(1, 0, 1), 2);
        due("cell(1, 1, 1)", x.cell(1, 1, 1), 1);
        due("cell(2, 1, 1)", x.cell(2, 1, 1), 5);
        RainLoom y = Texts.of(text + "gusts 43;");
        y.order(0, 1, 1, 2, 0);
        y.days(6);
        due("cell(2, 0, 1)", y.cell(2, 0, 1), 3);
        due("beyond the land is woven", y.loom(0, 6), 6);
        y.fall(0, 1, 1, 0, 0);
        due("by hand there are no gusts", y.cell(0, 0, 1), 1);
        RainLoom none = Texts.of(text);
        none.order(0, 1, 1, 0, 0);
        none.days(30);
        due("no gusts, if not told", none.cell(0, 0, 1), 30);
    }

    private static void undoing() {
        promise = 15;
        RainLoom x = Texts.of(TEXT);
        due("undo()", x.undo(), false);
        x.order(0, 2, 2, 1, 0);
        x.order(0, 1, 1, 0, 0);
        x.stop(0);
        x.fall(1, 3, 1, 0, 0);
        x.turn(1, 9);
        x.days(4);
        due("undo of days", x.undo(), true);
        due("count(4)", x.count(4), 0);
        due("count(12)", x.count(12), 0);
        due("count(5)", x.count(5), 16);
        due("cell(0, 0, 1)", x.cell(0, 0, 1), 2);
        due("undo of turn", x.undo(), true);
        due("loom(1, 1)", x.loom(1, 1), 2);
        due("undo of fall", x.undo(), true);
        due("loom(1, 1)", x.loom(1, 1), 1);
        due("loom(1, 6)", x.loom(1, 6), 0);
        due("count(5)", x.count(5), 20);
        due("count(6)", x.count(6), 0);
        due("undo of stop", x.undo(), true);
        due("loom(0, 2)", x.loom(0, 2), 1);
        due("undo of order", x.undo(), true);
        due("loom(0, 2)", x.loom(0, 2), 2);
        due("undo of order", x.undo(), true);
        due("loom(0, 2)", x.loom(0, 2), -2);
        due("undo()", x.undo(), false);
        for (int n = 1; n <= 37; n++) {
            x.turn(0, 1);
            due("count(9)", x.count(9), Math.min(n, 30));
        }
        for (int n = 36; n >= 7; n--) {
            due("undo()", x.undo(), true);
            due("loom(0, 1)", x.loom(0, 1), n);
        }
        due("the 31st", x.undo(), false);
        due("loom(0, 1)", x.loom(0, 1), 7);
    }

    private static void cloth() {
        RainLoom x = Texts.of(TEXT);
        promise = 16;
        due("holds(0, 2, 6, false)", x.holds(0, 2, 6, false), 18);
        due("holds(1, 3, 2, false)", x.holds(1, 3, 2, false), 6);
        due("holds(1, 3, 2, true)", x.holds(1, 3, 2, true), 3);
        x.turn(1, 1);
        due("holds(1, 1, 1, true)", x.holds(1, 1, 1, true), 1);
        int[][] none = {{2, 1, 1}, {-1, 1, 1}, {0, 3, 1}, {0, 0, 1}, {0, 1, 0}, {0, 1, 7}};
        for (int[] a : none) {
            due("holds of none", x.holds(a[0], a[1], a[2], false), -1);
        }
        due("whatever the STORE", Texts.of("loom l 8 0; weaves = 9; store 0;").holds(0, 8, 6, false), 432);
        promise = 17;
        RainLoom y = Texts.of("loom l 3 10; weaves = if pick - warp * 50 < 60 then 0 else 4;");
        // Warp 0 from pick 60 on, warp 1 from 110, warp 2 from 160 on.
        due("comes(0, 3, 0)", y.comes(0, 3, 0), 0);
        due("comes(0, 3, 1)", y.comes(0, 3, 1), 50);
        due("comes(0, 3, 3)", y.comes(0, 3, 3), 100);
        due("comes(0, 3, 7)", y.comes(0, 3, 7), 150);
        due("comes(0, 2, 3)", y.comes(0, 2, 3), 100);
        due("comes(0, 3, 4)", y.comes(0, 3, 4), -2);
        due("comes(0, 3, 8)", y.comes(0, 3, 8), -1);
        due("comes(0, 3, -1)", y.comes(0, 3, -1), -1);
        due("comes(0, 4, 0)", y.comes(0, 4, 0), -1);
        due("comes(0, 0, 0)", y.comes(0, 0, 0), -1);
        due("comes(1, 1, 0)", y.comes(1, 1, 0), -1);
        RainLoom late = Texts.of("loom l 1 0; loom m 1 1; weaves = if pick - which < 200 + which then 0 else 1;");
        due("behind 200", late.comes(0, 1, 1), 200);
        due("behind 201", late.comes(1, 1, 1), -2);
        promise = 18;
        due("round(0)", Texts.of("loom l 2 3; weaves = shed;").round(0), 4);
        due("round(0)", Texts.of("loom l 2 3;").round(0), 1);
        due("round(0)", Texts.of("loom l 2 3; weaves = pick - 200;").round(0), 1);
        due("round(0)", Texts.of("loom l 2 3; weaves = if pick < 50 then 1 else 2;").round(0), -2);
        due("round(0)", Texts.of("loom l 2 3; weaves = if pick < 51 then 1 else 2;").round(0), -2);
        due("round(0)", Texts.of("loom l 1 0; weaves = if pick - pick / 99 * 99 < 1 then 1 else 0;").round(0), 99);
        due("round(0)", Texts.of("loom l 1 0; weaves = if pick - pick / 100 * 100 < 1 then 1 else 0;").round(0), -2);
        due("round(0)", Texts.of("loom l 2 0; weaves = if 0 < warp then pick - pick / 6 * 6 else shed / 2;").round(0), 12);
        due("round(1)", Texts.of("loom l 2 0;").round(1), -1);
        due("round(-1)", Texts.of("loom l 2 0;").round(-1), -1);
        // Other than every second one from pick 50 on, which is beyond the 48; from pick 49 on, which is not.
        due("for 48 PICKS", Texts.of("loom l 1 0; weaves = if 47 < pick then pick / 49 else pick - pick / 2 * 2;").round(0), 2);
        due("for 48 PICKS", Texts.of("loom l 1 0; weaves = if 47 < pick then pick / 50 else pick - pick / 2 * 2;").round(0), -2);
        promise = 19;
        RainLoom a = Texts.of("loom l 2 0; loom m 3 7; weaves = (pick + warp) - (pick + warp) / 10 * 10 + which * 0;");
        due("agree(0, 1)", a.agree(0, 1), -2);
        due("agree(0, 0)", a.agree(0, 0), -1);
        due("agree(0, 2)", a.agree(0, 2), -1);
        due("agree(-1, 0)", a.agree(-1, 0), -1);
        a.turn(0, 7);
        due("agree(0, 1)", a.agree(0, 1), 0);
        RainLoom b = Texts.of("loom l 1 0; loom m 2 50; weaves = if pick < 100 then which else if warp < 1 then 5 else which;");
        due("agree(0, 1)", b.agree(0, 1), 100);
        due("agree(1, 0)", b.agree(1, 0), 100);
        RainLoom c = Texts.of("loom l 1 0; loom m 1 0; weaves = if pick < 200 then which else 3;");
        due("behind 200", c.agree(0, 1), 200);
        RainLoom d = Texts.of("loom l 1 0; loom m 1 0; weaves = if pick < 201 then which else 3;");
        due("behind 201", d.agree(0, 1), -2);
        RainLoom e = Texts.of("loom l 8 0; loom m 8 0; weaves = if warp < 7 then 3 else if pick < 30 then which * 9 else 9;");
        due("in the last warp", e.agree(0, 1), 30);
    }

    private static void where() {
        promise = 20;
        RainLoom x = Texts.of(TEXT);
        due("where(0, 2, 2, 0)", x.where(0, 2, 2, 0), 1);
        due("where(0, 2, 2, 1)", x.where(0, 2, 2, 1), 1);
        due("where(0, 2, 2, 2)", x.where(0, 2, 2, 2), 0);
        due("where(0, 2, 3, 0)", x.where(0, 2, 3, 0), -1000);
        int[][] none = {{2, 1, 1, 0}, {-1, 1, 1, 0}, {0, 3, 1, 0}, {0, 0, 1, 0}, {0, 1, 0, 0}, {0, 1, 7, 0}, {0, 1, 1, 3}, {0, 1, 1, -1}};
        for (int[] a : none) {
            due("where of none", x.where(a[0], a[1], a[2], a[3]), -1000);
        }
        due("nothing happened", x.count(5) + x.loom(0, 1) + x.count(9), 20);
        // Each place of field a drowns; those of b have enough with 4; alike ones: Y before X.
        RainLoom y = Texts.of("row aob; row bao; field a 1 3; field b 2 9; loom l 1 0; weaves = 4;");
        due("where(0, 1, 1, 0)", y.where(0, 1, 1, 0), 1);
        due("where(0, 1, 1, 1)", y.where(0, 1, 1, 1), 2);
        due("where(0, 1, 1, 2)", y.where(0, 1, 1, 2), 0);
        RainLoom worse = Texts.of("row aa; field a 0 3; loom l 2 0; weaves = 4;");
        due("fewer than none", worse.where(0, 2, 1, 0), -2);
        due("drowned already", worse.fall(0, 2, 1, 0, 0), 8);
        due("none more", worse.where(0, 2, 1, 0), 0);
        RainLoom torn = Texts.of("row aa; field a 4 9; loom l 2 0; weaves = 4; store 7;");
        due("torn", torn.where(0, 2, 1, 0), 1);
        due("with no land", Texts.of("loom l 1 0;").where(0, 1, 1, 0), -1000);
        RainLoom later = Texts.of("row oooo; row oooa; field a 1 9; loom l 2 0;");
        due("X", later.where(0, 2, 2, 1), 2);
        due("Y", later.where(0, 2, 1, 2), 1);
    }

    private static void cutting() {
        promise = 21;
        RainLoom x = new RainLoom();
        int[][] cuts = {{86, 0, 0, 0, 6}, {11, 0, 0, 0, 1}, {42, 42, 0, 0, 2}, {52, 42, 0, 0, 4}, {81, 82, 83, 84, 10},
            {86, 86, 86, 86, 24}, {53, 32, 31, 0, 3}, {45, 44, 42, 41, 6}, {26, 26, 26, 26, 6}, {36, 36, 36, 11, 12},
            {36, 36, 26, 11, 7}, {42, 33, 22, 15, 5}, {44, 42, 42, 81, 5}, {51, 32, 52, 31, 3}, {13, 71, 71, 71, 3},
            {62, 26, 24, 62, 8}, {32, 52, 53, 33, 5}, {53, 35, 35, 53, 8}, {0, 0, 0, 0, -1}, {17, 0, 0, 0, -1},
            {10, 0, 0, 0, -1}, {9, 0, 0, 0, -1}, {91, 0, 0, 0, -1}, {42, 0, 42, 0, -1}, {42, 0, 0, 42, -1}, {42, 42, 0, 42, -1},
            {0, 42, 0, 0, -1}, {-42, 0, 0, 0, -1}, {42, 42, 42, -1, -1}, {42, 42, 42, 97, -1}, {101, 0, 0, 0, -1},
            {Integer.MIN_VALUE, 0, 0, 0, -1}, {42, Integer.MAX_VALUE, 0, 0, -1}};
        for (int[] c : cuts) {
            due("cut(" + c[0] + ", " + c[1] + ", " + c[2] + ", " + c[3] + ")", x.cut(c[0], c[1], c[2], c[3]), c[4]);
        }
    }

    private static void ahead() {
        RainLoom x = Texts.of("row aob; field a 2 5; field b 3 4; loom l 3 0; weaves = warp * 2 + 1; store 21; gathers = 1;");
        x.order(0, 3, 1, 0, 0);
        // Each day 1 3 5 fall and 1 dries. Days: 0 2 4; 0 4 8; STORE 21 13 5, then all but 5 fits, and 1 more comes.
        promise = 22;
        due("then(1, 0, 0)", x.then(1, 0, 0), 0);
        due("then(1, 0, 1)", x.then(1, 0, 1), 2);
        due("then(2, 0, 1)", x.then(2, 0, 1), 4);
        due("then(2, 0, 2)", x.then(2, 0, 2), 8);
        due("then(2, 0, 3)", x.then(2, 0, 3), 7);
        due("then(1, 0, 3)", x.then(1, 0, 3), 6);
        due("then(1, 0, 60)", x.then(1, 0, 60) >= 0, true);
        due("then(1, 0, 61)", x.then(1, 0, 61), -1);
        due("then(1, 0, -1)", x.then(1, 0, -1), -1);
        due("then(3, 0, 1)", x.then(3, 0, 1), -1);
        due("then(0, 1, 1)", x.then(0, 1, 1), -1);
        due("then(-1, 0, 1)", x.then(-1, 0, 1), -1);
        promise = 23;
        due("all(0, 0)", x.all(0, 0), 0);
        due("all(1, 0)", x.all(1, 0), 1);
        due("all(2, 0)", x.all(2, 0), 2);
        due("all(1, 1)", x.all(1, 1), 1);
        due("all(3, 1)", x.all(3, 1), 3);
        due("all(0, 2)", x.all(0, 2), 21);
        due("all(2, 2)", x.all(2, 2), 5);
        due("all(3, 2)", x.all(3, 2), 2);
        due("all(61, 0)", x.all(61, 0), -1);
        due("all(-1, 0)", x.all(-1, 0), -1);
        due("all(1, 3)", x.all(1, 3), -1);
        due("all(1, -1)", x.all(1, -1), -1);
        promise = 24;
        due("wettest(2, 0)", x.wettest(2, 0), 8);
        due("wettest(2, 1)", x.wettest(2, 1), 2);
        due("wettest(2, 2)", x.wettest(2, 2), 0);
        due("wettest(0, 1)", x.wettest(0, 1), 0);
        due("wettest(61, 0)", x.wettest(61, 0), -1);
        due("wettest(-1, 0)", x.wettest(-1, 0), -1);
        due("wettest(1, 3)", x.wettest(1, 3), -1);
        due("wettest(1, -1)", x.wettest(1, -1), -1);
        RainLoom alike = Texts.of("row oo; row oo; loom l 1 0; weaves = 3;");
        alike.order(0, 1, 1, 0, 1);
        alike.fall(0, 1, 1, 1, 0);
        due("wettest(0, 1)", alike.wettest(0, 1), 1);
        due("wettest(1, 2)", alike.wettest(1, 2), 0);
        due("wettest(1, 1)", alike.wettest(1, 1), 1);
        due("no CELLS", new RainLoom().wettest(0, 0), -2);
        promise = 25;
        due("dry(0)", x.dry(0), 3);
        due("dry(1)", x.dry(1), 1);
        due("dry(61)", x.dry(61), -1);
        due("dry(-1)", x.dry(-1), -1);
        due("dry(1) of no land", new RainLoom().dry(1), 0);
        promise = 26;
        due("emptyBy()", x.emptyBy(), -2);
        RainLoom e = Texts.of("row o; loom l 1 0; store 200;");
        due("emptyBy()", e.emptyBy(), -2);
        e.order(0, 1, 1, 0, 0);
        due("emptyBy()", e.emptyBy(), 200);
        e.days(1);
        due("emptyBy()", e.emptyBy(), 199);
        RainLoom f = Texts.of("row o; loom l 1 0; store 201;");
        f.order(0, 1, 1, 0, 0);
        due("emptyBy()", f.emptyBy(), -2);
        due("emptyBy()", Texts.of("store 0;").emptyBy(), 0);
        promise = 22;
        due("nothing happened", x.count(4) + x.count(9) + x.count(5) + x.count(6), 22);
    }

    private static void serving() {
        // 2 by 1: LOOMS hold 2, 6, 10; FIELDS need 4 (one of 4), 9 (three of 3), 0 and 2.
        String text = "row abbbd; field a 4 9; field b 3 9; field c 5 9; field d 2 9; loom l 2 0; loom m 3 0; loom n 4 0; "
            + "weaves = which * 2 + 1;";
        RainLoom x = Texts.of(text);
        promise = 27;
        due("serve(2, 1, -1)", x.serve(2, 1, -1), 3);
        due("serve(2, 1, 0)", x.serve(2, 1, 0), 3);
        due("serve(2, 1, 1)", x.serve(2, 1, 1), 0);
        due("serve(2, 1, 2)", x.serve(2, 1, 2), 1);
        due("serve(2, 1, 3)", x.serve(2, 1, 3), -1);
        due("serve(2, 1, -2)", x.serve(2, 1, -2), -1);
        due("serve(3, 1, -1)", x.serve(3, 1, -1), -1);
        due("serve(0, 1, -1)", x.serve(0, 1, -1), -1);
        due("serve(1, 0, -1)", x.serve(1, 0, -1), -1);
        due("serve(1, 7, -1)", x.serve(1, 7, -1), -1);
        RainLoom alike = Texts.of("row abc; field a 3 9; field b 5 9; field c 4 9; loom l 1 0; loom m 1 0; weaves = 4;");
        due("alike", alike.serve(1, 1, -1), 1);
        due("the first by LOOM 0's FIELD", alike.serve(1, 1, 0), 0);
        due("then the next one's", alike.serve(1, 1, 1), 2);
        due("more LOOMS", Texts.of("loom l 1 0; row a; loom m 1 0; field a 1 1;").serve(1, 1, 0), -2);
        RainLoom loomless = Texts.of("row a; field a 1 1;");
        due("no LOOMS", loomless.serve(1, 1, -1), 0);
        due("no LOOMS, as wide as one can be", loomless.serve(8, 6, -1), 0);
        due("wider than any LOOM can be", loomless.serve(9, 1, -1), -1);
        due("wider than any LOOM can be, no text", new RainLoom().serve(37, 1, -1), -1);
        due("the greatest", new RainLoom().serve(Integer.MAX_VALUE, 1, -1), -1);
        due("no LOOM of that number", loomless.serve(1, 1, 0), -1);
        RainLoom widest = Texts.of("row a; field a 5 9; loom l 8 0;");
        due("8 wide", widest.serve(8, 1, -1), 3);
        due("9 wide", widest.serve(9, 1, -1), -1);
        promise = 28;
        due("suits(0, 2, 1)", x.suits(0, 2, 1), 0);
        due("suits(1, 2, 1)", x.suits(1, 2, 1), 2);
        due("suits(2, 2, 1)", x.suits(2, 2, 1), 0);
        due("suits(0, 3, 1)", x.suits(0, 3, 1), 1);
        due("suits(0, 4, 1)", x.suits(0, 4, 1), 2);
        due("suits(0, 5, 1)", x.suits(0, 5, 1), -2);
        due("suits(0, 8, 6)", x.suits(0, 8, 6), -2);
        due("suits(0, 9, 1)", x.suits(0, 9, 1), -1);
        due("suits(0, 0, 1)", x.suits(0, 0, 1), -1);
        due("suits(0, 1, 0)", x.suits(0, 1, 0), -1);
        due("suits(0, 1, 7)", x.suits(0, 1, 7), -1);
        due("suits(4, 1, 1)", x.suits(4, 1, 1), -1);
        due("suits(-1, 1, 1)", x.suits(-1, 1, 1), -1);
        x.turn(0, 1);
        due("nothing but the LAW", x.suits(0, 2, 1), 0);
    }

    private static void years() {
        promise = 30;
        // SEED 9999: LOOM 0's LOTS 48, 6; SEED 10000: 2, 72. With GUSTS 10 days 1 and 0 are gusty.
        RainLoom x = Texts.of("row ao; field a 1 9; loom l 1 0; gusts 10; seed 9999;");
        x.order(0, 1, 1, 0, 0);
        due("year(0, 1)", x.year(0, 1), 0);
        due("year(1, 1)", x.year(1, 1), 0);
        due("year(2, 1)", x.year(2, 1), 1);
        due("year(1, 2)", x.year(1, 2), 1);
        due("year(2, 2)", x.year(2, 2), 2);
        due("year(61, 1)", x.year(61, 1), -1);
        due("year(-1, 1)", x.year(-1, 1), -1);
        due("year(1, 0)", x.year(1, 0), -1);
        due("year(1, 21)", x.year(1, 21), -1);
        due("year(60, 20)", x.year(60, 20) >= 0, true);
        x.days(2);
        due("count(12)", x.count(12), 1);
        due("more, not so far", x.year(0, 5), 0);
        RainLoom calm = Texts.of("row ab; field a 1 9; field b 2 9;");
        due("year(60, 20)", calm.year(60, 20), 2400);
    }

    private static void telling() {
        promise = 31;
        RainLoom x = Texts.of(TEXT);
        due("tell(0, 0, -1)", x.tell(0, 0, -1), -1);
        due("tell(0, 0, 1000)", x.tell(0, 0, 1000), -1);
        due("tell(3, 0, 0)", x.tell(3, 0, 0), -1);
        due("tell(0, 2, 0)", x.tell(0, 2, 0), -1);
        due("tell(-1, 0, 0)", x.tell(-1, 0, 0), -1);
        for (int n = 0; n < 20; n++) {
            due("tell " + n, x.tell(n % 3, n % 2, n == 19 ? 999 : 0), n);
        }
        due("tell 20", x.tell(0, 0, 0), -1);
        due("count(10)", x.count(10), 20);
        promise = 32;
        due("forget()", x.forget(), 20);
        due("forget()", x.forget(), 0);
        due("count(10)", x.count(10), 0);
        due("tell again", x.tell(0, 0, 0), 0);
        x.forget();
        promise = 33;
        // LOOM 0: 1 2 / 2 1, LOOM 1: 2 0 / 0 2, each at X 0 and 1.
        int[] ways = {0, 1, 100, 101};
        due("fell(0, 2, 2, -1)", x.fell(0, 2, 2, -1), 4);
        for (int i = 0; i < 4; i++) {
            due("fell(0, 2, 2, " + i + ")", x.fell(0, 2, 2, i), ways[i]);
        }
        due("fell(0, 2, 2, 4)", x.fell(0, 2, 2, 4), -1);
        due("fell(0, 2, 2, -2)", x.fell(0, 2, 2, -2), -1);
        due("fell(0, 1, 1, -1)", x.fell(0, 1, 1, -1), 12);
        due("fell(0, 1, 1, 4)", x.fell(0, 1, 1, 4), 11);
        due("fell(0, 1, 1, 11)", x.fell(0, 1, 1, 11), 112);
        due("fell(0, 3, 1, -1)", x.fell(0, 3, 1, -1), 2);
        due("fell(0, 4, 1, -1)", x.fell(0, 4, 1, -1), 0);
        due("fell(0, 1, 3, -1)", x.fell(0, 1, 3, -1), 0);
        due("fell(0, 9, 1, -1)", x.fell(0, 9, 1, -1), -1);
        due("fell(0, 0, 1, -1)", x.fell(0, 0, 1, -1), -1);
        due("fell(0, 1, 7, -1)", x.fell(0, 1, 7, -1), -1);
        due("fell(0, 1, 0, -1)", x.fell(0, 1, 0, -1), -1);
        due("fell(1, 1, 1, -1)", x.fell(1, 1, 1, -1), -1);
        due("fell(-1, 1, 1, -1)", x.fell(-1, 1, 1, -1), -1);
        x.tell(1, 0, 2);
        due("fell(1, 2, 2, -1)", x.fell(1, 2, 2, -1), 2);
        due("fell(1, 2, 2, 1)", x.fell(1, 2, 2, 1), 101);
        x.tell(1, 1, 0);
        due("fell(2, 2, 2, -1)", x.fell(2, 2, 2, -1), 1);
        due("fell(2, 2, 2, 0)", x.fell(2, 2, 2, 0), 101);
        x.tell(1, 0, 1);
        due("fell(3, 2, 2, -1)", x.fell(3, 2, 2, -1), 0);
        due("by the first 1", x.fell(1, 2, 2, -1), 2);
        RainLoom poor = Texts.of("row oo; loom l 1 0; loom m 1 0; weaves = 5 + which; store 5;");
        due("whatever is in the STORE", poor.fell(0, 1, 1, -1), 4);
        poor.fall(0, 1, 1, 0, 0);
        due("the STORE is empty", poor.count(5), 0);
        due("whatever is left in the STORE", poor.fell(0, 1, 1, -1), 4);
        due("of LOOM 1 too", poor.fell(0, 1, 1, 3), 101);
        poor.tell(1, 0, 6);
        due("it was not TORN", poor.fell(1, 1, 1, 0), 101);
        RainLoom bare = Texts.of("row ooo; loom l 2 0; weaves = 9 - warp; store 0;");
        bare.tell(0, 0, 9);
        due("no STORE at all", bare.fell(1, 2, 1, -1), 1);
        // Only at Y 1 the last of 5 by 4 THREADS, 3 * 2 + 4 - 3, is on the last CELL.
        RainLoom deep = Texts.of("row ooooo; row ooooo; row ooooo; row ooooo; row ooooo; loom l 5 0; weaves = pick * 2 + warp - 3;");
        deep.tell(4, 4, 7);
        due("fell(1, 5, 4, -1)", deep.fell(1, 5, 4, -1), 1);
        due("fell(1, 5, 4, 0)", deep.fell(1, 5, 4, 0), 10);
        promise = 34;
        due("look(0, 2, 2)", x.look(0, 2, 2), 0);
        due("look(1, 2, 2)", x.look(1, 2, 2), 0);
        due("look(4, 2, 2)", x.look(4, 2, 2), -1);
        due("look(-1, 2, 2)", x.look(-1, 2, 2), -1);
        due("look(0, 9, 1)", x.look(0, 9, 1), -1);
        due("look(0, 0, 1)", x.look(0, 0, 1), -1);
        due("look(0, 1, 0)", x.look(0, 1, 0), -1);
        due("look(0, 1, 7)", x.look(0, 1, 7), -1);
        due("no CELLS", new RainLoom().look(0, 1, 1), -2);
        due("no ways", x.look(3, 2, 2), 0);
        due("whatever is in the STORE", Texts.of("row ooooo; loom l 3 0; weaves = warp + 1; store 0;").look(0, 3, 1), 1);
        // 1 2 3 over five CELLS, at X 0, 1, 2: at X 1 it is 2, 1, 0.
        RainLoom y = Texts.of("row ooooo; loom l 3 0; weaves = warp + 1;");
        due("look(0, 3, 1)", y.look(0, 3, 1), 1);
        // 9 9 9: at X 0 two of three ways are 0, at X 2 all three are 9.
        due("look(0, 3, 1)", Texts.of("row ooooo; loom l 3 0; weaves = 9;").look(0, 3, 1), 0);
        due("look(0, 2, 1)", Texts.of("row ooo; loom l 2 0; weaves = 9 - warp;").look(0, 2, 1), 0);
        // Of a PIECE of 1 by 2 on 3 by 3: each CELL of the middle row tells three ways apart from the other three.
        RainLoom z = Texts.of("row ooo; row ooo; row ooo; loom l 1 0; weaves = pick + 1;");
        due("look(0, 1, 2)", z.look(0, 1, 2), 10);
    }

    private static void holding() {
        promise = 35;
        RainLoom x = Texts.of(TEXT);
        due("hold(-1)", x.hold(-1), false);
        due("hold(3)", x.hold(3), false);
        due("count(11)", x.count(11), 0);
        x.order(0, 2, 2, 1, 0);
        x.days(1);
        due("hold(2)", x.hold(2), true);
        due("count(11)", x.count(11), 1);
        due("count(9)", x.count(9), 2);
        due("hold(2)", x.hold(2), true);
        due("count(11)", x.count(11), 1);
        x.tell(0, 0, 4);
        x.feed(0, 0, 0, 0, 0);
        x.days(3);
        x.stop(0);
        x.fall(1, 3, 3, 0, 0);
        promise = 36;
        due("restore(0)", x.restore(0), false);
        due("restore(-1)", x.restore(-1), false);
        due("restore(3)", x.restore(3), false);
        due("count(9)", x.count(9), 5);
        for (int n = 0; n < 2; n++) {
            due("restore(2)", x.restore(2), true);
            due("count(4)", x.count(4), 1);
            due("count(5)", x.count(5), 16);
            due("count(7)", x.count(7), 6);
            due("count(12)", x.count(12), 4);
            due("loom(0, 1)", x.loom(0, 1), 2);
            due("loom(0, 4)", x.loom(0, 4), 1);
            due("loom(1, 6)", x.loom(1, 6), 0);
            due("cell(2, 0, 1)", x.cell(2, 0, 1), 1);
            due("count(9)", x.count(9), 0);
            due("undo()", x.undo(), false);
            due("TOLD stays", x.count(10), 1);
            due("the tape stays", x.count(8), 20);
            due("count(11)", x.count(11), 1);
            x.turn(0, 5);
            x.days(2);
        }
        due("undo()", x.undo(), true);
        due("undo()", x.undo(), true);
        due("undo()", x.undo(), false);
        x.hold(0);
        x.hold(1);
        due("count(11)", x.count(11), 3);
        x.turn(0, 9);
        x.undo();
        due("undo leaves SLOTS", x.count(11), 3);
    }

    private static void counting() {
        promise = 37;
        RainLoom x = Texts.of("row aob; row aob; field a 3 4; field b 0 0; loom l 2 0; weaves = 5; store 40; dries = 2; gathers = 1;");
        x.order(0, 2, 1, 1, 1);
        x.fall(0, 2, 1, 0, 0);
        x.days(2);
        x.tell(0, 0, 0);
        x.hold(1);
        x.feed(0, 0, 0, 0, 0);
        // (0,0): 5 3 1; (1,0) likewise without a FIELD; (1,1), (2,1): 3, 6 at dusk. LACKED: (0,1) twice. FLOODED: (0,0)
        // on day 0, (2,1) on both.
        int[] due = {3, 2, 2, 1, 2, 12, 14, 30, 20, 3, 1, 1, 2, 3};
        for (int what = 0; what < due.length; what++) {
            due("count(" + what + ")", x.count(what), due[what]);
        }
        due("count(14)", x.count(14), -1);
        due("count(-1)", x.count(-1), -1);
        due("count(MIN)", x.count(Integer.MIN_VALUE), -1);
    }

    /** Arguments far off, in every call that takes some, on a land and without one. */
    private static void far() {
        promise = 0;
        for (String text : new String[] {"", TEXT}) {
            RainLoom x = Texts.of(text);
            for (int n : new int[] {Integer.MIN_VALUE, Integer.MAX_VALUE, 1 << 30, -(1 << 30)}) {
                due("back", x.back(n), -1);
                due("cell", x.cell(n, n, n) + x.cell(0, 0, n), -2);
                due("field", x.field(n, 0) + x.field(0, n), -2);
                due("loom", x.loom(n, 0) + x.loom(0, n), -2);
                due("thread", x.thread(n, 0, 0) + x.thread(0, n, 0) + x.thread(0, 0, n), -3);
                due("order", x.order(0, 1, 1, n, 0) || x.order(n, 1, 1, 0, 0) || x.order(0, n, 1, 0, 0) || x.order(0, 1, n, 0, 0),
                    false);
                due("fall", x.fall(0, 1, 1, 0, n) + x.fall(0, 1, 1, n, 0), -2);
                due("stop", x.stop(n), false);
                due("turn", x.turn(n, 1) + x.turn(0, n), -2);
                due("days", x.days(n), -1);
                due("holds", x.holds(n, 1, 1, true) + x.holds(0, n, n, false), -2);
                due("comes", x.comes(n, 1, 0) + x.comes(0, n, 0) + x.comes(0, 1, n), -3);
                due("round", x.round(n), -1);
                due("agree", x.agree(n, 0) + x.agree(0, n) + x.agree(n, n), -3);
                due("where", x.where(n, n, n, n) + x.where(0, 1, 1, n), -2000);
                due("cut", x.cut(n, n, n, n), -1);
                due("then", x.then(n, n, n) + x.then(0, 0, n), -2);
                due("all", x.all(n, 0) + x.all(0, n), -2);
                due("wettest", x.wettest(n, 0) + x.wettest(0, n), -2);
                due("dry", x.dry(n), -1);
                due("serve", x.serve(1, n, -1) + x.serve(1, 1, n), -2);
                due("suits", x.suits(n, 1, 1) + x.suits(0, n, 1) + x.suits(0, 1, n), -3);
                due("now", x.now(n, true), -1);
                due("year", x.year(n, 1) + x.year(1, n), -2);
                due("tell", x.tell(n, 0, 0) + x.tell(0, n, 0) + x.tell(0, 0, n), -3);
                due("fell", x.fell(n, 1, 1, 0) + x.fell(0, n, 1, 0) + x.fell(0, 1, n, 0) + x.fell(0, 1, 1, n), -4);
                due("look", x.look(n, 1, 1) + x.look(0, n, 1) + x.look(0, 1, n), -3);
                due("hold", x.hold(n) || x.restore(n), false);
                due("count", x.count(n), -1);
            }
            due("nothing happened", x.count(9) + x.count(10) + x.count(11) + x.count(4), 0);
        }
    }
}
