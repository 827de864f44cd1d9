/** The edges of each call, promise by promise: the last one that is taken, the first that is refused, what happens then. */
public final class CallEdgeTest {
    private static final Check CHECK = new Check();
    private static final int MIN = Integer.MIN_VALUE;
    private static final int MAX = Integer.MAX_VALUE;
    /** Two FIELDS, LOOMS 2 and 3 wide, a land of 2 by 2. */
    private static final String TEXT = "row ab;row oa; field p 3 5; field q 2 4; loom l 2 0; loom m 3 1; weaves = pick + warp; "
        + "gathers = 2; store 50; gusts 30; seed 7;";
    private static final String BUSY = Looks.through(busy());

    private CallEdgeTest() { }

    public static void main(String[] args) {
        newObject();
        feed();
        back();
        readAndPlace();
        cellFieldLoom();
        thread();
        order();
        stop();
        fallAndTurn();
        days();
        undo();
        cloth();
        whereAndCut();
        ahead();
        serveSuitsNowYear();
        telling();
        fellAndLook();
        holding();
        count();
        nothingHappens();
        CHECK.end();
    }

    /** Things done, a SLOT held, something TOLD, something on the tape. */
    private static RainLoom busy() {
        RainLoom x = Texts.of(TEXT);
        x.order(0, 2, 2, 1, 0);
        x.fall(1, 3, 1, 0, 0);
        x.hold(1);
        x.days(2);
        x.turn(1, 3);
        x.tell(0, 0, 1);
        x.tell(1, 1, 2);
        x.feed(0x726f7720, 0x6f6f3b20, 0x20202020, 0x20202020, 0x2020203f);
        return x;
    }

    /** A call that is refused: its answer, and nothing happens. */
    private static void refused(String name, Check.Call call, Object want) {
        RainLoom x = busy();
        CHECK.due(name, call.on(x), want);
        CHECK.due("what is there after " + name, Looks.through(x), BUSY);
    }

    private static void newObject() {
        CHECK.says("A land of no CELLS.");
        RainLoom x = new RainLoom();
        for (int what = 0; what <= 13; what++) {
            CHECK.due("count(" + what + ")", x.count(what), what == 5 ? 100 : 0);
        }
        CHECK.due("place()", x.place(), -1);
        CHECK.due("cell(0, 0, 0)", x.cell(0, 0, 0), -1);
        CHECK.due("undo()", x.undo(), false);
        CHECK.due("forget()", x.forget(), 0);
        for (int slot = 0; slot < 3; slot++) {
            CHECK.due("restore(" + slot + ")", x.restore(slot), false);
        }
        CHECK.due("hold(0)", x.hold(0), true);
        CHECK.due("restore(0)", x.restore(0), true);
        CHECK.due("days(1)", x.days(1), 1);
        CHECK.due("dry(60)", x.dry(60), 0);
        CHECK.due("year(60, 20)", x.year(60, 20), 0);
        CHECK.due("as after an empty text", Looks.through(new RainLoom()), Looks.through(Texts.of("")));
    }

    private static RainLoom withTape(int bytes) {
        RainLoom x = new RainLoom();
        // "row oo;" and blanks, then blanks alone.
        x.feed(0x726f7720, 0x6f6f3b20, 0x20202020, 0x20202020, 0x20202020);
        for (int n = 20; n < bytes; n += 20) {
            x.feed(0x20202020, 0x20202020, 0x20202020, 0x20202020, 0x20202020);
        }
        x.back(x.count(8) - bytes);
        return x;
    }

    private static void feed() {
        CHECK.says("Twenty bytes, the highest of a first, come behind the tape: how many it has.");
        RainLoom x = new RainLoom();
        for (int n = 1; n <= 100; n++) {
            CHECK.due("feed", x.feed(0x726f7720, 0x6f6f3b20, 0x20202020, 0x20202020, 0x20202020), 20 * n);
        }
        // Each byte of the twenty, where it is: a ? there is the FAULT.
        for (int i = 0; i < 20; i++) {
            int[] five = {0x20202020, 0x20202020, 0x20202020, 0x20202020, 0x20202020};
            five[i / 4] += 0x1f << 24 - i % 4 * 8;
            RainLoom y = withTape(20);
            y.feed(five[0], five[1], five[2], five[3], five[4]);
            CHECK.due("read()", y.read(), 1);
            CHECK.due("place() of byte " + i, y.place(), 20 + i);
        }
        RainLoom high = new RainLoom();
        high.feed(0xf26f7720, 0, 0, 0, 0);
        CHECK.due("a byte over 127", high.read() * 10 + high.place(), 10);
        CHECK.says("NONE, and nothing comes, if it would have more than 2,000.");
        for (int bytes = 1979; bytes <= 2000; bytes++) {
            RainLoom y = withTape(bytes);
            boolean room = bytes <= 1980;
            CHECK.due("feed behind " + bytes, y.feed(0x3f3f3f3f, 0x3f3f3f3f, 0x3f3f3f3f, 0x3f3f3f3f, 0x3f3f3f3f), room ? bytes + 20 : -1);
            CHECK.due("count(8)", y.count(8), room ? bytes + 20 : bytes);
            CHECK.due("read()", y.read(), room ? 1 : 0);
            CHECK.due("place()", y.place(), room ? bytes : -1);
        }
    }

    private static void back() {
        CHECK.says("The last n bytes of the tape go: how many it has.");
        RainLoom x = withTape(20);
        CHECK.due("back(0)", x.back(0), 20);
        CHECK.due("back(13)", x.back(13), 7);
        CHECK.due("back(1)", x.back(1), 6);
        CHECK.due("read()", x.read(), 1);
        CHECK.due("the ; is gone", x.place(), 6);
        RainLoom y = withTape(20);
        CHECK.due("back(20)", y.back(20), 0);
        CHECK.due("back(0)", y.back(0), 0);
        CHECK.due("read()", y.read(), 0);
        CHECK.due("count(1)", y.count(1), 0);
        CHECK.says("NONE, and nothing goes, if it has not so many, or n is below 0.");
        RainLoom empty = new RainLoom();
        CHECK.due("back(1) of none", empty.back(1), -1);
        CHECK.due("back(0) of none", empty.back(0), 0);
        for (int n : new int[] {21, 22, 2000, MAX, -1, -20, MIN}) {
            refused("back(" + n + ")", z -> z.back(n), -1);
        }
        RainLoom full = withTape(2000);
        CHECK.due("back(2001)", full.back(2001), -1);
        CHECK.due("back(2000)", full.back(2000), 0);
    }

    private static void readAndPlace() {
        CHECK.says("The tape, which is empty then, is read: 0, or the number of its FAULT.");
        RainLoom x = withTape(20);
        CHECK.due("read()", x.read(), 0);
        CHECK.due("count(8)", x.count(8), 0);
        CHECK.due("count(1)", x.count(1), 1);
        x.feed(0, 0, 0, 0, 0);
        CHECK.due("read() with a FAULT", x.read(), 1);
        CHECK.due("count(8)", x.count(8), 0);
        CHECK.due("count(1)", x.count(1), 1);
        CHECK.says("The byte of the latest read()'s FAULT; NONE without.");
        CHECK.due("place()", x.place(), 0);
        x.feed(0x20202020, 0x20202020, 0x20202020, 0x20202020, 0x20202000);
        x.back(0);
        CHECK.due("not of what is not read yet", x.place(), 0);
        x.read();
        CHECK.due("place()", x.place(), 19);
        CHECK.due("place() once more", x.place(), 19);
        CHECK.due("read() of nothing", x.read(), 0);
        CHECK.due("place()", x.place(), -1);
        CHECK.due("count(1)", x.count(1), 0);
    }

    private static void cellFieldLoom() {
        CHECK.says("(0 and 0 of no FIELD). NONE for others.");
        RainLoom wet = Texts.of("row oa; field p 9 1; loom l 2 0; weaves = 5;");
        CHECK.due("dry, of no FIELD", wet.cell(0, 0, 2) + wet.cell(0, 0, 3), 0);
        wet.fall(0, 2, 1, 0, 0);
        CHECK.due("wet, of no FIELD", wet.cell(0, 0, 2) + wet.cell(0, 0, 3), 0);
        CHECK.due("both, of a FIELD", wet.cell(1, 0, 2) * 10 + wet.cell(1, 0, 3), 11);
        CHECK.due("its FIELD: none", wet.cell(0, 0, 0), -2);
        int[][] cells = {{-1, 0, 0}, {2, 0, 0}, {0, -1, 0}, {0, 2, 0}, {2, 2, 1}, {0, 0, -1}, {0, 0, 4}, {MIN, 0, 0}, {MAX, 0, 0},
            {0, MIN, 0}, {0, MAX, 0}, {0, 0, MIN}, {0, 0, MAX}};
        for (int[] a : cells) {
            refused("cell(" + a[0] + ", " + a[1] + ", " + a[2] + ")", x -> x.cell(a[0], a[1], a[2]), -1);
        }
        // NEEDS 3: 2 is less, 3 is not; more than 5 DROWNS: 5 is not, 6 is.
        for (int water = 0; water <= 9; water++) {
            RainLoom x = Texts.of("row a; field p 3 5; loom l 1 0; weaves = " + water + ";");
            x.fall(0, 1, 1, 0, 0);
            CHECK.due("cell(0, 0, 1)", x.cell(0, 0, 1), water);
            CHECK.due("has less than it NEEDS", x.cell(0, 0, 2), water < 3 ? 1 : 0);
            CHECK.due("is FLOODED", x.cell(0, 0, 3), water > 5 ? 1 : 0);
            CHECK.due("now(0, false)", x.now(0, false), water < 3 ? 1 : 0);
            CHECK.due("now(0, true)", x.now(0, true), water > 5 ? 1 : 0);
        }
        CHECK.says("2 how often one LACKED so far, 3 how often one was FLOODED, 4 what all its CELLS NEED. NONE for others.");
        RainLoom bare = Texts.of("row o; field p 99 0;");
        for (int what = 0; what <= 4; what++) {
            CHECK.due("of no CELLS: field(0, " + what + ")", bare.field(0, what), 0);
        }
        int[][] fields = {{-1, 0}, {2, 0}, {0, -1}, {0, 5}, {MIN, 1}, {MAX, 1}, {0, MIN}, {0, MAX}};
        for (int[] a : fields) {
            refused("field(" + a[0] + ", " + a[1] + ")", x -> x.field(a[0], a[1]), -1);
        }
        RainLoom some = Texts.of("row aob; field p 1 9; field q 1 9; loom l 3 0; weaves = warp + 3;");
        some.fall(0, 3, 1, 0, 0);
        CHECK.due("the water of its CELLS alone", some.field(0, 1) * 10 + some.field(1, 1), 35);
        CHECK.due("of 48 CELLS", Texts.of("row aaaaaaaa;".repeat(6) + "field p 99 0;").field(0, 4), 4752);
        CHECK.says("its ORDER's w, h, X, Y (-2: none), 6 how much it wove so far, 7 how many PIECES were TORN. NONE for others.");
        RainLoom fresh = Texts.of(TEXT);
        for (int what = 2; what <= 5; what++) {
            CHECK.due("loom(0, " + what + ")", fresh.loom(0, what), -2);
        }
        CHECK.due("loom(0, 6) and loom(0, 7)", fresh.loom(0, 6) + fresh.loom(0, 7), 0);
        int[][] looms = {{-1, 0}, {2, 0}, {0, -1}, {0, 8}, {MIN, 1}, {MAX, 1}, {0, MIN}, {0, MAX}};
        for (int[] a : looms) {
            refused("loom(" + a[0] + ", " + a[1] + ")", x -> x.loom(a[0], a[1]), -1);
        }
    }

    private static void thread() {
        CHECK.says("A THREAD; NONE: no such ones (warps as WIDE, picks 0 .. 9999).");
        RainLoom x = Texts.of(TEXT);
        CHECK.due("thread(0, 0, 0)", x.thread(0, 0, 0), 0);
        CHECK.due("thread(0, 1, 0)", x.thread(0, 1, 0), 1);
        CHECK.due("thread(1, 2, 0)", x.thread(1, 2, 0), 2);
        CHECK.due("thread(1, 2, 9999)", x.thread(1, 2, 9999), 9);
        int[][] none = {{-1, 0, 0}, {2, 0, 0}, {0, -1, 0}, {0, 2, 0}, {1, 3, 0}, {0, 0, -1}, {0, 0, 10000}, {MIN, 0, 0}, {MAX, 0, 0},
            {0, MIN, 0}, {0, MAX, 0}, {0, 0, MIN}, {0, 0, MAX}};
        for (int[] a : none) {
            refused("thread(" + a[0] + ", " + a[1] + ", " + a[2] + ")", y -> y.thread(a[0], a[1], a[2]), -1);
        }
        for (int wide = 1; wide <= 8; wide++) {
            RainLoom y = Texts.of("loom l " + wide + " 0;");
            CHECK.due("the last warp", y.thread(0, wide - 1, 0), 1);
            CHECK.due("one more", y.thread(0, wide, 0), -1);
        }
    }

    /** LOOM, w, h, X, Y of which one is just beyond what there is, or far off. */
    private static int[][] noPieces() {
        return new int[][] {{-1, 1, 1, 0, 0}, {2, 1, 1, 0, 0}, {0, 0, 1, 0, 0}, {0, 3, 1, 0, 0}, {1, 4, 1, 0, 0}, {0, -1, 1, 0, 0},
            {0, 1, 0, 0, 0}, {0, 1, 7, 0, 0}, {0, 1, -1, 0, 0}, {0, 1, 1, -1, 0}, {0, 1, 1, 2, 0}, {0, 1, 1, 0, -1}, {0, 1, 1, 0, 2},
            {MIN, 1, 1, 0, 0}, {MAX, 1, 1, 0, 0}, {0, MIN, 1, 0, 0}, {0, MAX, 1, 0, 0}, {0, 1, MIN, 0, 0}, {0, 1, MAX, 0, 0},
            {0, 1, 1, MIN, 0}, {0, 1, 1, MAX, 0}, {0, 1, 1, 0, MIN}, {0, 1, 1, 0, MAX}};
    }

    private static void order() {
        CHECK.says("An ORDER is told (in place of the one ahead): true");
        RainLoom x = Texts.of("row oo;row oo; loom l 2 0; loom m 2 0; dries = 0;");
        int[][] orders = {{1, 1, 0, 0}, {2, 1, 0, 0}, {2, 6, 0, 0}, {2, 6, 1, 0}, {2, 6, 1, 1}, {1, 1, 0, 0}};
        int things = 0;
        for (int[] o : orders) {
            CHECK.due("another ORDER", x.order(0, o[0], o[1], o[2], o[3]), true);
            things++;
            CHECK.due("count(9)", x.count(9), things);
            for (int what = 2; what <= 5; what++) {
                CHECK.due("loom(0, " + what + ")", x.loom(0, what), o[what - 2]);
                CHECK.due("loom(1, " + what + ")", x.loom(1, what), -2);
            }
        }
        CHECK.due("the same one of another LOOM", x.order(1, 1, 1, 0, 0), true);
        CHECK.due("in place of it", x.order(1, 1, 1, 1, 1), true);
        x.days(1);
        CHECK.due("a PIECE of each LOOM, no more", x.count(7), 2);
        CHECK.due("where the latest one is", x.cell(1, 1, 1), 1);
        CHECK.says("false, and nothing happens: it is so, no such ones (w 1 to WIDE, h 1 .. 6, a CELL).");
        refused("the same ORDER", y -> y.order(0, 2, 2, 1, 0), false);
        for (int[] a : noPieces()) {
            refused("order(" + a[0] + ", " + a[1] + ", " + a[2] + ", " + a[3] + ", " + a[4] + ")",
                y -> y.order(a[0], a[1], a[2], a[3], a[4]), false);
        }
        RainLoom again = Texts.of(TEXT);
        CHECK.due("order", again.order(0, 1, 1, 0, 0), true);
        CHECK.due("undo()", again.undo(), true);
        CHECK.due("it is not so any more", again.order(0, 1, 1, 0, 0), true);
        CHECK.due("stop", again.stop(0), true);
        CHECK.due("nor now", again.order(0, 1, 1, 0, 0), true);
        again.days(1);
        CHECK.due("it is so still", again.order(0, 1, 1, 0, 0), false);
        CHECK.due("no land, no CELL", Texts.of("loom l 1 0;").order(0, 1, 1, 0, 0), false);
    }

    private static void stop() {
        CHECK.says("An ORDER is taken back: true; false, and nothing happens: there is none, no such LOOM.");
        RainLoom x = busy();
        CHECK.due("stop(0)", x.stop(0), true);
        for (int what = 2; what <= 5; what++) {
            CHECK.due("loom(0, " + what + ")", x.loom(0, what), -2);
        }
        int woven = x.count(7);
        x.days(3);
        CHECK.due("nothing is woven", x.count(7), woven);
        CHECK.due("stop(0) again", x.stop(0), false);
        for (int loom : new int[] {1, 2, -1, 3, 4, MIN, MAX}) {
            refused("stop(" + loom + ")", y -> y.stop(loom), false);
        }
    }

    private static void fallAndTurn() {
        CHECK.says("A PIECE is LET FALL: how much was woven; NONE, and nothing happens: no such ones.");
        RainLoom x = Texts.of(TEXT);
        // 1 2 3, 2 3 4, 3 4 5, 4 5 6 and 5 of 5 6 7: of 50, 3 are left.
        CHECK.due("the largest, on the last CELL", x.fall(1, 3, 6, 1, 1), 47);
        CHECK.due("STORE", x.count(5), 3);
        CHECK.due("a thing done", x.count(9), 1);
        CHECK.due("TORN at once", x.fall(1, 1, 1, 0, 0), 0);
        CHECK.due("a thing done all the same", x.count(9), 2);
        for (int[] a : noPieces()) {
            refused("fall(" + a[0] + ", " + a[1] + ", " + a[2] + ", " + a[3] + ", " + a[4] + ")",
                y -> y.fall(a[0], a[1], a[2], a[3], a[4]), -1);
        }
        RainLoom ordered = busy();
        ordered.fall(0, 1, 1, 0, 0);
        CHECK.due("the ORDER stays", ordered.loom(0, 2) * 10 + ordered.loom(0, 4), 21);
        CHECK.says("A LOOM is turned on by n PICKS (1 .. 99): at which it stands then; NONE, and nothing happens: no such ones.");
        RainLoom t = Texts.of(TEXT);
        CHECK.due("turn(0, 1)", t.turn(0, 1), 1);
        CHECK.due("turn(0, 99)", t.turn(0, 99), 100);
        CHECK.due("turn(1, 99)", t.turn(1, 99), 100);
        CHECK.due("without weaving", t.count(7) + t.count(6), 0);
        CHECK.due("count(5)", t.count(5), 50);
        int[][] none = {{0, 0}, {0, 100}, {0, -1}, {2, 1}, {-1, 1}, {MIN, 1}, {MAX, 1}, {0, MIN}, {0, MAX}};
        for (int[] a : none) {
            refused("turn(" + a[0] + ", " + a[1] + ")", y -> y.turn(a[0], a[1]), -1);
        }
    }

    private static void days() {
        CHECK.says("n DAYS (0 .. 30; 0 is no thing done) go by: which it is; NONE, and nothing happens: no such n.");
        RainLoom x = Texts.of(TEXT);
        CHECK.due("days(0)", x.days(0), 0);
        CHECK.due("no thing done", x.undo(), false);
        CHECK.due("days(1)", x.days(1), 1);
        CHECK.due("days(30)", x.days(30), 31);
        CHECK.due("days(0)", x.days(0), 31);
        CHECK.due("two things", x.count(9), 2);
        CHECK.due("all 30 are one thing", x.undo(), true);
        CHECK.due("count(4)", x.count(4), 1);
        refused("days(0)", y -> y.days(0), 2);
        for (int n : new int[] {-1, 31, 60, MIN, MAX}) {
            refused("days(" + n + ")", y -> y.days(n), -1);
        }
    }

    private static void undo() {
        CHECK.says("The last thing done (order, stop, fall, turn, days) is undone: true; false: there is none (the last 30 can be).");
        Check.Call[] things = {x -> x.order(1, 1, 1, 0, 0), x -> x.stop(0), x -> x.fall(0, 1, 1, 0, 0), x -> x.turn(0, 5), x -> x.days(3)};
        for (int i = 0; i < things.length; i++) {
            RainLoom x = busy();
            things[i].on(x);
            CHECK.due("it is done: " + i, Looks.through(x).equals(BUSY), false);
            RainLoom y = busy();
            things[i].on(y);
            CHECK.due("undo()", y.undo(), true);
            CHECK.due("what is there after undo " + i, Looks.through(y), BUSY);
        }
        for (int done = 0; done <= 33; done++) {
            RainLoom x = Texts.of("loom l 1 0;");
            for (int n = 0; n < done; n++) {
                x.turn(0, n + 1);
            }
            int can = Math.min(30, done);
            CHECK.due("count(9) of " + done, x.count(9), can);
            for (int n = 0; n < can; n++) {
                CHECK.due("undo()", x.undo(), true);
                CHECK.due("loom(0, 1)", x.loom(0, 1), (done - n - 1) * (done - n) / 2);
            }
            CHECK.due("no more than " + can, x.undo(), false);
            CHECK.due("count(9)", x.count(9), 0);
            CHECK.due("still there", x.loom(0, 1), (done - can) * (done - can + 1) / 2);
        }
        // Undone ones make room again: undo and do over and over, beyond 30.
        RainLoom x = Texts.of("loom l 1 0;");
        for (int n = 0; n < 29; n++) {
            x.turn(0, 1);
        }
        for (int n = 0; n < 20; n++) {
            x.undo();
            x.turn(0, 1);
            x.turn(0, 1);
            x.undo();
        }
        CHECK.due("count(9)", x.count(9), 29);
        for (int n = 28; n >= 0; n--) {
            CHECK.due("undo()", x.undo(), true);
            CHECK.due("loom(0, 1)", x.loom(0, 1), n);
        }
        CHECK.due("undo()", x.undo(), false);
    }

    private static void cloth() {
        int[][] none = {{-1, 1, 1}, {2, 1, 1}, {0, 0, 1}, {0, 3, 1}, {1, 4, 1}, {0, 1, 0}, {0, 1, 7}, {MIN, 1, 1}, {MAX, 1, 1}, {0, MIN, 1},
            {0, MAX, 1}, {0, 1, MIN}, {0, 1, MAX}};
        CHECK.says("HOLDS (none: in how many THREADS there is none); NONE: no such ones.");
        for (int[] a : none) {
            refused("holds(" + a[0] + ", " + a[1] + ", " + a[2] + ", ..)", x -> x.holds(a[0], a[1], a[2], false), -1);
            refused("holds(" + a[0] + ", " + a[1] + ", " + a[2] + ", ..)", x -> x.holds(a[0], a[1], a[2], true), -1);
        }
        CHECK.says("COMES (w 1 to WIDE); -2: not; NONE: no such ones.");
        for (int w = 1; w <= 8; w++) {
            RainLoom x = Texts.of("loom l 8 0;");
            CHECK.due("the greatest row of " + w, x.comes(0, w, (1 << w) - 1), 0);
            CHECK.due("one greater", x.comes(0, w, 1 << w), -1);
            CHECK.due("row 0", x.comes(0, w, 0), -2);
            CHECK.due("row -1", x.comes(0, w, -1), -1);
        }
        int[][] rows = {{-1, 1, 0}, {2, 1, 0}, {0, 0, 0}, {0, 3, 0}, {1, 4, 0}, {1, 3, 8}, {0, 2, 4}, {0, 1, 2}, {0, 1, -1}, {0, -1, 0},
            {0, 1, MIN}, {0, 1, MAX}, {0, 32, 0}, {0, 33, 0}, {0, MIN, 0}, {0, MAX, 0}, {MIN, 1, 0}, {MAX, 1, 0}};
        for (int[] a : rows) {
            refused("comes(" + a[0] + ", " + a[1] + ", " + a[2] + ")", x -> x.comes(a[0], a[1], a[2]), -1);
        }
        CHECK.says("ROUND; -2: not; NONE: no such LOOM.");
        CHECK.says("AGREE; -2: not; NONE: no such ones, one and the same.");
        for (int loom : new int[] {-1, 2, 4, MIN, MAX}) {
            refused("round(" + loom + ")", x -> x.round(loom), -1);
            refused("agree(" + loom + ", 0)", x -> x.agree(loom, 0), -1);
            refused("agree(0, " + loom + ")", x -> x.agree(0, loom), -1);
            refused("agree(" + loom + ", " + loom + ")", x -> x.agree(loom, loom), -1);
        }
        refused("agree(0, 0)", x -> x.agree(0, 0), -1);
        refused("agree(1, 1)", x -> x.agree(1, 1), -1);
    }

    private static void whereAndCut() {
        CHECK.says("WHERE: what 0 how many more, 1 X, 2 Y; -1000: it sticks out everywhere, no such ones.");
        int[][] none = {{-1, 1, 1, 0}, {2, 1, 1, 0}, {0, 0, 1, 0}, {0, 3, 1, 0}, {1, 4, 1, 0}, {0, 1, 0, 0}, {0, 1, 7, 0}, {0, 1, 1, -1},
            {0, 1, 1, 3}, {1, 3, 1, 0}, {1, 3, 1, 1}, {1, 3, 1, 2}, {0, 1, 3, 0}, {0, 1, 3, 2}, {MIN, 1, 1, 0}, {MAX, 1, 1, 0}, {0, MIN, 1, 0},
            {0, MAX, 1, 0}, {0, 1, MIN, 0}, {0, 1, MAX, 0}, {0, 1, 1, MIN}, {0, 1, 1, MAX}};
        for (int[] a : none) {
            refused("where(" + a[0] + ", " + a[1] + ", " + a[2] + ", " + a[3] + ")", x -> x.where(a[0], a[1], a[2], a[3]), -1000);
        }
        CHECK.says("CUT (0 behind the last one: no further PIECE); NONE: no such ones (the first is one).");
        RainLoom x = new RainLoom();
        CHECK.due("1 PIECE", x.cut(86, 0, 0, 0), 6);
        CHECK.due("2 PIECES", x.cut(86, 85, 0, 0), 11);
        CHECK.due("3 PIECES", x.cut(86, 85, 84, 0), 15);
        CHECK.due("4 PIECES", x.cut(86, 85, 84, 83), 18);
        int[][] cuts = {{0, 0, 0, 0}, {0, 11, 0, 0}, {0, 0, 0, 11}, {11, 0, 11, 0}, {11, 0, 0, 11}, {11, 11, 0, 11}, {11, 0, 11, 11},
            {10, 0, 0, 0}, {17, 0, 0, 0}, {1, 0, 0, 0}, {6, 0, 0, 0}, {91, 0, 0, 0}, {80, 0, 0, 0}, {87, 0, 0, 0}, {-11, 0, 0, 0}, {11, -11, 0, 0},
            {11, 11, -11, 0}, {11, 11, 11, -11}, {11, 17, 0, 0}, {11, 11, 17, 0}, {11, 11, 11, 17}, {11, 91, 0, 0}, {11, 11, 91, 0},
            {11, 11, 11, 91}, {MIN, 0, 0, 0}, {MAX, 0, 0, 0}, {11, MIN, 0, 0}, {11, 11, MAX, 0}, {11, 11, 11, MAX}};
        for (int[] a : cuts) {
            refused("cut(" + a[0] + ", " + a[1] + ", " + a[2] + ", " + a[3] + ")", y -> y.cut(a[0], a[1], a[2], a[3]), -1);
        }
    }

    private static void ahead() {
        CHECK.says("THEN a CELL's water; NONE: no such ones.");
        int[][] cells = {{-1, 0, 0}, {2, 0, 0}, {0, -1, 0}, {0, 2, 0}, {0, 0, -1}, {0, 0, 61}, {MIN, 0, 0}, {MAX, 0, 0}, {0, MIN, 0}, {0, MAX, 0},
            {0, 0, MIN}, {0, 0, MAX}};
        for (int[] a : cells) {
            refused("then(" + a[0] + ", " + a[1] + ", " + a[2] + ")", x -> x.then(a[0], a[1], a[2]), -1);
        }
        CHECK.says("THEN: what 0 how many LACKED more, 1 how many were FLOODED more, 2 the STORE; NONE: no such ones.");
        int[][] none = {{-1, 0}, {61, 0}, {0, -1}, {0, 3}, {MIN, 0}, {MAX, 0}, {0, MIN}, {0, MAX}};
        for (int[] a : none) {
            refused("all(" + a[0] + ", " + a[1] + ")", x -> x.all(a[0], a[1]), -1);
        }
        CHECK.says("THEN the wettest CELL: what 0 its water, 1 X, 2 Y; -2: no CELLS; NONE: no such ones.");
        for (int[] a : none) {
            refused("wettest(" + a[0] + ", " + a[1] + ")", x -> x.wettest(a[0], a[1]), -1);
        }
        for (int what = 0; what <= 2; what++) {
            CHECK.due("no CELLS", new RainLoom().wettest(60, what), -2);
            CHECK.due("no CELLS, but FIELDS", Texts.of("field p 1 2; loom l 1 0;").wettest(0, what), -2);
        }
        CHECK.says("THEN how many CELLS are dry; NONE: no such n.");
        for (int n : new int[] {-1, 61, MIN, MAX}) {
            refused("dry(" + n + ")", x -> x.dry(n), -1);
        }
        CHECK.due("no CELLS", new RainLoom().dry(0), 0);
        CHECK.says("EMPTY BY; -2: not.");
        CHECK.due("no land, no LOOMS", new RainLoom().emptyBy(), -2);
        CHECK.due("empty", Texts.of("store 0;").emptyBy(), 0);
    }

    private static void serveSuitsNowYear() {
        CHECK.says("SERVE: the sum (i NONE), else the FIELD of the i-th LOOM; -2: more LOOMS than FIELDS; "
            + "NONE: no such ones (w no more than any LOOM is WIDE, h 1 .. 6; no such LOOM).");
        int[][] none = {{0, 1, -1}, {3, 1, -1}, {9, 1, -1}, {1, 0, -1}, {1, 7, -1}, {1, 1, -2}, {1, 1, 2}, {MIN, 1, -1}, {MAX, 1, -1}, {1, MIN, -1},
            {1, MAX, -1}, {1, 1, MIN}, {1, 1, MAX}, {0, 1, 0}, {3, 1, 1}};
        for (int[] a : none) {
            refused("serve(" + a[0] + ", " + a[1] + ", " + a[2] + ")", x -> x.serve(a[0], a[1], a[2]), -1);
        }
        RainLoom x = Texts.of(TEXT);
        CHECK.due("as wide as the narrowest, as long as can be", x.serve(2, 6, -1) >= 0, true);
        CHECK.due("the last LOOM", x.serve(2, 6, 1) + x.serve(2, 6, 0), 1);
        RainLoom fewer = Texts.of("row a; field p 1 1; loom l 2 0; loom m 2 0;");
        CHECK.due("more LOOMS than FIELDS", fewer.serve(2, 6, -1), -2);
        CHECK.due("more LOOMS than FIELDS", fewer.serve(1, 1, 1), -2);
        RainLoom none8 = Texts.of("row a; field p 1 1;");
        CHECK.due("no LOOM, w 8", none8.serve(8, 6, -1), 0);
        CHECK.due("no LOOM, w 9", none8.serve(9, 6, -1), -1);
        CHECK.due("no LOOM 0", none8.serve(1, 1, 0), -1);
        CHECK.says("SUITS; -2: no LOOM is so WIDE; NONE: no such ones (w 1 .. 8, h 1 .. 6).");
        int[][] sizes = {{0, 0, 1}, {0, 9, 1}, {0, 1, 0}, {0, 1, 7}, {-1, 1, 1}, {2, 1, 1}, {MIN, 1, 1}, {MAX, 1, 1}, {0, MIN, 1}, {0, MAX, 1},
            {0, 1, MIN}, {0, 1, MAX}};
        for (int[] a : sizes) {
            refused("suits(" + a[0] + ", " + a[1] + ", " + a[2] + ")", y -> y.suits(a[0], a[1], a[2]), -1);
        }
        for (int w = 1; w <= 8; w++) {
            CHECK.due("suits(1, " + w + ", 6)", x.suits(1, w, 6) == -2, w > 3);
        }
        CHECK.due("8 wide", Texts.of("row a; field p 1 1; loom k 7 0; loom l 8 0;").suits(0, 8, 6), 1);
        CHECK.says("(flooded: are FLOODED); NONE: no such FIELD.");
        for (int field : new int[] {-1, 2, MIN, MAX}) {
            refused("now(" + field + ", false)", y -> y.now(field, false), -1);
            refused("now(" + field + ", true)", y -> y.now(field, true), -1);
        }
        CHECK.due("a FIELD of no CELLS", Texts.of("row o; field p 9 0;").now(0, false), 0);
        CHECK.due("all 48", Texts.of("row aaaaaaaa;".repeat(6) + "field p 9 0;").now(0, false), 48);
        CHECK.says("YEAR; NONE: no such ones.");
        int[][] years = {{-1, 1}, {61, 1}, {0, 0}, {0, 21}, {0, -1}, {MIN, 1}, {MAX, 1}, {0, MIN}, {0, MAX}};
        for (int[] a : years) {
            refused("year(" + a[0] + ", " + a[1] + ")", y -> y.year(a[0], a[1]), -1);
        }
    }

    private static void telling() {
        CHECK.says("It is TOLD: its number; NONE, and nothing happens: 20 are there, no such ones.");
        int[][] none = {{-1, 0, 0}, {2, 0, 0}, {0, -1, 0}, {0, 2, 0}, {0, 0, -1}, {0, 0, 1000}, {MIN, 0, 0}, {MAX, 0, 0}, {0, MIN, 0}, {0, MAX, 0},
            {0, 0, MIN}, {0, 0, MAX}};
        for (int[] a : none) {
            refused("tell(" + a[0] + ", " + a[1] + ", " + a[2] + ")", x -> x.tell(a[0], a[1], a[2]), -1);
        }
        RainLoom x = Texts.of("row oo; loom l 1 0; weaves = 3;");
        for (int n = 0; n < 20; n++) {
            CHECK.due("tell", x.tell(0, 0, 3), n);
            CHECK.due("count(10)", x.count(10), n + 1);
        }
        CHECK.due("the 21st", x.tell(0, 0, 4), -1);
        CHECK.due("count(10)", x.count(10), 20);
        CHECK.due("the 20 are as they were", x.fell(20, 1, 1, -1), 1);
        CHECK.due("no 21st", x.fell(21, 1, 1, -1), -1);
        CHECK.due("no thing done", x.count(9), 0);
        CHECK.says("All that was TOLD is forgotten: how many there were.");
        CHECK.due("forget()", x.forget(), 20);
        CHECK.due("count(10)", x.count(10), 0);
        CHECK.due("fell by 1", x.fell(1, 1, 1, -1), -1);
        CHECK.due("forget() of none", x.forget(), 0);
        CHECK.due("from 0 on again", x.tell(0, 0, 4), 0);
        CHECK.due("fell by the new one", x.fell(1, 1, 1, -1), 0);
        CHECK.due("forget()", x.forget(), 1);
        RainLoom undone = busy();
        undone.undo();
        CHECK.due("undo leaves what is TOLD", undone.count(10), 2);
    }

    private static void fellAndLook() {
        int[][] none = {{-1, 1, 1}, {3, 1, 1}, {0, 0, 1}, {0, 9, 1}, {0, 1, 0}, {0, 1, 7}, {MIN, 1, 1}, {MAX, 1, 1}, {0, MIN, 1}, {0, MAX, 1},
            {0, 1, MIN}, {0, 1, MAX}};
        CHECK.says("how many (i NONE), else the i-th; NONE: no such ones (w 1 .. 8, h 1 .. 6), not so many.");
        for (int[] a : none) {
            refused("fell(" + a[0] + ", " + a[1] + ", " + a[2] + ", -1)", x -> x.fell(a[0], a[1], a[2], -1), -1);
            refused("fell(" + a[0] + ", " + a[1] + ", " + a[2] + ", 0)", x -> x.fell(a[0], a[1], a[2], 0), -1);
        }
        for (int i : new int[] {-2, 8, 9, MIN, MAX}) {
            refused("fell(0, 1, 1, " + i + ")", x -> x.fell(0, 1, 1, i), -1);
        }
        CHECK.due("the last one", busy().fell(0, 1, 1, 7), 111);
        CHECK.due("8 by 6: no way", busy().fell(0, 8, 6, -1), 0);
        CHECK.due("8 by 6: not so many", busy().fell(0, 8, 6, 0), -1);
        CHECK.due("all that is TOLD", busy().fell(2, 1, 1, -1) >= 0, true);
        CHECK.due("no land, no LOOMS", new RainLoom().fell(0, 8, 6, -1), 0);
        CHECK.says("10 * Y + X; -2: no CELLS; NONE: no such ones (w 1 .. 8, h 1 .. 6).");
        for (int[] a : none) {
            refused("look(" + a[0] + ", " + a[1] + ", " + a[2] + ")", x -> x.look(a[0], a[1], a[2]), -1);
        }
        CHECK.due("8 by 6", busy().look(2, 8, 6), 0);
        CHECK.due("no CELLS", new RainLoom().look(0, 8, 6), -2);
        CHECK.due("no CELLS, but LOOMS", Texts.of("loom l 8 0;").look(0, 1, 1), -2);
    }

    private static void holding() {
        CHECK.says("All that goes on (not what is TOLD, nor the tape) is held in a SLOT (0 .. 2): true; false: no such one.");
        for (int slot : new int[] {-1, 3, MIN, MAX}) {
            refused("hold(" + slot + ")", x -> x.hold(slot), false);
        }
        RainLoom x = Texts.of(TEXT);
        for (int slot = 0; slot < 3; slot++) {
            x.turn(0, 1);
            CHECK.due("hold(" + slot + ")", x.hold(slot), true);
            CHECK.due("count(11)", x.count(11), slot + 1);
            CHECK.due("no thing done", x.count(9), slot + 1);
        }
        CHECK.due("hold(1) anew", x.hold(1), true);
        CHECK.due("count(11)", x.count(11), 3);
        int[] stands = {1, 3, 3};
        for (int slot = 0; slot < 3; slot++) {
            CHECK.due("restore(" + slot + ")", x.restore(slot), true);
            CHECK.due("loom(0, 1)", x.loom(0, 1), stands[slot]);
        }
        CHECK.says("It goes on from what a SLOT holds (that stays there; nothing can be undone then): true");
        RainLoom y = busy();
        y.hold(2);
        String then = Looks.of(y);
        y.order(1, 1, 2, 0, 1);
        y.stop(0);
        y.fall(0, 2, 2, 0, 0);
        y.turn(1, 9);
        y.days(7);
        for (int n = 0; n < 2; n++) {
            CHECK.due("restore(2)", y.restore(2), true);
            CHECK.due("count(9)", y.count(9), 0);
            CHECK.due("undo()", y.undo(), false);
            CHECK.due("all as it was", Looks.of(y).replaceFirst("^count.*", ""), then.replaceFirst("^count.*", ""));
            y.days(3);
        }
        CHECK.due("what was done since can be undone", y.undo(), true);
        CHECK.due("count(4)", y.count(4), 2);
        CHECK.due("no more than that", y.undo(), false);
        RainLoom kept = busy();
        kept.hold(0);
        kept.forget();
        kept.tell(0, 0, 7);
        kept.back(20);
        kept.restore(0);
        CHECK.due("not what is TOLD", kept.count(10), 1);
        CHECK.due("nor the tape", kept.count(8), 0);
        RainLoom tape = busy();
        tape.restore(1);
        CHECK.due("the tape stays", tape.count(8), 20);
        CHECK.due("what is TOLD stays", tape.count(10), 2);
        CHECK.due("what is on the tape stays", tape.read() * 100 + tape.place(), 119);
        CHECK.says("false, and nothing happens: no such one, nothing is held.");
        for (int slot : new int[] {-1, 0, 2, 3, MIN, MAX}) {
            refused("restore(" + slot + ")", z -> z.restore(slot), false);
        }
    }

    private static void count() {
        CHECK.says("12 how many LACKED so far, 13 how many were FLOODED. NONE for others.");
        for (int what : new int[] {-1, 14, 15, MIN, MAX}) {
            refused("count(" + what + ")", x -> x.count(what), -1);
        }
        RainLoom full = Texts.of("row aaaaaaaa;".repeat(6) + "field p 1 0; field q 1 1; field r 1 1; field s 1 1; field t 1 1; field u 1 1;"
            + "loom i 8 0; loom j 8 0; loom k 8 0; loom l 8 0; store 9999; dries = 0;");
        int[] due = {8, 6, 6, 4, 0, 9999, 0, 0, 0, 0, 0, 0, 0, 0};
        for (int what = 0; what < due.length; what++) {
            CHECK.due("count(" + what + ")", full.count(what), due[what]);
        }
        full.fall(3, 8, 6, 0, 0);
        full.fall(0, 8, 5, 0, 0);
        full.days(2);
        int[] later = {8, 6, 6, 4, 2, 9999 - 88, 88, 88, 0, 3, 0, 0, 0, 96};
        for (int what = 0; what < later.length; what++) {
            CHECK.due("count(" + what + ")", full.count(what), later[what]);
        }
    }

    private static void nothingHappens() {
        CHECK.says("What would be (nothing happens).");
        Check.Call[] asked = {x -> x.cell(0, 0, 1), x -> x.field(0, 1), x -> x.loom(0, 1), x -> x.thread(1, 2, 9999), x -> x.holds(0, 2, 6, false),
            x -> x.holds(1, 3, 6, true), x -> x.comes(1, 3, 7), x -> x.comes(0, 2, 2), x -> x.round(0), x -> x.agree(0, 1), x -> x.where(0, 2, 2, 0),
            x -> x.where(0, 1, 1, 1), x -> x.cut(86, 85, 84, 83), x -> x.then(1, 1, 60), x -> x.all(60, 0), x -> x.all(60, 1), x -> x.all(60, 2),
            x -> x.wettest(60, 0), x -> x.dry(60), x -> x.emptyBy(), x -> x.serve(2, 6, -1), x -> x.serve(1, 1, 1), x -> x.suits(1, 3, 6),
            x -> x.now(0, true), x -> x.now(1, false), x -> x.year(60, 20), x -> x.fell(2, 2, 2, -1), x -> x.fell(0, 1, 1, 0), x -> x.look(2, 1, 1),
            x -> x.count(6), x -> x.place()};
        for (int i = 0; i < asked.length; i++) {
            RainLoom x = busy();
            Object first = asked[i].on(x);
            CHECK.due("asked twice, " + i, asked[i].on(x), first);
            CHECK.due("what is there after question " + i, Looks.through(x), BUSY);
        }
        RainLoom x = busy();
        Check.Call all = y -> y.then(0, 0, 5) + " " + y.all(5, 0) + " " + y.year(5, 3) + " " + y.emptyBy() + " " + y.holds(1, 3, 3, false);
        Object first = all.on(x);
        for (Check.Call one : asked) {
            one.on(x);
        }
        CHECK.due("asked behind all the others", all.on(x), first);
    }
}
