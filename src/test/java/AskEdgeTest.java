/** The edges of what would be and of what fell, sentence by sentence (parts III, IV); worked out by hand. */
public final class AskEdgeTest {
    private static final Check CHECK = new Check();
    private static final String WHOLE_LAND = "row oooooooo;".repeat(6);

    private AskEdgeTest() { }

    public static void main(String[] args) {
        holds();
        comes();
        round();
        agree();
        whereBest();
        whereTold();
        cut();
        then();
        emptyBy();
        serve();
        suits();
        year();
        told();
        fell();
        look();
        CHECK.end();
    }

    private static void holds() {
        CHECK.says("HOLDS of a PIECE: all its THREADS together; in how many of them there is none (0).");
        RainLoom x = Texts.of("loom l 8 0; weaves = 9; store 0;");
        CHECK.due("the most", x.holds(0, 8, 6, false), 432);
        CHECK.due("none in none", x.holds(0, 8, 6, true), 0);
        RainLoom y = Texts.of("loom l 8 0; weaves = 0;");
        CHECK.due("nothing", y.holds(0, 8, 6, false), 0);
        CHECK.due("none in all", y.holds(0, 8, 6, true), 48);
        CHECK.due("none in one", y.holds(0, 1, 1, true), 1);
        RainLoom z = Texts.of("loom l 3 5; weaves = pick * 2 + warp - 11;");
        // Picks 5, 6, 7: 0 0 1, 1 2 3, 3 4 5.
        CHECK.due("holds(0, 3, 3, false)", z.holds(0, 3, 3, false), 19);
        CHECK.due("holds(0, 3, 3, true)", z.holds(0, 3, 3, true), 2);
        CHECK.due("holds(0, 2, 1, true)", z.holds(0, 2, 1, true), 2);
        CHECK.due("holds(0, 2, 2, false)", z.holds(0, 2, 2, false), 3);
        z.turn(0, 1);
        CHECK.due("from where it stands", z.holds(0, 3, 1, false), 6);
    }

    private static void comes() {
        CHECK.says("behind how many PICKS (0 .. 200) from where a LOOM stands it is woven for the first time");
        for (int stands = 0; stands <= 99; stands += 33) {
            RainLoom x = Texts.of("loom l 1 " + stands + "; weaves = if pick < " + (stands + 200) + " then 0 else 1;");
            CHECK.due("behind 0", x.comes(0, 1, 0), 0);
            CHECK.due("behind 200", x.comes(0, 1, 1), 200);
            RainLoom y = Texts.of("loom l 1 " + stands + "; weaves = if pick < " + (stands + 201) + " then 0 else 1;");
            CHECK.due("behind 201", y.comes(0, 1, 1), -2);
            y.turn(0, 1);
            CHECK.due("behind 200 from there", y.comes(0, 1, 1), 200);
            y.turn(0, 99);
            y.turn(0, 99);
            y.turn(0, 3);
            CHECK.due("at once, but no more what was", y.comes(0, 1, 1), 0);
            CHECK.due("not again", y.comes(0, 1, 0), -2);
        }
        RainLoom often = Texts.of("loom l 1 1; weaves = shed;");
        CHECK.due("the first of many", often.comes(0, 1, 0), 3);
        CHECK.says("(bits of warps, 1 where a THREAD is more than 0) of w warps");
        RainLoom bits = Texts.of("loom l 8 0; weaves = if warp < pick then 9 else 0;");
        for (int n = 0; n <= 8; n++) {
            CHECK.due("comes(0, 8, " + ((1 << n) - 1) + ")", bits.comes(0, 8, (1 << n) - 1), n);
        }
        CHECK.due("comes(0, 8, 128)", bits.comes(0, 8, 128), -2);
        CHECK.due("of 1 warp", bits.comes(0, 1, 1), 1);
        CHECK.due("of 2 warps", bits.comes(0, 2, 1), 1);
        CHECK.due("of 2 warps", bits.comes(0, 2, 3), 2);
        CHECK.due("of 2 warps", bits.comes(0, 2, 2), -2);
        RainLoom one = Texts.of("loom l 2 0; weaves = 1 - pick;");
        CHECK.due("1 is more than 0", one.comes(0, 2, 3), 0);
        CHECK.due("0 is not", one.comes(0, 2, 0), 1);
    }

    private static void round() {
        CHECK.says("ROUND of a LOOM: the fewest PICKS (1 .. 99) behind which all its THREADS are as they were");
        CHECK.due("each as the one ahead", Texts.of("loom l 8 0;").round(0), 1);
        for (int n : new int[] {2, 3, 50, 98, 99}) {
            RainLoom x = Texts.of("loom l 1 0; weaves = if pick - pick / " + n + " * " + n + " < 1 then 1 else 0;");
            CHECK.due("round each " + n, x.round(0), n);
        }
        RainLoom x = Texts.of("loom l 1 0; weaves = if pick - pick / 100 * 100 < 1 then 1 else 0;");
        CHECK.due("round each 100", x.round(0), -2);
        CHECK.due("by how much lies in them", Texts.of("loom l 8 0; weaves = shed + 1;").round(0), 4);
        CHECK.due("in the last warp", Texts.of("loom l 8 0; weaves = if warp < 7 then 2 else shed;").round(0), 4);
        CHECK.due("in the first warp", Texts.of("loom l 8 0; weaves = if 0 < warp then 2 else shed;").round(0), 4);
        CHECK.says("for 48 PICKS from where it stands on");
        for (int stands = 0; stands <= 99; stands += 99) {
            RainLoom in = Texts.of("loom l 1 " + stands + "; weaves = if pick < " + (stands + 48) + " then 0 else 1;");
            CHECK.due("the 48th is another one behind", in.round(0), -2);
            RainLoom out = Texts.of("loom l 1 " + stands + "; weaves = if pick < " + (stands + 49) + " then 0 else 1;");
            CHECK.due("the 49th is", out.round(0), 1);
            out.turn(0, 1);
            CHECK.due("from where it stands", out.round(0), -2);
            out.turn(0, 48);
            CHECK.due("what was does not matter", out.round(0), 1);
        }
    }

    private static void agree() {
        CHECK.says("AGREE of two LOOMS: behind how many PICKS of both (0 .. 200)");
        RainLoom at200 = Texts.of("loom l 1 0; loom m 1 0; weaves = if pick < 200 then which else 3;");
        CHECK.due("behind 200", at200.agree(0, 1), 200);
        CHECK.due("behind 200", at200.agree(1, 0), 200);
        RainLoom at201 = Texts.of("loom l 1 0; loom m 1 0; weaves = if pick < 201 then which else 3;");
        CHECK.due("behind 201", at201.agree(0, 1), -2);
        at201.turn(0, 1);
        CHECK.due("the other one is not there", at201.agree(0, 1), -2);
        at201.turn(1, 1);
        CHECK.due("behind 200 of both", at201.agree(0, 1), 200);
        CHECK.due("at once", Texts.of("loom l 1 0; loom m 1 0;").agree(0, 1), 0);
        RainLoom apart = Texts.of("loom l 1 0; loom m 1 3; weaves = if pick < 10 then which else 4;");
        // At 7 LOOM 1 stands at 10, LOOM 0 not before 10.
        CHECK.due("of both", apart.agree(0, 1), 10);
        CHECK.says("they weave the same THREADS in as many warps as the narrower one has");
        RainLoom two = Texts.of("loom l 2 0; loom m 8 0; loom k 3 0; weaves = if warp < 2 then 5 else which;");
        CHECK.due("in two warps", two.agree(0, 1), 0);
        CHECK.due("in two warps", two.agree(1, 0), 0);
        CHECK.due("in three warps", two.agree(1, 2), -2);
        RainLoom one = Texts.of("loom l 2 0; loom m 8 0; weaves = if warp < 1 then 5 else which;");
        CHECK.due("not in the second warp", one.agree(0, 1), -2);
        RainLoom last = Texts.of("loom l 8 0; loom m 8 0; weaves = if warp < 7 then 5 else if pick < 9 then which else 6;");
        CHECK.due("in all eight", last.agree(0, 1), 9);
        RainLoom wide = Texts.of("loom l 1 0; loom m 2 0; weaves = wide / 2;");
        CHECK.due("more than 0 is not the same", Texts.of("loom l 1 0; loom m 1 0; weaves = which + 1;").agree(0, 1), -2);
        CHECK.due("by how wide they are", wide.agree(0, 1), -2);
    }

    private static void where(RainLoom x, int w, int h, int more, int atX, int atY) {
        CHECK.due("where(0, " + w + ", " + h + ", 0)", x.where(0, w, h, 0), more);
        CHECK.due("where(0, " + w + ", " + h + ", 1)", x.where(0, w, h, 1), atX);
        CHECK.due("where(0, " + w + ", " + h + ", 2)", x.where(0, w, h, 2), atY);
    }

    private static void whereBest() {
        CHECK.says("WHERE of a PIECE: on which CELL its corner had best fall now (not sticking out)");
        where(Texts.of("row ooo;row oob; field p 1 9; field q 1 9; loom l 8 0;"), 3, 2, 1, 0, 0);
        RainLoom small = Texts.of("row ooo;row oob; field p 1 9; field q 1 9; loom l 8 0;");
        where(small, 4, 2, -1000, -1000, -1000);
        where(small, 3, 3, -1000, -1000, -1000);
        where(small, 2, 1, 1, 1, 1);
        where(small, 1, 2, 1, 2, 0);
        RainLoom corner = Texts.of("row oooooooo;".repeat(5) + "row ooooooob; field p 1 9; field q 1 9; loom l 8 0;");
        where(corner, 1, 1, 1, 7, 5);
        where(corner, 8, 6, 1, 0, 0);
        where(corner, 7, 5, 1, 1, 1);
        where(Texts.of("loom l 8 0;"), 1, 1, -1000, -1000, -1000);
        CHECK.says("so that the most CELLS of FIELDS that have less than they NEED have enough then");
        // 4 falls: enough for NEEDS 4, not for 5; NEEDS 0 has enough already.
        where(Texts.of("row oabc; field p 0 99; field q 5 99; field r 4 99; loom l 1 0; weaves = 4;"), 1, 1, 1, 3, 0);
        where(Texts.of("row oab; field p 0 99; field q 5 99; loom l 1 0; weaves = 4;"), 1, 1, 0, 0, 0);
        RainLoom wet = Texts.of("row aa; field p 4 99; loom l 1 0; weaves = 4;");
        wet.fall(0, 1, 1, 0, 0);
        where(wet, 1, 1, 1, 1, 0);
        wet.fall(0, 1, 1, 1, 0);
        where(wet, 1, 1, 0, 0, 0);
        RainLoom half = Texts.of("row oaa; field p 6 99; loom l 1 0; weaves = 3;");
        where(half, 1, 1, 0, 0, 0);
        half.fall(0, 1, 1, 2, 0);
        where(half, 1, 1, 1, 2, 0);
        // 1 2 / 3 4 falls on a land of NEEDS 6 that has 5 0 0 / 0 2 0: on 5 and 2 at X 0 it is enough for both.
        RainLoom uneven = Texts.of("row aaa;row aaa; field p 6 99; loom l 2 0; loom m 1 0; "
            + "weaves = if which < 1 then pick * 2 + warp + 1 else if pick < 1 then 5 else 2; store 99;");
        uneven.fall(1, 1, 1, 0, 0);
        uneven.fall(1, 1, 1, 1, 1);
        where(uneven, 2, 2, 2, 0, 0);
        where(uneven, 1, 1, 1, 0, 0);
        where(uneven, 2, 1, 1, 0, 0);
        where(Texts.of("row aoaaoa; field p 1 9; loom l 3 0;"), 3, 1, 2, 0, 0);
        where(Texts.of("row aooaaa; field p 1 9; loom l 3 0;"), 3, 1, 3, 3, 0);
    }

    private static void whereTold() {
        CHECK.says("less those that are FLOODED then and are not now");
        // 4 falls: more than 3, not more than 4.
        where(Texts.of("row ab; field p 0 3; field q 0 4; loom l 1 0; weaves = 4;"), 1, 1, 0, 1, 0);
        where(Texts.of("row aa; field p 0 3; loom l 2 0; weaves = 4;"), 2, 1, -2, 0, 0);
        where(Texts.of("row aa; field p 4 3; loom l 2 0; weaves = 4;"), 2, 1, 0, 0, 0);
        RainLoom drowned = Texts.of("row aa; field p 0 3; loom l 1 0; weaves = 4;");
        where(drowned, 1, 1, -1, 0, 0);
        drowned.fall(0, 1, 1, 1, 0);
        where(drowned, 1, 1, 0, 1, 0);
        where(Texts.of("row aaaaaaaa;".repeat(6) + "field p 0 0; loom l 8 0;"), 8, 6, -48, 0, 0);
        where(Texts.of("row aaaaaaaa;".repeat(6) + "field p 1 9; loom l 8 0;"), 8, 6, 48, 0, 0);
        CHECK.says("of alike ones by Y, then by X: how many more");
        where(Texts.of("row ooo;row ooo; loom l 1 0;"), 1, 1, 0, 0, 0);
        where(Texts.of("row oooa;row aooo; field p 1 9; loom l 1 0;"), 1, 1, 1, 3, 0);
        where(Texts.of("row oooo;row oaoa; field p 1 9; loom l 1 0;"), 1, 1, 1, 1, 1);
        // The STORE as it is now: of 4 4 only the first one is woven.
        where(Texts.of("row aa; field p 4 9; loom l 2 0; weaves = 4; store 7;"), 2, 1, 1, 0, 0);
        where(Texts.of("row aa; field p 4 9; loom l 2 0; weaves = 4; store 8;"), 2, 1, 2, 0, 0);
        where(Texts.of("row aa; field p 4 9; loom l 2 0; weaves = 4; store 3;"), 2, 1, 0, 0, 0);
    }

    private static void cut() {
        CHECK.says("CUT of 1 to 4 PIECES, each 1 to 8 wide, 1 to 6 long (10 * wide + long each), from a roll 8 wide");
        RainLoom x = new RainLoom();
        for (int code = -99; code <= 120; code++) {
            int wide = code / 10;
            boolean piece = code > 0 && wide >= 1 && wide <= 8 && code % 10 >= 1 && code % 10 <= 6;
            CHECK.due("cut(" + code + ", 0, 0, 0)", x.cut(code, 0, 0, 0), piece ? code % 10 : -1);
            if (code != 0) {
                CHECK.due("cut(81, " + code + ", 0, 0)", x.cut(81, code, 0, 0), piece ? 1 + code % 10 : -1);
            }
        }
        RainLoom y = new RainLoom();
        for (int code = -99; code <= 120; code++) {
            boolean piece = code > 0 && code / 10 >= 1 && code / 10 <= 8 && code % 10 >= 1 && code % 10 <= 6;
            if (code != 0) {
                CHECK.due("cut(81, 82, " + code + ", 0)", y.cut(81, 82, code, 0), piece ? 3 + code % 10 : -1);
                CHECK.due("cut(81, 82, 83, " + code + ")", y.cut(81, 82, 83, code), piece ? 6 + code % 10 : -1);
            }
        }
        CHECK.says("none turned, none over another one: the least length");
        // Two side by side fit if their widths are 8 at most.
        RainLoom z = new RainLoom();
        for (int a = 1; a <= 8; a++) {
            for (int b = 1; b <= 8; b++) {
                CHECK.due(a + " and " + b + " wide", z.cut(10 * a + 5, 10 * b + 3, 0, 0), a + b <= 8 ? 5 : 8);
            }
        }
        int[][] cuts = {{16, 16, 16, 16, 6}, {86, 86, 86, 86, 24}, {26, 26, 26, 26, 6}, {36, 36, 26, 16, 12}, {36, 36, 16, 16, 6},
            {81, 11, 0, 0, 2}, {71, 11, 11, 0, 2}, {44, 44, 0, 0, 4}, {45, 43, 42, 0, 5}, {53, 33, 51, 31, 4}, {52, 32, 31, 51, 3},
            {61, 61, 22, 0, 2}, {61, 61, 23, 0, 3}, {46, 41, 42, 43, 6}, {46, 41, 42, 44, 7}, {51, 51, 42, 0, 4}, {13, 31, 0, 0, 3}};
        for (int[] c : cuts) {
            CHECK.due("cut(" + c[0] + ", " + c[1] + ", " + c[2] + ", " + c[3] + ")", z.cut(c[0], c[1], c[2], c[3]), c[4]);
        }
    }

    private static void then() {
        CHECK.says("THEN in n DAYS (0 .. 60): a CELL's water; how many CELLS LACKED, were FLOODED, more, together; the STORE");
        RainLoom x = Texts.of("row abo; field p 0 40; field q 5 999; loom l 1 0; weaves = 9; gathers = 3; store 9000;");
        for (int n = 0; n < 8; n++) {
            x.fall(0, 1, 1, 0, 0);
        }
        x.days(2);
        // 70 on FIELD 0: more than 40 for 30 days; FIELD 1 dry; the STORE has 9000 - 72 + 6.
        int[] days = {0, 1, 29, 30, 31, 59, 60};
        int[] water = {70, 69, 41, 40, 39, 11, 10};
        int[] flooded = {0, 1, 29, 30, 30, 30, 30};
        for (int i = 0; i < days.length; i++) {
            CHECK.due("then(0, 0, " + days[i] + ")", x.then(0, 0, days[i]), water[i]);
            CHECK.due("all(" + days[i] + ", 0)", x.all(days[i], 0), days[i]);
            CHECK.due("all(" + days[i] + ", 1)", x.all(days[i], 1), flooded[i]);
            CHECK.due("all(" + days[i] + ", 2)", x.all(days[i], 2), 8934 + 3 * days[i]);
            CHECK.due("wettest(" + days[i] + ", 0)", x.wettest(days[i], 0), water[i]);
            CHECK.due("dry(" + days[i] + ")", x.dry(days[i]), 2);
        }
        for (int n : new int[] {-1, 61, Integer.MIN_VALUE, Integer.MAX_VALUE}) {
            CHECK.due("then(0, 0, " + n + ")", x.then(0, 0, n), -1);
            for (int what = 0; what < 3; what++) {
                CHECK.due("all(" + n + ", " + what + ")", x.all(n, what), -1);
                CHECK.due("wettest(" + n + ", " + what + ")", x.wettest(n, what), -1);
            }
            CHECK.due("dry(" + n + ")", x.dry(n), -1);
            CHECK.due("year(" + n + ", 1)", x.year(n, 1), -1);
        }
        RainLoom full = Texts.of("gathers = 999; store 1;");
        CHECK.due("9999 at most", full.all(60, 2), 9999);
        CHECK.due("9991 of 10 days", full.all(10, 2), 9991);
        CHECK.says("the wettest CELL, of alike ones by Y, then by X; how many CELLS are dry");
        RainLoom alike = Texts.of("row ooo;row ooo; loom l 1 0; weaves = 2; dries = 0;");
        CHECK.due("all dry: the first", alike.wettest(0, 0) + alike.wettest(0, 1) + alike.wettest(0, 2), 0);
        CHECK.due("all dry", alike.dry(0), 6);
        alike.fall(0, 1, 1, 1, 1);
        CHECK.due("X", alike.wettest(0, 1), 1);
        CHECK.due("Y", alike.wettest(0, 2), 1);
        alike.fall(0, 1, 1, 0, 1);
        CHECK.due("of one Y the first X", alike.wettest(0, 1), 0);
        alike.fall(0, 1, 1, 2, 0);
        CHECK.due("the first Y, its X", alike.wettest(0, 1), 2);
        CHECK.due("the first Y", alike.wettest(0, 2), 0);
        CHECK.due("three are dry", alike.dry(60), 3);
        for (int i = 0; i < 48; i++) {
            RainLoom corner = Texts.of(WHOLE_LAND + "loom l 1 0;");
            corner.fall(0, 1, 1, i % 8, i / 8);
            CHECK.due("the only wet CELL", corner.wettest(0, 1) * 10 + corner.wettest(0, 2), i % 8 * 10 + i / 8);
            CHECK.due("all but one", corner.dry(0), 47);
            CHECK.due("all", corner.dry(1), 48);
        }
        RainLoom one = Texts.of("row o; loom l 1 0;");
        CHECK.due("the only CELL", one.wettest(0, 0) + one.wettest(0, 1) + one.wettest(0, 2), 0);
        one.fall(0, 1, 1, 0, 0);
        CHECK.due("the only CELL, wet", one.wettest(0, 0), 1);
        CHECK.due("the only CELL, wet", one.dry(0), 0);
    }

    private static int emptyBy(String text) {
        RainLoom x = Texts.of("row o; loom l 1 0;" + text);
        x.order(0, 1, 1, 0, 0);
        return x.emptyBy();
    }

    private static void emptyBy() {
        CHECK.says("EMPTY BY: behind how many DAYS (0 .. 200) the STORE is 0 for the first time.");
        CHECK.due("STORE 0", emptyBy("store 0;"), 0);
        CHECK.due("STORE 1", emptyBy("store 1;"), 1);
        CHECK.due("STORE 199", emptyBy("store 199;"), 199);
        CHECK.due("STORE 200", emptyBy("store 200;"), 200);
        CHECK.due("STORE 201", emptyBy("store 201;"), -2);
        CHECK.due("what comes in the evening", emptyBy("store 1; gathers = 1;"), -2);
        CHECK.due("nothing but THREADS that are TORN", emptyBy("store 10; weaves = 4;"), -2);
        CHECK.due("TORN, and yet empty", emptyBy("store 10; weaves = if pick < 3 then 4 else 2;"), 4);
        CHECK.due("for the first time", emptyBy("store 2; gathers = if day < 2 then 0 else 1;"), 2);
        CHECK.due("by day", emptyBy("store 3; gathers = if day < 100 then 1 else 0;"), 103);
        CHECK.due("no ORDER", Texts.of("row o; loom l 1 0; store 1;").emptyBy(), -2);
        RainLoom late = Texts.of("row o; loom l 1 0; store 230;");
        late.order(0, 1, 1, 0, 0);
        CHECK.due("behind 230", late.emptyBy(), -2);
        late.days(29);
        CHECK.due("behind 201", late.emptyBy(), -2);
        late.days(1);
        CHECK.due("behind 200", late.emptyBy(), 200);
    }

    private static void serves(RainLoom x, int w, int h, int sum, int... fields) {
        CHECK.due("serve(" + w + ", " + h + ", -1)", x.serve(w, h, -1), sum);
        for (int i = 0; i < fields.length; i++) {
            CHECK.due("serve(" + w + ", " + h + ", " + i + ")", x.serve(w, h, i), fields[i]);
        }
        CHECK.due("serve(" + w + ", " + h + ", " + fields.length + ")", x.serve(w, h, fields.length), -1);
        CHECK.due("serve(" + w + ", " + h + ", -2)", x.serve(w, h, -2), -1);
    }

    private static void serve() {
        CHECK.says("(differences added; as many LOOMS as there are, no more than FIELDS)");
        String looms = "loom i 1 0; loom j 1 0; loom k 1 0; loom l 1 0; weaves = which * 2 + 1;";
        // LOOMS hold 1 3 5 7.
        serves(Texts.of("row abcdef; field p 50 1; field q 60 1; field r 7 1; field s 5 1; field t 3 1; field u 1 1;" + looms), 1, 1, 0, 5, 4, 3, 2);
        serves(Texts.of("row abcd; field p 8 1; field q 2 1; field r 9 1; field s 0 1;" + looms), 1, 1, 1 + 1 + 3 + 2, 3, 1, 0, 2);
        RainLoom fewer = Texts.of("row abc; field p 8 1; field q 2 1; field r 9 1;" + looms);
        CHECK.due("more LOOMS than FIELDS", fewer.serve(1, 1, -1), -2);
        CHECK.due("more LOOMS than FIELDS", fewer.serve(1, 1, 3), -2);
        CHECK.due("LOOMS and no FIELDS", Texts.of(looms).serve(1, 1, 0), -2);
        serves(Texts.of("row a; field p 8 1;"), 1, 1, 0);
        serves(Texts.of(""), 8, 6, 0);
        serves(Texts.of("row a; field p 8 1; loom l 1 0; weaves = 3;"), 1, 1, 5, 0);
        serves(Texts.of("row a; field p 8 1; loom l 1 0; weaves = 0;"), 1, 1, 8, 0);
        serves(Texts.of("row ab; field p 8 1; field q 9 1; loom l 1 0; weaves = 0;"), 1, 1, 8, 0);
        serves(Texts.of("row a; field p 2 1; field q 50 1; loom l 2 0; weaves = 9; store 0;"), 2, 1, 16, 0);
        serves(Texts.of("row aab; field p 0 1; field q 9 1; loom l 8 0;"), 3, 2, 3, 1);
        CHECK.says("the least sum, of alike ones the first by LOOM 0's FIELD, then the next one's");
        serves(Texts.of("row abcd; field p 4 1; field q 4 1; field r 4 1; field s 4 1;" + looms), 1, 1, 3 + 1 + 1 + 3, 0, 1, 2, 3);
        // 3 and 5 for 4 and 4, either way; then 4 and 4, one of them for 4, the other for 3 or 5.
        serves(Texts.of("row abc; field p 9 1; field q 4 1; field r 4 1; loom k 1 3; loom l 1 5; weaves = pick;"), 1, 1, 2, 1, 2);
        serves(Texts.of("row abc; field p 3 1; field q 5 1; field r 4 1; loom k 1 4; loom l 1 4; weaves = pick;"), 1, 1, 1, 0, 2);
    }

    private static void suits() {
        CHECK.says("the LOOM whose PIECE, w by h, HOLDS what is nearest to what that FIELD's CELLS NEED; of alike ones the first.");
        // A PIECE of 1 by 1 holds 2 4 4 7, of 1 by 2 it holds 5 9 9 15.
        RainLoom x = Texts.of("row abbcdee; field p 3 1; field q 3 1; field r 4 1; field s 99 1; field t 4 1; field u 7 1;"
            + "loom i 1 2; loom j 2 4; loom k 3 4; loom l 1 7; weaves = pick; store 0;");
        CHECK.due("3: of 2 and 4 the first", x.suits(0, 1, 1), 0);
        CHECK.due("6: 7 is nearest", x.suits(1, 1, 1), 3);
        CHECK.due("4: of 4 and 4 the first", x.suits(2, 1, 1), 1);
        CHECK.due("99: the most", x.suits(3, 1, 1), 3);
        CHECK.due("8: 9 of 1 by 2", x.suits(4, 1, 2), 1);
        CHECK.due("0: the least", x.suits(5, 1, 1), 0);
        CHECK.due("of those so WIDE", x.suits(3, 2, 1), 1);
        CHECK.due("of the one so WIDE", x.suits(3, 3, 1), 2);
        CHECK.due("none is so WIDE", x.suits(3, 4, 1), -2);
        CHECK.due("no LOOM at all", Texts.of("row a; field p 1 1;").suits(0, 1, 1), -2);
        x.turn(0, 5);
        CHECK.due("from where it stands", x.suits(1, 1, 1), 0);
    }

    private static void year() {
        CHECK.says("YEAR by s SEEDS (1 .. 20) from the text's SEED on: how many CELLS LACKED more in n DAYS (0 .. 60)");
        String land = "row ao; field p 1 9; loom l 1 0; gusts 50;";
        RainLoom x = Texts.of(land + "seed 9990;");
        x.order(0, 1, 1, 0, 0);
        // LOTS of day 0, SEEDS 9990 to 10009.
        int[] lots = {87, 78, 7, 14, 71, 21, 45, 77, 39, 48, 2, 19, 85, 8, 30, 51, 32, 44, 51, 98};
        int gusty = 0;
        for (int s = 1; s <= 20; s++) {
            gusty += lots[s - 1] < 50 ? 1 : 0;
            CHECK.due("year(1, " + s + ")", x.year(1, s), gusty);
        }
        CHECK.due("year(0, 20)", x.year(0, 20), 0);
        CHECK.due("year(1, 0)", x.year(1, 0), -1);
        CHECK.due("year(1, 21)", x.year(1, 21), -1);
        CHECK.due("year(1, -1)", x.year(1, -1), -1);
        RainLoom calm = Texts.of("row ab; field p 1 9; field q 2 9;");
        calm.days(3);
        CHECK.due("more, not so far", calm.year(0, 20), 0);
        CHECK.due("year(59, 20)", calm.year(59, 20), 2360);
        CHECK.due("year(60, 20)", calm.year(60, 20), 2400);
        CHECK.due("year(61, 20)", calm.year(61, 20), -1);
        CHECK.due("year(-1, 20)", calm.year(-1, 20), -1);
        CHECK.due("year(60, 1)", calm.year(60, 1), 120);
    }

    private static void told() {
        CHECK.says("TOLD: how wet a CELL was (0 .. 999), 20 at most, numbered from 0 on");
        RainLoom x = Texts.of("row oo;");
        CHECK.due("tell -1", x.tell(0, 0, -1), -1);
        CHECK.due("tell 1000", x.tell(0, 0, 1000), -1);
        CHECK.due("tell 0", x.tell(0, 0, 0), 0);
        CHECK.due("tell 999", x.tell(1, 0, 999), 1);
        for (int n = 2; n < 20; n++) {
            CHECK.due("tell the " + n + "th", x.tell(1, 0, n), n);
        }
        CHECK.due("tell one more", x.tell(0, 0, 0), -1);
        CHECK.due("count(10)", x.count(10), 20);
        CHECK.says("KNOWN by k: the first k.");
        RainLoom y = Texts.of("row ooo; loom l 2 0; weaves = warp + 1;");
        y.tell(1, 0, 2);
        y.tell(0, 0, 1);
        y.tell(2, 0, 2);
        // 1 2 at X 0 or at X 1.
        CHECK.due("by 0", y.fell(0, 2, 1, -1), 2);
        CHECK.due("by 1", y.fell(1, 2, 1, -1), 1);
        CHECK.due("by 2", y.fell(2, 2, 1, -1), 1);
        CHECK.due("by 3", y.fell(3, 2, 1, -1), 0);
        CHECK.due("by 4", y.fell(4, 2, 1, -1), -1);
        CHECK.due("by -1", y.fell(-1, 2, 1, -1), -1);
        CHECK.due("look by 3", y.look(3, 2, 1), 0);
        CHECK.due("look by 4", y.look(4, 2, 1), -1);
        CHECK.due("look by -1", y.look(-1, 2, 1), -1);
        RainLoom full = Texts.of("row o; loom l 1 0; weaves = 3;");
        for (int n = 0; n < 20; n++) {
            full.tell(0, 0, n == 19 ? 4 : 3);
        }
        CHECK.due("by 19", full.fell(19, 1, 1, -1), 1);
        CHECK.due("by 20", full.fell(20, 1, 1, -1), 0);
        CHECK.due("by 21", full.fell(21, 1, 1, -1), -1);
        for (int i = 0; i < 48; i++) {
            RainLoom anywhere = Texts.of(WHOLE_LAND + "loom l 1 0;");
            anywhere.tell(i % 8, i / 8, 1);
            CHECK.due("on the CELL that is TOLD, no other", anywhere.fell(1, 1, 1, -1), 1);
            CHECK.due("on the CELL that is TOLD", anywhere.fell(1, 1, 1, 0), i / 8 * 10 + i % 8);
        }
    }

    private static void fell() {
        CHECK.says("which: the i-th by the LOOM, then by Y, then by X (100 * LOOM + 10 * Y + X)");
        RainLoom x = Texts.of(WHOLE_LAND + "loom i 1 0; loom j 2 0; loom k 8 0; loom l 3 0;");
        CHECK.due("1 by 1 anywhere", x.fell(0, 1, 1, -1), 192);
        int[][] ways = {{0, 0}, {7, 7}, {8, 10}, {47, 57}, {48, 100}, {96, 200}, {191, 357}, {192, -1}, {Integer.MAX_VALUE, -1}, {-2, -1}};
        for (int[] way : ways) {
            CHECK.due("fell(0, 1, 1, " + way[0] + ")", x.fell(0, 1, 1, way[0]), way[1]);
        }
        CHECK.says("somewhere, not sticking out");
        CHECK.due("8 by 6", x.fell(0, 8, 6, -1), 1);
        CHECK.due("8 by 6 of LOOM 2", x.fell(0, 8, 6, 0), 200);
        CHECK.due("7 by 5", x.fell(0, 7, 5, -1), 4);
        CHECK.due("7 by 5, the last", x.fell(0, 7, 5, 3), 211);
        CHECK.due("3 by 6", x.fell(0, 3, 6, -1), 12);
        CHECK.due("3 by 6, the last", x.fell(0, 3, 6, 11), 305);
        RainLoom small = Texts.of("row oo;row oo; loom l 8 0;");
        CHECK.due("as large as the land", small.fell(0, 2, 2, -1), 1);
        CHECK.due("wider than the land", small.fell(0, 3, 2, -1), 0);
        CHECK.due("longer than the land", small.fell(0, 2, 3, -1), 0);
        CHECK.due("wider than any LOOM", Texts.of("row oooo; loom l 3 0;").fell(0, 4, 1, -1), 0);
        CHECK.due("no LOOM", Texts.of("row oooo;").fell(0, 1, 1, -1), 0);
        CHECK.due("no CELL", Texts.of("loom l 3 0;").fell(0, 1, 1, -1), 0);
        CHECK.says("FELL: on dry land one PIECE");
        RainLoom wet = Texts.of("row oo; loom l 1 0; weaves = 9;");
        wet.fall(0, 1, 1, 1, 0);
        wet.tell(1, 0, 0);
        CHECK.due("as if it were dry", wet.fell(1, 1, 1, -1), 1);
        wet.tell(0, 0, 9);
        CHECK.due("as if it were dry", wet.fell(2, 1, 1, 0), 0);
        CHECK.says("of one of the LOOMS from where it stands");
        RainLoom stands = Texts.of("row oo; loom l 1 3; loom m 1 4; weaves = pick;");
        stands.tell(1, 0, 4);
        CHECK.due("LOOM 1's", stands.fell(1, 1, 1, 0), 101);
        stands.turn(0, 1);
        CHECK.due("LOOM 0's too", stands.fell(1, 1, 1, 0), 1);
        CHECK.due("LOOM 0's too", stands.fell(1, 1, 1, -1), 2);
        CHECK.says("STORE enough: in how many ways, so that all that is KNOWN is so");
        RainLoom poor = Texts.of("row ooo; loom l 2 0; weaves = 5; store 0;");
        poor.tell(1, 0, 5);
        CHECK.due("whatever is in it now", poor.fell(1, 2, 1, -1), 2);
        poor.tell(1, 0, 5);
        CHECK.due("told twice", poor.fell(2, 2, 1, -1), 2);
        poor.tell(1, 0, 6);
        CHECK.due("told otherwise", poor.fell(3, 2, 1, -1), 0);
        RainLoom large = Texts.of("row o;row o;row o; loom l 1 0; weaves = 9;");
        CHECK.due("a long PIECE", large.fell(0, 1, 3, -1), 1);
        large.tell(0, 1, 0);
        CHECK.due("then a short one: nothing is left of the long one", large.fell(1, 1, 1, -1), 2);
        RainLoom more = Texts.of("row o; loom l 1 0; weaves = 9;");
        more.tell(0, 0, 10);
        CHECK.due("more than a THREAD holds", more.fell(1, 1, 1, -1), 0);
        RainLoom none = Texts.of("row oo; loom l 1 0; weaves = 0;");
        none.tell(0, 0, 0);
        CHECK.due("a PIECE of nothing", none.fell(1, 1, 1, -1), 2);
    }

    private static void look() {
        CHECK.says("LOOK: at which CELL one had best look next, so that, whatever it tells, the fewest ways are left, at worst");
        RainLoom last = Texts.of(WHOLE_LAND + "loom i 8 0; loom j 8 0; weaves = if warp + pick < 12 then 3 else which;");
        CHECK.due("only the last CELL tells", last.look(0, 8, 6), 57);
        last.tell(7, 5, 1);
        CHECK.due("one way left: any CELL, the first", last.look(1, 8, 6), 0);
        last.tell(7, 5, 0);
        CHECK.due("no way left: any CELL, the first", last.look(2, 8, 6), 0);
        // 9 at X 0, 1, 2 or 3: at each CELL three of four ways tell 0.
        CHECK.due("alike", Texts.of("row oooo; loom l 1 0; weaves = 9;").look(0, 1, 1), 0);
        // 9 9 at X 0, 1, 2: at X 0 two tell 0, at X 1 two tell 9, at X 2 likewise.
        CHECK.due("alike", Texts.of("row oooo; loom l 2 0; weaves = 9;").look(0, 2, 1), 0);
        // 1 2 at X 0, 1, 2: X 0: 1 0 0; X 1: 2 1 0; X 2: 0 2 1.
        CHECK.due("at X 1", Texts.of("row oooo; loom l 2 0; weaves = warp + 1;").look(0, 2, 1), 1);
        // 1 over 2, at X 0 or 1, Y 0 or 1: the first CELL tells 1 0 0 0, that below it 2 1 0 0.
        CHECK.due("in the middle row", Texts.of("row oo;row oo;row oo; loom l 1 0; weaves = pick + 1;").look(0, 1, 2), 10);
        // Two LOOMS, one way each; their PIECES differ at X 3, Y 0 and at X 0, Y 1 alone.
        CHECK.due("by Y, then by X", Texts.of("row oooo;row oooo; loom k 4 0; loom l 4 0; weaves = if warp + pick * 4 < 3 then 5 "
            + "else if 4 < warp + pick * 4 then 5 else which;").look(0, 4, 2), 3);
        CHECK.due("no ways", Texts.of("row oo; loom l 1 0;").look(0, 2, 1), 0);
        CHECK.due("the only CELL", Texts.of("row o; loom l 1 0;").look(0, 1, 1), 0);
        CHECK.due("no LOOM", Texts.of("row oo;").look(0, 1, 1), 0);
        CHECK.due("no CELLS", Texts.of("loom l 1 0;").look(0, 1, 1), -2);
    }
}
