import java.util.ArrayList;
import java.util.List;
import java.util.Random;

/** Random runs of calls, RainLoom held against Model. Arguments: how many runs, the first seed. */
public final class ModelTest {
    private static int wrong = 0;
    private final Random r;
    private final RainLoom x = new RainLoom();
    private final Model m = new Model();
    private final List<String> log = new ArrayList<>();

    private ModelTest(long seed) {
        r = new Random(seed);
    }

    /** A number that is mostly from least to most, at times just outside, seldom far off. */
    private int some(int least, int most) {
        int k = r.nextInt(40);
        if (k == 0) {
            return least - 1;
        }
        if (k == 1) {
            return most + 1;
        }
        if (k == 2) {
            return new int[] {Integer.MIN_VALUE, Integer.MAX_VALUE, -1000, 100000}[r.nextInt(4)];
        }
        return k == 3 ? least : k == 4 ? most : least + r.nextInt(Math.max(1, most - least + 1));
    }

    private boolean due(String call, int got, int want) {
        log.add(call + " = " + want);
        if (got == want) {
            return true;
        }
        wrong++;
        System.out.println("after " + String.join("\n  ", log));
        System.out.println(call + " answered " + got + ", due is " + want);
        return false;
    }

    private boolean readSome() {
        String text = Texts.any(r);
        log.add("text: " + text);
        for (int[] f : Texts.feeds(text)) {
            if (!due("feed", x.feed(f[0], f[1], f[2], f[3], f[4]), m.feed(f[0], f[1], f[2], f[3], f[4]))) {
                return false;
            }
        }
        int n = Texts.padding(text);
        return due("back(" + n + ")", x.back(n), m.back(n)) && due("read()", x.read(), m.read())
            && due("place()", x.place(), m.place);
    }

    private int loom() {
        return some(0, Math.max(0, m.text.looms.size() - 1));
    }

    private int wide(int loom) {
        return some(1, m.isLoom(loom) ? m.text.looms.get(loom).wide() : 8);
    }

    private int aField() {
        return some(0, Math.max(0, m.text.fields.size() - 1));
    }

    private int someX() {
        return some(0, Math.max(0, m.columns() - 1));
    }

    private int someY() {
        return some(0, Math.max(0, m.rows() - 1));
    }

    private static int n(boolean b) {
        return b ? 1 : 0;
    }

    private int code() {
        return r.nextInt(6) == 0 ? 0 : r.nextInt(40) == 0 ? r.nextInt(200) - 50 : 10 * (1 + r.nextInt(8)) + 1 + r.nextInt(6);
    }

    private boolean doSome() {
        int l = loom();
        int w = wide(l);
        int h = some(1, 6);
        int a = someX();
        int b = someY();
        String p = "(" + l + ", " + w + ", " + h + ", " + a + ", " + b + ")";
        switch (r.nextInt(9)) {
            case 0:
            case 1:
                return due("order" + p, n(x.order(l, w, h, a, b)), n(m.order(l, w, h, a, b)));
            case 2:
                return due("stop(" + l + ")", n(x.stop(l)), n(m.stop(l)));
            case 3:
            case 4:
                return due("fall" + p, x.fall(l, w, h, a, b), m.fall(l, w, h, a, b));
            case 5:
                int t = some(1, 99);
                return due("turn(" + l + ", " + t + ")", x.turn(l, t), m.turn(l, t));
            case 6:
                int d = r.nextInt(3) == 0 ? some(0, 30) : r.nextInt(4);
                return due("days(" + d + ")", x.days(d), m.days(d));
            case 7:
                int slot = some(0, 2);
                return r.nextBoolean() ? due("hold(" + slot + ")", n(x.hold(slot)), n(m.hold(slot)))
                    : due("restore(" + slot + ")", n(x.restore(slot)), n(m.restore(slot)));
            default:
                return due("undo()", n(x.undo()), n(m.undo()));
        }
    }

    private boolean askPlain() {
        int what = some(0, 13);
        int l = loom();
        int f = aField();
        int a = someX();
        int b = someY();
        int part = some(0, 8);
        switch (r.nextInt(6)) {
            case 0:
                return due("count(" + what + ")", x.count(what), m.count(what));
            case 1:
                return due("cell(" + a + ", " + b + ", " + part % 5 + ")", x.cell(a, b, part % 5), m.cell(a, b, part % 5));
            case 2:
                return due("field(" + f + ", " + part % 6 + ")", x.field(f, part % 6), m.field(f, part % 6));
            case 3:
                return due("loom(" + l + ", " + part + ")", x.loom(l, part), m.loom(l, part));
            case 4:
                int warp = some(0, 7);
                int pick = some(0, 9999);
                return due("thread(" + l + ", " + warp + ", " + pick + ")", x.thread(l, warp, pick), m.thread(l, warp, pick));
            default:
                boolean flooded = r.nextBoolean();
                return due("now(" + f + ", " + flooded + ")", x.now(f, flooded), m.now(f, flooded));
        }
    }

    private boolean askCloth() {
        int l = loom();
        int w = wide(l);
        int h = some(1, 6);
        int what = some(0, 2);
        boolean none = r.nextBoolean();
        String p = "(" + l + ", " + w + ", " + h + ", ";
        switch (r.nextInt(7)) {
            case 0:
                return due("holds" + p + none, x.holds(l, w, h, none), m.holds(l, w, h, none));
            case 1:
                int row = some(0, (1 << Math.max(1, Math.min(8, w))) - 1);
                return due("comes(" + l + ", " + w + ", " + row + ")", x.comes(l, w, row), m.comes(l, w, row));
            case 2:
                return due("round(" + l + ")", x.round(l), m.round(l));
            case 3:
                int o = loom();
                return due("agree(" + l + ", " + o + ")", x.agree(l, o), m.agree(l, o));
            case 4:
                return due("where" + p + what, x.where(l, w, h, what), m.where(l, w, h, what));
            case 5:
                int i = some(-1, m.text.looms.size() - 1);
                int v = r.nextInt(3) == 0 ? some(1, 8) : 1;
                return due("serve(" + v + ", " + h + ", " + i + ")", x.serve(v, h, i), m.serve(v, h, i));
            default:
                int f = aField();
                return due("suits(" + f + ", " + w + ", " + h + ")", x.suits(f, w, h), m.suits(f, w, h));
        }
    }

    private boolean askDays() {
        int n = r.nextBoolean() ? some(0, 60) : r.nextInt(5);
        int a = someX();
        int b = someY();
        int what = some(0, 2);
        switch (r.nextInt(6)) {
            case 0:
                return due("then(" + a + ", " + b + ", " + n + ")", x.then(a, b, n), m.then(a, b, n));
            case 1:
                return due("all(" + n + ", " + what + ")", x.all(n, what), m.all(n, what));
            case 2:
                return due("wettest(" + n + ", " + what + ")", x.wettest(n, what), m.wettest(n, what));
            case 3:
                return due("dry(" + n + ")", x.dry(n), m.dry(n));
            case 4:
                return due("emptyBy()", x.emptyBy(), m.emptyBy());
            default:
                int s = some(1, 20);
                int few = r.nextInt(4) == 0 ? n : n % 7;
                return due("year(" + few + ", " + s + ")", x.year(few, s), m.year(few, s));
        }
    }

    private boolean askWitness() {
        int k = some(0, m.told.size());
        int w = r.nextBoolean() ? some(1, 8) : 1 + r.nextInt(3);
        int h = r.nextBoolean() ? some(1, 6) : 1 + r.nextInt(2);
        switch (r.nextInt(7)) {
            case 0:
            case 1:
            case 2:
                int a = someX();
                int b = someY();
                int water = r.nextInt(3) == 0 ? some(0, 999) : r.nextInt(3);
                return due("tell(" + a + ", " + b + ", " + water + ")", x.tell(a, b, water), m.tell(a, b, water));
            case 3:
                return r.nextInt(6) != 0 || due("forget()", x.forget(), m.forget());
            case 4:
                return due("look(" + k + ", " + w + ", " + h + ")", x.look(k, w, h), m.look(k, w, h));
            default:
                int i = some(-1, 20);
                return due("fell(" + k + ", " + w + ", " + h + ", " + i + ")", x.fell(k, w, h, i), m.fell(k, w, h, i));
        }
    }

    private boolean step() {
        int kind = r.nextInt(100);
        if (kind < 2) {
            return readSome();
        }
        if (kind < 30) {
            return doSome();
        }
        if (kind < 55) {
            return askPlain();
        }
        if (kind < 72) {
            return askCloth();
        }
        if (kind < 80) {
            return askDays();
        }
        if (kind < 97) {
            return askWitness();
        }
        int a = code();
        int b = code();
        int c = code();
        int d = code();
        return due("cut(" + a + ", " + b + ", " + c + ", " + d + ")", x.cut(a, b, c, d), m.cut(a, b, c, d));
    }

    public static void main(String[] args) {
        int runs = args.length > 0 ? Integer.parseInt(args[0]) : 60;
        long first = args.length > 1 ? Long.parseLong(args[1]) : 1;
        for (long seed = first; seed < first + runs && wrong < 3; seed++) {
            ModelTest run = new ModelTest(seed);
            boolean so = run.readSome();
            for (int i = 0; so && i < 300; i++) {
                so = run.step();
            }
        }
        System.out.println(wrong == 0 ? runs + " runs, all as the model" : wrong + " runs are not as the model");
        if (wrong != 0) {
            System.exit(1);
        }
    }
}
