import java.util.Arrays;

/**
 * Rain that is woven: a land of cells, looms whose cloth falls on it, a store of fog that the cloth is
 * woven from. The words in capitals in the comments are those of the document (DOC.md).
 */
public final class RainLoom {
    public static final int NONE = -1;

    private static final int NOT_SO = -2;
    private static final int NOWHERE = -1000;

    private static final int MAX_COLUMNS = 8;
    private static final int MAX_ROWS = 6;
    private static final int MAX_CELLS = MAX_COLUMNS * MAX_ROWS;
    private static final int MAX_FIELDS = 6;
    private static final int MAX_LOOMS = 4;
    private static final int MAX_WIDE = 8;
    private static final int MAX_LONG = 6;
    private static final int MAX_WATER = 999;
    private static final int MAX_STORE = 9999;
    private static final int MAX_PICK = 9999;
    private static final int MAX_BYTES = 2000;
    private static final int MAX_TURN = 99;
    private static final int MAX_DAYS = 30;
    private static final int MAX_AHEAD = 60;
    private static final int MAX_SEEDS = 20;
    private static final int LONG_AHEAD = 200;
    private static final int LONGEST_ROUND = 99;
    private static final int ROUND_PICKS = 48;
    private static final int SLOTS = 3;
    /** More than any sum of differences, and than there are ways. */
    private static final int BEYOND_ALL = 1000000;

    private final byte[] tape = new byte[MAX_BYTES];
    private int tapeLength = 0;
    private int faultPlace = NONE;
    private final Reader reader = new Reader();
    private Plan plan = new Plan();
    private final Weaver weaver = new Weaver(plan);
    private final Scene scene = new Scene();
    private final Scene trial = new Scene();
    private final Past past = new Past();
    private final Scene[] slots = new Scene[SLOTS];
    private final boolean[] held = new boolean[SLOTS];
    private final Witness witness = new Witness();
    private final Cutter cutter = new Cutter();
    private final int[] sums = new int[MAX_LOOMS];

    public RainLoom() {
        for (int slot = 0; slot < SLOTS; slot++) {
            slots[slot] = new Scene();
        }
        scene.begin(plan);
    }

    // ---- the tape and the text

    public int feed(int a, int b, int c, int d, int e) {
        if (tapeLength + 20 > MAX_BYTES) {
            return NONE;
        }
        putFour(a);
        putFour(b);
        putFour(c);
        putFour(d);
        putFour(e);
        return tapeLength;
    }

    private void putFour(int four) {
        for (int shift = 24; shift >= 0 && tapeLength < MAX_BYTES; shift -= 8) {
            tape[tapeLength] = (byte) (four >>> shift);
            tapeLength++;
        }
    }

    public int back(int n) {
        if (n < 0 || n > tapeLength) {
            return NONE;
        }
        tapeLength -= n;
        return tapeLength;
    }

    public int read() {
        int fault = reader.readText(tape, tapeLength);
        tapeLength = 0;
        faultPlace = reader.faultPlace;
        if (fault == 0) {
            Plan old = plan;
            plan = reader.plan;
            reader.plan = old;
            beginAnew();
        }
        return fault;
    }

    private void beginAnew() {
        weaver.begin(plan);
        scene.begin(plan);
        past.clear();
        witness.clear();
        for (int slot = 0; slot < SLOTS; slot++) {
            held[slot] = false;
        }
    }

    public int place() {
        return faultPlace;
    }

    // ---- what is there

    public int cell(int x, int y, int what) {
        if (!plan.hasCell(x, y) || what < 0 || what > 3) {
            return NONE;
        }
        int of = plan.fieldAt(x, y);
        int water = scene.waterAt(x, y);
        switch (what) {
            case 0:
                return of;
            case 1:
                return water;
            case 2:
                return plan.lacks(of, water) ? 1 : 0;
            default:
                return plan.drowned(of, water) ? 1 : 0;
        }
    }

    public int field(int field, int what) {
        if (!plan.hasField(field)) {
            return NONE;
        }
        switch (what) {
            case 0:
                return plan.cells[field];
            case 1:
                return scene.waterOf(plan, field);
            case 2:
                return scene.lacked[field];
            case 3:
                return scene.flooded[field];
            case 4:
                return plan.needOf(field);
            default:
                return NONE;
        }
    }

    public int loom(int loom, int what) {
        if (!plan.hasLoom(loom) || what < 0 || what >= Scene.PARTS) {
            return NONE;
        }
        return scene.part(loom, what);
    }

    public int thread(int loom, int warp, int pick) {
        if (!plan.hasLoom(loom) || warp < 0 || warp >= plan.wide[loom] || pick < 0 || pick > MAX_PICK) {
            return NONE;
        }
        return Weaver.threadOf(weaver.rowAt(loom, pick), warp);
    }

    public int now(int field, boolean flooded) {
        if (!plan.hasField(field)) {
            return NONE;
        }
        int many = 0;
        for (int at = 0; at < MAX_CELLS; at++) {
            boolean so = flooded ? plan.drowned(field, scene.water[at]) : plan.lacks(field, scene.water[at]);
            if (plan.land[at] == field && so) {
                many++;
            }
        }
        return many;
    }

    public int count(int what) {
        switch (what) {
            case 0:
                return plan.columns;
            case 1:
                return plan.rows;
            case 2:
                return plan.fields;
            case 3:
                return plan.looms;
            case 4:
                return scene.day;
            case 5:
                return scene.store;
            case 6:
                return Scene.sum(scene.water);
            case 7:
                return scene.woven();
            case 8:
                return tapeLength;
            case 9:
                return past.things;
            case 10:
                return witness.told;
            case 11:
                return heldSlots();
            case 12:
                return Scene.sum(scene.lacked);
            case 13:
                return Scene.sum(scene.flooded);
            default:
                return NONE;
        }
    }

    private int heldSlots() {
        int many = 0;
        for (int slot = 0; slot < SLOTS; slot++) {
            if (held[slot]) {
                many++;
            }
        }
        return many;
    }

    // ---- what is done by hand

    private boolean isPiece(int loom, int w, int h) {
        return plan.hasLoom(loom) && w >= 1 && w <= plan.wide[loom] && h >= 1 && h <= MAX_LONG;
    }

    private static boolean isSize(int w, int h) {
        return w >= 1 && w <= MAX_WIDE && h >= 1 && h <= MAX_LONG;
    }

    public boolean order(int loom, int w, int h, int x, int y) {
        if (!isPiece(loom, w, h) || !plan.hasCell(x, y) || scene.isOrdered(loom, w, h, x, y)) {
            return false;
        }
        past.remember(scene);
        scene.setOrder(loom, w, h, x, y);
        return true;
    }

    public boolean stop(int loom) {
        if (!plan.hasLoom(loom) || !scene.hasOrder(loom)) {
            return false;
        }
        past.remember(scene);
        scene.setOrder(loom, NOT_SO, NOT_SO, NOT_SO, NOT_SO);
        return true;
    }

    public int fall(int loom, int w, int h, int x, int y) {
        if (!isPiece(loom, w, h) || !plan.hasCell(x, y)) {
            return NONE;
        }
        past.remember(scene);
        return weaver.letFall(scene, loom, w, h, x, y);
    }

    public int turn(int loom, int n) {
        if (!plan.hasLoom(loom) || n < 1 || n > MAX_TURN) {
            return NONE;
        }
        past.remember(scene);
        scene.addPart(loom, Scene.PICK, n);
        return scene.part(loom, Scene.PICK);
    }

    public int days(int n) {
        if (n < 0 || n > MAX_DAYS) {
            return NONE;
        }
        if (n > 0) {
            past.remember(scene);
            weaver.passDays(scene, n, plan.seed);
        }
        return scene.day;
    }

    public boolean undo() {
        return past.takeBack(scene);
    }

    // ---- what would be: cloth

    public int holds(int loom, int w, int h, boolean none) {
        if (!isPiece(loom, w, h)) {
            return NONE;
        }
        weaveWhole(loom, w, h);
        return none ? weaver.emptyThreads(w, h) : weaver.woven;
    }

    private int heldBy(int loom, int w, int h) {
        weaveWhole(loom, w, h);
        return weaver.woven;
    }

    /** The weaver has the THREADS of the PIECE then, none TORN, whatever is in the STORE. */
    private void weaveWhole(int loom, int w, int h) {
        weaver.weave(loom, scene.part(loom, Scene.PICK), w, h, MAX_STORE);
    }

    public int comes(int loom, int w, int row) {
        if (!isPiece(loom, w, 1) || row < 0 || row >= 1 << w) {
            return NONE;
        }
        int from = scene.part(loom, Scene.PICK);
        for (int behind = 0; behind <= LONG_AHEAD; behind++) {
            if (Weaver.bitsOf(weaver.rowAt(loom, from + behind), w) == row) {
                return behind;
            }
        }
        return NOT_SO;
    }

    public int round(int loom) {
        if (!plan.hasLoom(loom)) {
            return NONE;
        }
        int from = scene.part(loom, Scene.PICK);
        for (int behind = 1; behind <= LONGEST_ROUND; behind++) {
            if (comesRound(loom, from, behind)) {
                return behind;
            }
        }
        return NOT_SO;
    }

    private boolean comesRound(int loom, int from, int behind) {
        for (int pick = from; pick < from + ROUND_PICKS; pick++) {
            if (weaver.rowAt(loom, pick) != weaver.rowAt(loom, pick + behind)) {
                return false;
            }
        }
        return true;
    }

    public int agree(int loom, int other) {
        if (!plan.hasLoom(loom) || !plan.hasLoom(other) || loom == other) {
            return NONE;
        }
        int narrow = Math.min(plan.wide[loom], plan.wide[other]);
        int from = scene.part(loom, Scene.PICK);
        int otherFrom = scene.part(other, Scene.PICK);
        for (int behind = 0; behind <= LONG_AHEAD; behind++) {
            int differ = weaver.rowAt(loom, from + behind) ^ weaver.rowAt(other, otherFrom + behind);
            if (Weaver.narrowed(differ, narrow) == 0) {
                return behind;
            }
        }
        return NOT_SO;
    }

    // ---- what would be: where, cut, serve, suits

    public int where(int loom, int w, int h, int what) {
        if (!isPiece(loom, w, h) || what < 0 || what > 2 || w > plan.columns || h > plan.rows) {
            return NOWHERE;
        }
        weaver.weave(loom, scene.part(loom, Scene.PICK), w, h, scene.store);
        int best = NOWHERE;
        int bestX = 0;
        int bestY = 0;
        for (int y = 0; y + h <= plan.rows; y++) {
            for (int x = 0; x + w <= plan.columns; x++) {
                int gain = weaver.gain(scene, w, h, x, y);
                if (gain > best) {
                    best = gain;
                    bestX = x;
                    bestY = y;
                }
            }
        }
        return what == 0 ? best : what == 1 ? bestX : bestY;
    }

    public int cut(int one, int two, int three, int four) {
        cutter.clear();
        boolean fits = cutter.add(one);
        fits = fits && (two == 0 || cutter.add(two));
        fits = fits && (three == 0 || two != 0 && cutter.add(three));
        fits = fits && (four == 0 || three != 0 && cutter.add(four));
        return fits ? cutter.leastLength() : NONE;
    }

    public int serve(int w, int h, int i) {
        if (!isSize(w, h) || w > plan.narrowest() || i < NONE || i >= plan.looms) {
            return NONE;
        }
        if (plan.looms > plan.fields) {
            return NOT_SO;
        }
        for (int loom = 0; loom < plan.looms; loom++) {
            sums[loom] = heldBy(loom, w, h);
        }
        return bestService(i);
    }

    /** Each service is a number, LOOM 0's FIELD its highest digit, so that of alike ones the first is met first. */
    private int bestService(int i) {
        int services = 1;
        for (int loom = 0; loom < plan.looms; loom++) {
            services *= plan.fields;
        }
        int best = 0;
        int least = BEYOND_ALL;
        for (int service = 0; service < services; service++) {
            int sum = serviceSum(service);
            if (sum >= 0 && sum < least) {
                least = sum;
                best = service;
            }
        }
        return i == NONE ? least : servedBy(best, i);
    }

    private int servedBy(int service, int loom) {
        int rest = service;
        for (int last = plan.looms - 1; last > loom && plan.fields > 0; last--) {
            rest /= plan.fields;
        }
        return plan.fields > 0 ? rest % plan.fields : 0;
    }

    /** The differences added; NONE if two LOOMS had the same FIELD. */
    private int serviceSum(int service) {
        int sum = 0;
        int taken = 0;
        int rest = service;
        for (int loom = plan.looms - 1; loom >= 0 && plan.fields > 0; loom--) {
            int served = rest % plan.fields;
            rest /= plan.fields;
            if ((taken >> served & 1) != 0) {
                return NONE;
            }
            taken |= 1 << served;
            sum += Math.abs(sums[loom] - plan.needOf(served));
        }
        return sum;
    }

    public int suits(int field, int w, int h) {
        if (!plan.hasField(field) || !isSize(w, h)) {
            return NONE;
        }
        int need = plan.needOf(field);
        int best = NOT_SO;
        int least = BEYOND_ALL;
        for (int loom = 0; loom < plan.looms; loom++) {
            if (w <= plan.wide[loom]) {
                int differ = Math.abs(heldBy(loom, w, h) - need);
                if (differ < least) {
                    least = differ;
                    best = loom;
                }
            }
        }
        return best;
    }

    // ---- what would be: days

    private static boolean isAhead(int n) {
        return n >= 0 && n <= MAX_AHEAD;
    }

    public int then(int x, int y, int n) {
        if (!plan.hasCell(x, y) || !isAhead(n)) {
            return NONE;
        }
        weaver.passDays(trial.copy(scene), n, plan.seed);
        return trial.waterAt(x, y);
    }

    public int all(int n, int what) {
        if (!isAhead(n) || what < 0 || what > 2) {
            return NONE;
        }
        weaver.passDays(trial.copy(scene), n, plan.seed);
        switch (what) {
            case 0:
                return Scene.sum(trial.lacked) - Scene.sum(scene.lacked);
            case 1:
                return Scene.sum(trial.flooded) - Scene.sum(scene.flooded);
            default:
                return trial.store;
        }
    }

    public int wettest(int n, int what) {
        if (!isAhead(n) || what < 0 || what > 2) {
            return NONE;
        }
        if (!plan.hasCell(0, 0)) {
            return NOT_SO;
        }
        weaver.passDays(trial.copy(scene), n, plan.seed);
        int best = 0;
        for (int at = 1; at < MAX_CELLS; at++) {
            if (trial.water[at] > trial.water[best]) {
                best = at;
            }
        }
        return what == 0 ? trial.water[best] : what == 1 ? best % MAX_COLUMNS : best / MAX_COLUMNS;
    }

    public int dry(int n) {
        if (!isAhead(n)) {
            return NONE;
        }
        weaver.passDays(trial.copy(scene), n, plan.seed);
        int many = 0;
        for (int y = 0; y < plan.rows; y++) {
            for (int x = 0; x < plan.columns; x++) {
                if (trial.waterAt(x, y) == 0) {
                    many++;
                }
            }
        }
        return many;
    }

    public int emptyBy() {
        trial.copy(scene);
        for (int behind = 0; behind <= LONG_AHEAD; behind++) {
            if (trial.store == 0) {
                return behind;
            }
            weaver.passStoreDay(trial);
        }
        return NOT_SO;
    }

    public int year(int n, int s) {
        if (!isAhead(n) || s < 1 || s > MAX_SEEDS) {
            return NONE;
        }
        int lackedSoFar = Scene.sum(scene.lacked);
        int more = 0;
        for (int seed = plan.seed; seed < plan.seed + s; seed++) {
            weaver.passDays(trial.copy(scene), n, seed);
            more += Scene.sum(trial.lacked) - lackedSoFar;
        }
        return more;
    }

    // ---- what is told

    public int tell(int x, int y, int water) {
        if (!plan.hasCell(x, y) || water < 0 || water > MAX_WATER) {
            return NONE;
        }
        return witness.add(x, y, water);
    }

    public int forget() {
        int many = witness.told;
        witness.clear();
        return many;
    }

    public int fell(int k, int w, int h, int i) {
        if (!witness.knows(k) || !isSize(w, h) || i < NONE) {
            return NONE;
        }
        gatherWays(k, w, h);
        if (i == NONE) {
            return witness.many;
        }
        return i < witness.many ? witness.ways[i] : NONE;
    }

    public int look(int k, int w, int h) {
        if (!witness.knows(k) || !isSize(w, h)) {
            return NONE;
        }
        if (!plan.hasCell(0, 0)) {
            return NOT_SO;
        }
        gatherWays(k, w, h);
        return bestLook();
    }

    /** There was enough in the STORE when the PIECE fell: what is left in it now does not matter. */
    private void gatherWays(int k, int w, int h) {
        witness.beginWays(w, h);
        for (int loom = 0; loom < plan.looms; loom++) {
            if (w <= plan.wide[loom]) {
                weaveWhole(loom, w, h);
                witness.keepPiece(loom, weaver.amounts);
                witness.addWays(loom, k, plan.columns, plan.rows);
            }
        }
    }

    private int bestLook() {
        int best = 0;
        int fewest = BEYOND_ALL;
        for (int y = 0; y < plan.rows; y++) {
            for (int x = 0; x < plan.columns; x++) {
                int left = witness.leftAtWorst(x, y);
                if (left < fewest) {
                    fewest = left;
                    best = 10 * y + x;
                }
            }
        }
        return best;
    }

    // ---- held and gone on from

    public boolean hold(int slot) {
        if (slot < 0 || slot >= SLOTS) {
            return false;
        }
        slots[slot].copy(scene);
        held[slot] = true;
        return true;
    }

    public boolean restore(int slot) {
        if (slot < 0 || slot >= SLOTS || !held[slot]) {
            return false;
        }
        scene.copy(slots[slot]);
        past.clear();
        return true;
    }

    // ---- classes inside

    /** A LAW, as a row of codes that are worked off with a stack. A code of 0 or more is an INT. */
    private static final class Law {
        /** The code of the first VAR, shed; those of the others, in the order of Tokens, are each one less. */
        static final int FIRST_VAR = -1;
        static final int VARS = 9;
        static final int ADD = -10;
        static final int SUBTRACT = -11;
        static final int MULTIPLY = -12;
        static final int DIVIDE = -13;
        /** Takes two off the stack: if the lower one is not less, goes on at the target, which is the next code. */
        static final int UNLESS_LESS = -14;
        static final int ANSWER = -15;

        static final int SHED = 0;
        static final int WARP = 1;
        static final int PICK = 2;
        static final int WATER = 3;
        static final int NEEDS = 4;
        static final int DROWNS = 5;
        static final int DAY = 6;
        static final int WHICH = 7;
        static final int WIDE = 8;

        final int[] codes = new int[512];
        final int[] stack = new int[32];
        final int[] vars = new int[VARS];
        int length = 0;

        void clear() {
            length = 0;
        }

        void put(int code) {
            if (length < codes.length) {
                codes[length] = code;
                length++;
            }
        }

        void putConstant(int value) {
            clear();
            put(value);
            put(ANSWER);
        }

        /** Where the target is to be put, once it is known. */
        int putUnlessLess() {
            put(UNLESS_LESS);
            put(0);
            return length - 1;
        }

        void aimHere(int at) {
            if (at >= 0 && at < length) {
                codes[at] = length;
            }
        }

        int answer() {
            int top = 0;
            for (int at = 0; at < length; at++) {
                int code = codes[at];
                if (code >= -VARS) {
                    if (top >= stack.length) {
                        return 0;
                    }
                    stack[top] = code >= 0 ? code : vars[FIRST_VAR - code];
                    top++;
                    continue;
                }
                if (code == ANSWER) {
                    return top > 0 ? stack[top - 1] : 0;
                }
                if (top < 2 || at + 1 >= length) {
                    return 0;
                }
                int left = stack[top - 2];
                int right = stack[top - 1];
                if (code == UNLESS_LESS) {
                    top -= 2;
                    // Never back: a target is always behind its code.
                    at = left >= right && codes[at + 1] > at + 2 ? codes[at + 1] - 1 : at + 1;
                    continue;
                }
                if (code == DIVIDE && right == 0) {
                    return 0;
                }
                top--;
                stack[top - 1] = worked(code, left, right);
            }
            return 0;
        }

        private static int worked(int code, int left, int right) {
            switch (code) {
                case ADD:
                    return left + right;
                case SUBTRACT:
                    return left - right;
                case MULTIPLY:
                    return left * right;
                default:
                    return right == 0 ? 0 : left / right;
            }
        }
    }

    /** What a text tells. */
    private static final class Plan {
        int columns = 0;
        int rows = 0;
        int fields = 0;
        int looms = 0;
        int store = 0;
        int gusts = 0;
        int seed = 0;
        /** The FIELD of each CELL, NOT_SO: none; beyond the land too. */
        final int[] land = new int[MAX_CELLS];
        final int[] cells = new int[MAX_FIELDS];
        final int[] needs = new int[MAX_FIELDS];
        final int[] drowns = new int[MAX_FIELDS];
        final int[] wide = new int[MAX_LOOMS];
        final int[] stands = new int[MAX_LOOMS];
        final Law weaves = new Law();
        final Law dries = new Law();
        final Law gathers = new Law();

        Plan() {
            clear();
        }

        void clear() {
            columns = 0;
            rows = 0;
            fields = 0;
            looms = 0;
            store = 100;
            gusts = 0;
            seed = 0;
            Arrays.fill(land, NOT_SO);
            Arrays.fill(cells, 0);
            weaves.putConstant(1);
            dries.putConstant(1);
            gathers.putConstant(0);
        }

        boolean hasCell(int x, int y) {
            return x >= 0 && x < columns && y >= 0 && y < rows;
        }

        boolean hasField(int which) {
            return which >= 0 && which < fields;
        }

        boolean hasLoom(int which) {
            return which >= 0 && which < looms;
        }

        int fieldAt(int x, int y) {
            return hasCell(x, y) ? land[y * MAX_COLUMNS + x] : NOT_SO;
        }

        boolean lacks(int of, int water) {
            return hasField(of) && water < needs[of];
        }

        boolean drowned(int of, int water) {
            return hasField(of) && water > drowns[of];
        }

        int needOf(int which) {
            return hasField(which) ? cells[which] * needs[which] : 0;
        }

        /** How WIDE the narrowest LOOM is; without LOOMS, as WIDE as one can be. */
        int narrowest() {
            int least = MAX_WIDE;
            for (int which = 0; which < looms; which++) {
                least = Math.min(least, wide[which]);
            }
            return least;
        }
    }

    /** The TOKENS of a text, and what is none, up to its end or up to the first one too many. */
    private static final class Tokens {
        static final String WORDS = "row field loom weaves dries gathers store gusts seed if then else shed warp pick water needs drowns day which wide ";
        static final String SIGNS = ";=+-*/<()";

        static final int ROW = 0;
        static final int FIELD = 1;
        static final int LOOM = 2;
        static final int WEAVES = 3;
        static final int DRIES = 4;
        static final int GATHERS = 5;
        static final int STORE = 6;
        static final int GUSTS = 7;
        static final int SEED = 8;
        static final int IF = 9;
        static final int THEN = 10;
        static final int ELSE = 11;
        static final int FIRST_VAR = 12;
        static final int LAST_VAR = 20;
        static final int NAME = 21;
        static final int INT = 22;
        static final int SEMICOLON = 23;
        static final int EQUALS = 24;
        static final int PLUS = 25;
        static final int MINUS = 26;
        static final int TIMES = 27;
        static final int OVER = 28;
        static final int LESS = 29;
        static final int OPEN = 30;
        static final int CLOSE = 31;
        static final int END = 32;
        static final int NO_TOKEN = 33;

        static final int MOST = 400;
        private static final int LONGEST_NAME = 8;
        private static final int LONGEST_INT = 4;

        /** The words in quotes, as nameWith makes them of their letters, in the order of their kinds. */
        final long[] words = new long[NAME];
        final int[] kinds = new int[MOST + 1];
        final int[] starts = new int[MOST + 1];
        /** An INT's number; a NAME as nameWith makes it. */
        final long[] values = new long[MOST + 1];
        int many = 0;

        Tokens() {
            int word = 0;
            long letters = 0;
            for (int at = 0; at < WORDS.length() && word < words.length; at++) {
                char sign = WORDS.charAt(at);
                if (sign == ' ') {
                    words[word] = letters;
                    word++;
                    letters = 0;
                } else {
                    letters = nameWith(letters, sign);
                }
            }
        }

        /** Five bits a letter: 8 letters fit, and no two names are the same number. */
        private static long nameWith(long letters, int letter) {
            return letters * 32 + (letter - 'a' + 1);
        }

        static int letterAt(long name, int fromEnd) {
            return (int) (name >>> 5 * fromEnd & 31) + 'a' - 1;
        }

        static int lengthOf(long name) {
            int letters = 0;
            while (letters < LONGEST_NAME && name >>> 5 * letters != 0) {
                letters++;
            }
            return letters;
        }

        private static boolean isBlank(int sign) {
            return sign == 9 || sign == 10 || sign == 13 || sign == 32;
        }

        private static boolean isLetter(int sign) {
            return sign >= 'a' && sign <= 'z';
        }

        private static boolean isDigit(int sign) {
            return sign >= '0' && sign <= '9';
        }

        void scan(byte[] text, int length) {
            int end = Math.min(length, text.length);
            int at = 0;
            many = 0;
            // Each step takes a byte at least, so there are never more steps than bytes.
            for (int step = 0; step < end && at < end && many <= MOST; step++) {
                int first = text[at];
                if (isBlank(first)) {
                    at++;
                } else if (isLetter(first)) {
                    at = takeLetters(text, at, end);
                } else if (isDigit(first)) {
                    at = takeDigits(text, at, end);
                } else {
                    at = takeSign(first, at);
                }
            }
            put(END, end, 0);
        }

        private void put(int kind, int start, long value) {
            if (many <= MOST) {
                kinds[many] = kind;
                starts[many] = start;
                values[many] = value;
                many++;
            }
        }

        private int takeLetters(byte[] text, int start, int end) {
            long name = 0;
            int at = start;
            while (at < end && isLetter(text[at])) {
                name = nameWith(name, text[at]);
                at++;
            }
            int kind = at - start > LONGEST_NAME ? NO_TOKEN : NAME;
            for (int word = 0; word < words.length && kind == NAME; word++) {
                if (words[word] == name) {
                    kind = word;
                }
            }
            put(kind, start, name);
            return at;
        }

        private int takeDigits(byte[] text, int start, int end) {
            int number = 0;
            int at = start;
            while (at < end && isDigit(text[at])) {
                number = number * 10 + (text[at] - '0');
                at++;
            }
            put(at - start > LONGEST_INT ? NO_TOKEN : INT, start, number);
            return at;
        }

        private int takeSign(int sign, int start) {
            int which = sign < 0 ? -1 : SIGNS.indexOf((char) sign);
            put(which < 0 ? NO_TOKEN : SEMICOLON + which, start, 0);
            return start + 1;
        }
    }

    /** Reads a text into a Plan, which is of use only if there was no FAULT. */
    private static final class Reader {
        private static final int SYNTAX = 1;
        private static final int ROOM = 2;
        private static final int TWICE = 3;
        private static final int WRONG = 5;
        private static final int LAND = 6;

        private static final int MAX_IFS = 4;
        private static final int MAX_DEPTH = 6;
        private static final int MAX_NEEDS = 99;
        private static final int MAX_DROWNS = 999;
        private static final int MAX_STANDS = 99;
        private static final int MAX_GUSTS = 100;
        private static final int MAX_SEED = 9999;

        final Tokens tokens = new Tokens();
        Plan plan = new Plan();
        /** Which TOKEN comes next, and its kind. */
        int next = 0;
        int kind = Tokens.END;
        final long[] names = new long[MAX_FIELDS + MAX_LOOMS];
        int nameCount = 0;
        int fault = 0;
        int faultPlace = NONE;
        /** The first FAULT of those that count only if there is no SYNTAX or ROOM in the whole text. */
        int laterFault = 0;
        int laterPlace = NONE;

        int readText(byte[] text, int length) {
            tokens.scan(text, length);
            begin();
            for (int told = 0; told <= Tokens.MOST && fault == 0 && kind != Tokens.END; told++) {
                readTell();
            }
            for (int at = 0; at < MAX_CELLS; at++) {
                if (plan.land[at] >= plan.fields) {
                    blameLater(LAND, length);
                }
            }
            if (fault == 0) {
                fault = laterFault;
                faultPlace = laterPlace;
            }
            return fault;
        }

        private void begin() {
            plan.clear();
            next = 0;
            kind = tokens.kinds[0];
            nameCount = 0;
            fault = 0;
            faultPlace = NONE;
            laterFault = 0;
            laterPlace = NONE;
        }

        private void blame(int which) {
            if (fault == 0) {
                fault = which;
                faultPlace = tokens.starts[next];
            }
        }

        private void blameLater(int which, int at) {
            if (laterFault == 0) {
                laterFault = which;
                laterPlace = at;
            }
        }

        private int start() {
            return tokens.starts[next];
        }

        private long value() {
            return tokens.values[next];
        }

        /** Goes on behind a TOKEN of that kind: only here TOKENS are gone by, so the 401st is met here. */
        private boolean accept(int wanted) {
            if (kind != wanted) {
                blame(SYNTAX);
            } else if (next >= Tokens.MOST) {
                blame(ROOM);
            }
            if (fault != 0) {
                return false;
            }
            next++;
            kind = tokens.kinds[next];
            return true;
        }

        private void readTell() {
            switch (kind) {
                case Tokens.ROW:
                    readRow();
                    break;
                case Tokens.FIELD:
                    readField();
                    break;
                case Tokens.LOOM:
                    readLoom();
                    break;
                case Tokens.WEAVES:
                    readLaw(plan.weaves);
                    break;
                case Tokens.DRIES:
                    readLaw(plan.dries);
                    break;
                case Tokens.GATHERS:
                    readLaw(plan.gathers);
                    break;
                case Tokens.STORE:
                    accept(Tokens.STORE);
                    plan.store = readInt(0, MAX_STORE);
                    break;
                case Tokens.GUSTS:
                    accept(Tokens.GUSTS);
                    plan.gusts = readInt(0, MAX_GUSTS);
                    break;
                case Tokens.SEED:
                    accept(Tokens.SEED);
                    plan.seed = readInt(0, MAX_SEED);
                    break;
                default:
                    blame(SYNTAX);
                    break;
            }
            accept(Tokens.SEMICOLON);
        }

        private int readInt(int least, int most) {
            int number = (int) value();
            int at = start();
            if (accept(Tokens.INT) && (number < least || number > most)) {
                blameLater(WRONG, at);
            }
            return number;
        }

        private void readName() {
            long name = value();
            int at = start();
            if (!accept(Tokens.NAME)) {
                return;
            }
            for (int told = 0; told < nameCount; told++) {
                if (names[told] == name) {
                    blameLater(TWICE, at);
                }
            }
            if (nameCount < names.length) {
                names[nameCount] = name;
                nameCount++;
            }
        }

        private void readRow() {
            if (plan.rows >= MAX_ROWS) {
                blame(ROOM);
                return;
            }
            accept(Tokens.ROW);
            long name = value();
            int at = start();
            if (accept(Tokens.NAME)) {
                layRow(name, at);
            }
        }

        private void layRow(long name, int at) {
            int letters = Tokens.lengthOf(name);
            if (plan.rows == 0) {
                plan.columns = letters;
            }
            if (letters != plan.columns) {
                blameLater(LAND, at);
            }
            for (int x = 0; x < letters && x < MAX_COLUMNS; x++) {
                int letter = Tokens.letterAt(name, letters - 1 - x);
                int of = letter - 'a';
                if (of >= 0 && of < MAX_FIELDS) {
                    plan.land[plan.rows * MAX_COLUMNS + x] = of;
                    plan.cells[of]++;
                } else if (letter != 'o') {
                    blameLater(LAND, at);
                }
            }
            plan.rows++;
        }

        private void readField() {
            if (plan.fields >= MAX_FIELDS) {
                blame(ROOM);
                return;
            }
            accept(Tokens.FIELD);
            readName();
            plan.needs[plan.fields] = readInt(0, MAX_NEEDS);
            plan.drowns[plan.fields] = readInt(0, MAX_DROWNS);
            plan.fields++;
        }

        private void readLoom() {
            if (plan.looms >= MAX_LOOMS) {
                blame(ROOM);
                return;
            }
            accept(Tokens.LOOM);
            readName();
            plan.wide[plan.looms] = readInt(1, MAX_WIDE);
            plan.stands[plan.looms] = readInt(0, MAX_STANDS);
            plan.looms++;
        }

        /** From the word on that tells which LAW it is. */
        private void readLaw(Law law) {
            law.clear();
            accept(kind);
            accept(Tokens.EQUALS);
            for (int ifs = 0; ifs <= MAX_IFS && fault == 0 && kind == Tokens.IF; ifs++) {
                if (ifs == MAX_IFS) {
                    blame(ROOM);
                }
                accept(Tokens.IF);
                readSum(law, 0);
                accept(Tokens.LESS);
                readSum(law, 0);
                accept(Tokens.THEN);
                int target = law.putUnlessLess();
                readSum(law, 0);
                accept(Tokens.ELSE);
                law.put(Law.ANSWER);
                law.aimHere(target);
            }
            readSum(law, 0);
            law.put(Law.ANSWER);
        }

        /** An E. What is behind a sign is put first, and the sign once it is known to be whole. */
        private void readSum(Law law, int depth) {
            int product = 0;
            int sum = 0;
            boolean more = true;
            for (int units = 0; units <= Tokens.MOST && more; units++) {
                readUnit(law, depth);
                if (product != 0) {
                    law.put(product);
                }
                product = productCode();
                if (product == 0 && sum != 0) {
                    law.put(sum);
                }
                if (product == 0) {
                    sum = sumCode();
                }
                more = (product != 0 || sum != 0) && accept(kind);
            }
        }

        /** The code of a * or / that comes next, or 0. */
        private int productCode() {
            return kind == Tokens.TIMES ? Law.MULTIPLY : kind == Tokens.OVER ? Law.DIVIDE : 0;
        }

        /** The code of a + or - that comes next, or 0. */
        private int sumCode() {
            return kind == Tokens.PLUS ? Law.ADD : kind == Tokens.MINUS ? Law.SUBTRACT : 0;
        }

        /** Depth: how many ( are open. */
        private void readUnit(Law law, int depth) {
            if (kind == Tokens.OPEN) {
                if (depth >= MAX_DEPTH) {
                    blame(ROOM);
                } else if (accept(Tokens.OPEN)) {
                    readSum(law, depth + 1);
                    accept(Tokens.CLOSE);
                }
            } else if (kind >= Tokens.FIRST_VAR && kind <= Tokens.LAST_VAR) {
                law.put(Law.FIRST_VAR - (kind - Tokens.FIRST_VAR));
                accept(kind);
            } else {
                law.put((int) value());
                accept(Tokens.INT);
            }
        }
    }

    /** What goes on. */
    private static final class Scene {
        /** The parts of a LOOM, as loom() numbers them. */
        static final int WIDE = 0;
        static final int PICK = 1;
        static final int ORDER_W = 2;
        static final int ORDER_H = 3;
        static final int ORDER_X = 4;
        static final int ORDER_Y = 5;
        static final int WOVEN = 6;
        static final int TORN = 7;
        static final int PARTS = 8;

        int day = 0;
        int store = 0;
        final int[] water = new int[MAX_CELLS];
        final int[] looms = new int[MAX_LOOMS * PARTS];
        final int[] lacked = new int[MAX_FIELDS];
        final int[] flooded = new int[MAX_FIELDS];

        void begin(Plan plan) {
            day = 0;
            store = plan.store;
            Arrays.fill(water, 0);
            Arrays.fill(looms, 0);
            Arrays.fill(lacked, 0);
            Arrays.fill(flooded, 0);
            for (int which = 0; which < plan.looms; which++) {
                addPart(which, WIDE, plan.wide[which]);
                addPart(which, PICK, plan.stands[which]);
                setOrder(which, NOT_SO, NOT_SO, NOT_SO, NOT_SO);
            }
        }

        Scene copy(Scene from) {
            day = from.day;
            store = from.store;
            System.arraycopy(from.water, 0, water, 0, MAX_CELLS);
            System.arraycopy(from.looms, 0, looms, 0, MAX_LOOMS * PARTS);
            System.arraycopy(from.lacked, 0, lacked, 0, MAX_FIELDS);
            System.arraycopy(from.flooded, 0, flooded, 0, MAX_FIELDS);
            return this;
        }

        static int sum(int[] row) {
            int sum = 0;
            for (int at = 0; at < row.length; at++) {
                sum += row[at];
            }
            return sum;
        }

        private static boolean isPart(int which, int part) {
            return which >= 0 && which < MAX_LOOMS && part >= 0 && part < PARTS;
        }

        int part(int which, int part) {
            return isPart(which, part) ? looms[which * PARTS + part] : 0;
        }

        void addPart(int which, int part, int more) {
            if (isPart(which, part)) {
                looms[which * PARTS + part] += more;
            }
        }

        private void setPart(int which, int part, int value) {
            if (isPart(which, part)) {
                looms[which * PARTS + part] = value;
            }
        }

        void setOrder(int which, int w, int h, int x, int y) {
            setPart(which, ORDER_W, w);
            setPart(which, ORDER_H, h);
            setPart(which, ORDER_X, x);
            setPart(which, ORDER_Y, y);
        }

        boolean isOrdered(int which, int w, int h, int x, int y) {
            return part(which, ORDER_W) == w && part(which, ORDER_H) == h
                && part(which, ORDER_X) == x && part(which, ORDER_Y) == y;
        }

        boolean hasOrder(int which) {
            return part(which, ORDER_W) > 0;
        }

        int waterAt(int x, int y) {
            boolean inside = x >= 0 && x < MAX_COLUMNS && y >= 0 && y < MAX_ROWS;
            return inside ? water[y * MAX_COLUMNS + x] : 0;
        }

        int waterOf(Plan plan, int which) {
            int sum = 0;
            for (int at = 0; at < MAX_CELLS; at++) {
                if (plan.land[at] == which) {
                    sum += water[at];
                }
            }
            return sum;
        }

        int woven() {
            int sum = 0;
            for (int which = 0; which < MAX_LOOMS; which++) {
                sum += part(which, WOVEN);
            }
            return sum;
        }
    }

    /** The last things done, as what was there ahead of each. */
    private static final class Past {
        private static final int MOST = 30;

        final Scene[] scenes = new Scene[MOST];
        /** Where the next one goes; those ahead of it, round and round, are the latest. */
        int next = 0;
        int things = 0;

        Past() {
            for (int at = 0; at < MOST; at++) {
                scenes[at] = new Scene();
            }
        }

        void clear() {
            things = 0;
        }

        void remember(Scene scene) {
            scenes[next].copy(scene);
            next = (next + 1) % MOST;
            things = Math.min(things + 1, MOST);
        }

        boolean takeBack(Scene scene) {
            if (things == 0) {
                return false;
            }
            next = (next + MOST - 1) % MOST;
            things--;
            scene.copy(scenes[next]);
            return true;
        }
    }

    /** Weaves by a Plan, and lets days go by in a Scene. */
    private static final class Weaver {
        /** Rows of cloth that are kept, of each LOOM: looking ahead asks for the same ones again and again. */
        private static final int KEPT = 512;
        private static final int THREAD_BITS = 4;
        private static final int MAX_THREAD = 9;
        private static final int MAX_DRIES = 99;
        private static final int MAX_GATHERS = 999;

        Plan plan;
        /** Of which PICK a kept row is, one more (0: none is kept). */
        final int[] keptPicks = new int[MAX_LOOMS * KEPT];
        /** Rows of cloth, four bits a THREAD, warp 0 the lowest ones. */
        final int[] keptRows = new int[MAX_LOOMS * KEPT];
        /** The THREADS of the latest PIECE, row by row, without gaps; 0 from the TORN one on. */
        final int[] amounts = new int[MAX_WIDE * MAX_LONG];
        int woven = 0;
        boolean torn = false;

        Weaver(Plan by) {
            plan = by;
        }

        void begin(Plan by) {
            plan = by;
            Arrays.fill(keptPicks, 0);
        }

        int rowAt(int which, int pick) {
            if (!plan.hasLoom(which) || pick < 0) {
                return 0;
            }
            int at = which * KEPT + pick % KEPT;
            if (keptPicks[at] == pick + 1) {
                return keptRows[at];
            }
            int[] vars = plan.weaves.vars;
            vars[Law.WHICH] = which;
            vars[Law.PICK] = pick;
            vars[Law.SHED] = pick % 4;
            vars[Law.WIDE] = plan.wide[which];
            int row = 0;
            for (int warp = 0; warp < plan.wide[which]; warp++) {
                vars[Law.WARP] = warp;
                row |= within(plan.weaves.answer(), MAX_THREAD) << THREAD_BITS * warp;
            }
            keptPicks[at] = pick + 1;
            keptRows[at] = row;
            return row;
        }

        private static int within(int value, int most) {
            return value < 0 ? 0 : value > most ? most : value;
        }

        static int threadOf(int row, int warp) {
            return row >>> THREAD_BITS * warp & 15;
        }

        static int bitsOf(int row, int w) {
            int bits = 0;
            for (int warp = 0; warp < w; warp++) {
                if (threadOf(row, warp) > 0) {
                    bits |= 1 << warp;
                }
            }
            return bits;
        }

        static int narrowed(int row, int w) {
            return w >= MAX_WIDE ? row : row & (1 << THREAD_BITS * w) - 1;
        }

        /** Weaves a PIECE into amounts, as far as there is enough in store. */
        void weave(int which, int from, int w, int h, int store) {
            woven = 0;
            torn = false;
            int at = 0;
            for (int pick = 0; pick < h; pick++) {
                int row = rowAt(which, from + pick);
                for (int warp = 0; warp < w && at < amounts.length; warp++) {
                    int amount = threadOf(row, warp);
                    torn = torn || amount > store - woven;
                    amounts[at] = torn ? 0 : amount;
                    woven += amounts[at];
                    at++;
                }
            }
        }

        int emptyThreads(int w, int h) {
            int many = 0;
            for (int at = 0; at < w * h && at < amounts.length; at++) {
                if (amounts[at] == 0) {
                    many++;
                }
            }
            return many;
        }

        int letFall(Scene scene, int which, int w, int h, int x, int y) {
            weave(which, scene.part(which, Scene.PICK), w, h, scene.store);
            for (int pick = 0; pick < h && y + pick < plan.rows; pick++) {
                for (int warp = 0; warp < w && x + warp < plan.columns; warp++) {
                    int at = (y + pick) * MAX_COLUMNS + x + warp;
                    scene.water[at] = wetter(scene.water[at], amounts[pick * w + warp]);
                }
            }
            scene.store -= woven;
            scene.addPart(which, Scene.WOVEN, woven);
            scene.addPart(which, Scene.PICK, h);
            if (torn) {
                scene.addPart(which, Scene.TORN, 1);
            }
            return woven;
        }

        private static int wetter(int water, int more) {
            return Math.min(MAX_WATER, water + more);
        }

        /** How many CELLS more would have enough, less those newly FLOODED, if amounts fell there. */
        int gain(Scene scene, int w, int h, int x, int y) {
            int more = 0;
            for (int pick = 0; pick < h; pick++) {
                for (int warp = 0; warp < w; warp++) {
                    int of = plan.fieldAt(x + warp, y + pick);
                    int before = scene.waterAt(x + warp, y + pick);
                    int after = wetter(before, amounts[pick * w + warp]);
                    if (plan.lacks(of, before) && !plan.lacks(of, after)) {
                        more++;
                    }
                    if (!plan.drowned(of, before) && plan.drowned(of, after)) {
                        more--;
                    }
                }
            }
            return more;
        }

        void passDays(Scene scene, int n, int seed) {
            for (int passed = 0; passed < n; passed++) {
                letOrdersFall(scene, seed);
                tally(scene);
                dryCells(scene);
                endDay(scene);
            }
        }

        /** A day as far as the STORE goes: how wet the land is does not touch it. */
        void passStoreDay(Scene scene) {
            letOrdersFall(scene, plan.seed);
            endDay(scene);
        }

        private void letOrdersFall(Scene scene, int seed) {
            for (int which = 0; which < plan.looms; which++) {
                if (scene.hasOrder(which)) {
                    int x = scene.part(which, Scene.ORDER_X);
                    if (lot(100, seed, 8 * scene.day + which) < plan.gusts) {
                        x++;
                    }
                    letFall(scene, which, scene.part(which, Scene.ORDER_W), scene.part(which, Scene.ORDER_H),
                        x, scene.part(which, Scene.ORDER_Y));
                }
            }
        }

        private static int lot(int n, int seed, int which) {
            int mixed = mix(mix(seed, 75), which);
            return n > 0 ? (mixed >>> 1) % n : 0;
        }

        private static int mix(int before, int with) {
            int mixed = (before ^ with) * 1103515245 + 12345;
            return mixed ^ mixed >>> 15;
        }

        private void tally(Scene scene) {
            for (int at = 0; at < MAX_CELLS; at++) {
                int of = plan.land[at];
                if (plan.lacks(of, scene.water[at])) {
                    scene.lacked[of]++;
                }
                if (plan.drowned(of, scene.water[at])) {
                    scene.flooded[of]++;
                }
            }
        }

        /** A dry CELL stays so, whatever the LAW tells. */
        private void dryCells(Scene scene) {
            int[] vars = plan.dries.vars;
            vars[Law.DAY] = scene.day;
            for (int at = 0; at < MAX_CELLS; at++) {
                if (scene.water[at] > 0) {
                    int of = plan.land[at];
                    vars[Law.WATER] = scene.water[at];
                    vars[Law.NEEDS] = plan.hasField(of) ? plan.needs[of] : 0;
                    vars[Law.DROWNS] = plan.hasField(of) ? plan.drowns[of] : 0;
                    scene.water[at] = Math.max(0, scene.water[at] - within(plan.dries.answer(), MAX_DRIES));
                }
            }
        }

        private void endDay(Scene scene) {
            plan.gathers.vars[Law.DAY] = scene.day;
            scene.store = Math.min(MAX_STORE, scene.store + within(plan.gathers.answer(), MAX_GATHERS));
            scene.day++;
        }
    }

    /** What is TOLD, and the ways in which a PIECE can have fallen so that it is so. */
    private static final class Witness {
        private static final int MOST = 20;
        private static final int AMOUNTS = 10;

        final int[] xs = new int[MOST];
        final int[] ys = new int[MOST];
        final int[] waters = new int[MOST];
        int told = 0;

        int w = 0;
        int h = 0;
        /** The THREADS of each LOOM's PIECE, w of them a row. */
        final int[][] pieces = new int[MAX_LOOMS][MAX_WIDE * MAX_LONG];
        /** 100 * LOOM + 10 * Y + X of each. */
        final int[] ways = new int[MAX_LOOMS * MAX_CELLS];
        int many = 0;
        final int[] tallies = new int[AMOUNTS];

        void clear() {
            told = 0;
        }

        int add(int x, int y, int water) {
            if (told >= MOST) {
                return NONE;
            }
            xs[told] = x;
            ys[told] = y;
            waters[told] = water;
            told++;
            return told - 1;
        }

        boolean knows(int k) {
            return k >= 0 && k <= told;
        }

        void beginWays(int wide, int high) {
            w = wide;
            h = high;
            many = 0;
        }

        void keepPiece(int which, int[] amounts) {
            if (which >= 0 && which < MAX_LOOMS && amounts.length >= MAX_WIDE * MAX_LONG) {
                System.arraycopy(amounts, 0, pieces[which], 0, MAX_WIDE * MAX_LONG);
            }
        }

        void addWays(int which, int k, int columns, int rows) {
            for (int y = 0; y + h <= rows; y++) {
                for (int x = 0; x + w <= columns; x++) {
                    int way = 100 * which + 10 * y + x;
                    if (agreesWithKnown(way, k) && many < ways.length) {
                        ways[many] = way;
                        many++;
                    }
                }
            }
        }

        private boolean agreesWithKnown(int way, int k) {
            for (int known = 0; known < k; known++) {
                if (waterBy(way, xs[known], ys[known]) != waters[known]) {
                    return false;
                }
            }
            return true;
        }

        /** How wet a CELL is if the PIECE fell that way. */
        private int waterBy(int way, int x, int y) {
            int warp = x - way % 10;
            int pick = y - way / 10 % 10;
            if (warp < 0 || warp >= w || pick < 0 || pick >= h) {
                return 0;
            }
            return pieces[way / 100][pick * w + warp];
        }

        /** How many ways are left, at worst, once one has looked at that CELL. */
        int leftAtWorst(int x, int y) {
            Arrays.fill(tallies, 0);
            int worst = 0;
            for (int at = 0; at < many; at++) {
                int water = waterBy(ways[at], x, y);
                if (water >= 0 && water < AMOUNTS) {
                    tallies[water]++;
                    worst = Math.max(worst, tallies[water]);
                }
            }
            return worst;
        }
    }

    /**
     * Cuts PIECES from a roll. PIECES are dropped on those that lie already, in every order: of any way to lay
     * them, dropping them in the order of their lower edges lays none higher. And as all can be moved to the
     * left until each leans on another one, only sums of the others' widths need be tried as places.
     */
    private static final class Cutter {
        private static final int MOST = 4;
        private static final int ROLL = 8;

        final int[] wides = new int[MOST];
        final int[] longs = new int[MOST];
        /** Bits: at which places a PIECE may begin. */
        final int[] places = new int[MOST];
        /** How far the roll is taken in each place, by how many PIECES lie already. */
        final int[][] edges = new int[MOST + 1][ROLL];
        int pieces = 0;
        int best = 0;
        int bound = 0;

        void clear() {
            pieces = 0;
        }

        boolean add(int code) {
            int wide = code / 10;
            int high = code % 10;
            if (!isSize(wide, high) || pieces >= MOST) {
                return false;
            }
            wides[pieces] = wide;
            longs[pieces] = high;
            pieces++;
            return true;
        }

        int leastLength() {
            best = 0;
            bound = 0;
            int area = 0;
            for (int piece = 0; piece < pieces; piece++) {
                best += longs[piece];
                bound = Math.max(bound, longs[piece]);
                area += wides[piece] * longs[piece];
                places[piece] = placesFor(piece);
            }
            bound = Math.max(bound, (area + ROLL - 1) / ROLL);
            Arrays.fill(edges[0], 0);
            layNext(0, 0, 0);
            return best;
        }

        private int placesFor(int piece) {
            int bits = 1;
            for (int other = 0; other < pieces; other++) {
                if (other != piece) {
                    bits |= bits << wides[other];
                }
            }
            return bits & (1 << ROLL - wides[piece] + 1) - 1;
        }

        /** Lain: how many PIECES lie, used: which (bits), length: how long they are so far. */
        private void layNext(int lain, int used, int length) {
            if (lain >= pieces) {
                best = Math.min(best, length);
                return;
            }
            for (int piece = 0; piece < pieces && best > bound; piece++) {
                if ((used >> piece & 1) == 0 && !hasTwin(piece, used)) {
                    layEverywhere(piece, lain, used, length);
                }
            }
        }

        /** One of two PIECES that are alike is always laid first. */
        private boolean hasTwin(int piece, int used) {
            for (int other = 0; other < piece; other++) {
                if ((used >> other & 1) == 0 && wides[other] == wides[piece] && longs[other] == longs[piece]) {
                    return true;
                }
            }
            return false;
        }

        private void layEverywhere(int piece, int lain, int used, int length) {
            for (int x = 0; x + wides[piece] <= ROLL && best > bound; x++) {
                if ((places[piece] >> x & 1) != 0) {
                    int edge = lay(piece, lain, x);
                    int longer = Math.max(length, edge);
                    if (longer < best) {
                        layNext(lain + 1, used | 1 << piece, longer);
                    }
                }
            }
        }

        private int lay(int piece, int lain, int x) {
            int[] before = edges[lain];
            int[] after = edges[lain + 1];
            System.arraycopy(before, 0, after, 0, ROLL);
            int edge = 0;
            for (int at = x; at < x + wides[piece] && at < ROLL; at++) {
                edge = Math.max(edge, before[at]);
            }
            edge += longs[piece];
            for (int at = x; at < x + wides[piece] && at < ROLL; at++) {
                after[at] = edge;
            }
            return edge;
        }
    }
}
