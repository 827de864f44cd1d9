import java.util.ArrayDeque;
import java.util.ArrayList;
import java.util.Arrays;
import java.util.HashMap;
import java.util.HashSet;
import java.util.List;
import java.util.Map;
import java.util.Set;
import java.util.TreeMap;

/** The document once more, written as slowly and as differently as it can be, to be held against RainLoom. */
final class Model {
    static final int NONE = -1;

    record Token(String text, int at, boolean good) {
        String kind() {
            if (!good) {
                return "BAD";
            }
            if (WORDS.contains(text)) {
                return text;
            }
            return Character.isLetter(text.charAt(0)) ? "NAME" : Character.isDigit(text.charAt(0)) ? "INT" : text;
        }
    }

    record Field(String name, int needs, int drowns) { }

    record Loom(String name, int wide, int stands) { }

    static final Set<String> VARS = Set.of("shed", "warp", "pick", "water", "needs", "drowns", "day", "which", "wide");
    static final Set<String> TELLS = Set.of("row", "field", "loom", "weaves", "dries", "gathers", "store", "gusts", "seed");
    static final Set<String> WORDS = new HashSet<>();

    static {
        WORDS.addAll(VARS);
        WORDS.addAll(TELLS);
        WORDS.addAll(Set.of("if", "then", "else"));
    }

    static final class Text {
        List<String> rows = new ArrayList<>();
        List<Field> fields = new ArrayList<>();
        List<Loom> looms = new ArrayList<>();
        Map<String, List<Token>> laws = new HashMap<>();
        int store = 100;
        int gusts = 0;
        int seed = 0;

        Text() {
            laws.put("weaves", List.of(new Token("1", 0, true)));
            laws.put("dries", List.of(new Token("1", 0, true)));
            laws.put("gathers", List.of(new Token("0", 0, true)));
        }
    }

    static final class State {
        int day;
        int store;
        int[][] water;
        int[] pick;
        int[] woven;
        int[] torn;
        int[][] order;
        int[] lacked;
        int[] flooded;

        State copy() {
            State s = new State();
            s.day = day;
            s.store = store;
            s.water = new int[water.length][];
            for (int y = 0; y < water.length; y++) {
                s.water[y] = water[y].clone();
            }
            s.pick = pick.clone();
            s.woven = woven.clone();
            s.torn = torn.clone();
            s.order = order.clone();
            s.lacked = lacked.clone();
            s.flooded = flooded.clone();
            return s;
        }
    }

    Text text = new Text();
    State state;
    List<State> past = new ArrayList<>();
    State[] slots = new State[3];
    List<int[]> told = new ArrayList<>();
    List<Integer> tape = new ArrayList<>();
    int place = NONE;

    Model() {
        begin();
    }

    void begin() {
        state = new State();
        state.store = text.store;
        state.water = new int[text.rows.size()][columns()];
        int looms = text.looms.size();
        state.pick = new int[looms];
        for (int l = 0; l < looms; l++) {
            state.pick[l] = text.looms.get(l).stands;
        }
        state.woven = new int[looms];
        state.torn = new int[looms];
        state.order = new int[looms][];
        state.lacked = new int[text.fields.size()];
        state.flooded = new int[text.fields.size()];
        past.clear();
        told.clear();
        Arrays.fill(slots, null);
    }

    int columns() {
        return text.rows.isEmpty() ? 0 : text.rows.get(0).length();
    }

    int rows() {
        return text.rows.size();
    }

    // ---- reading

    int feed(int a, int b, int c, int d, int e) {
        if (tape.size() > 1980) {
            return NONE;
        }
        for (int v : new int[] {a, b, c, d, e}) {
            tape.add(v >> 24 & 255);
            tape.add(v >> 16 & 255);
            tape.add(v >> 8 & 255);
            tape.add(v & 255);
        }
        return tape.size();
    }

    int back(int n) {
        if (n < 0 || n > tape.size()) {
            return NONE;
        }
        tape = new ArrayList<>(tape.subList(0, tape.size() - n));
        return tape.size();
    }

    static List<Token> tokens(String s) {
        List<Token> all = new ArrayList<>();
        java.util.regex.Matcher m = java.util.regex.Pattern.compile("([a-z]+)|([0-9]+)|([;=+\\-*/<()])|([\\t\\n\\r ]+)|(.)",
            java.util.regex.Pattern.DOTALL).matcher(s);
        while (m.find()) {
            if (m.group(4) != null) {
                continue;
            }
            boolean good = m.group(1) != null && m.group().length() <= 8 || m.group(2) != null && m.group().length() <= 4
                || m.group(3) != null;
            all.add(new Token(m.group(), m.start(), good));
        }
        return all;
    }

    /** The index of the first TOKEN with which no text goes on (the number of TOKENS: the end); -1: none. */
    static int syntax(List<Token> all) {
        ArrayDeque<String> todo = new ArrayDeque<>();
        todo.push("text");
        for (int i = 0; i <= all.size(); i++) {
            String k = i == all.size() ? "END" : all.get(i).kind();
            boolean eaten = false;
            while (!eaten) {
                if (todo.isEmpty()) {
                    return k.equals("END") ? -1 : i;
                }
                String top = todo.pop();
                String[] by = expand(top, k);
                if (by == null) {
                    if (!top.equals(k)) {
                        return i;
                    }
                    eaten = true;
                } else {
                    for (int j = by.length - 1; j >= 0; j--) {
                        todo.push(by[j]);
                    }
                }
                if (k.equals("END") && todo.isEmpty()) {
                    return -1;
                }
            }
        }
        return -1;
    }

    private static String[] rule(String s) {
        return s.isEmpty() ? new String[0] : s.split(" ");
    }

    private static String[] expand(String top, String k) {
        switch (top) {
            case "text":
                return k.equals("END") ? rule("") : rule("TELL text");
            case "TELL":
                if (k.equals("row")) {
                    return rule("row NAME ;");
                } else if (k.equals("field") || k.equals("loom")) {
                    return rule(k + " NAME INT INT ;");
                } else if (k.equals("weaves") || k.equals("dries") || k.equals("gathers")) {
                    return rule(k + " = IFS E ;");
                } else if (k.equals("store") || k.equals("gusts") || k.equals("seed")) {
                    return rule(k + " INT ;");
                }
                return rule("NEVER");
            case "IFS":
                return k.equals("if") ? rule("if E < E then E else IFS") : rule("");
            case "E":
                return rule("PART PARTS");
            case "PARTS":
                return k.equals("+") || k.equals("-") ? rule(k + " PART PARTS") : rule("");
            case "PART":
                return rule("UNIT UNITS");
            case "UNITS":
                return k.equals("*") || k.equals("/") ? rule(k + " UNIT UNITS") : rule("");
            case "UNIT":
                return VARS.contains(k) ? rule(k) : k.equals("(") ? rule("( E )") : rule("INT");
            default:
                return null;
        }
    }

    int read() {
        StringBuilder b = new StringBuilder();
        for (int v : tape) {
            b.append((char) v);
        }
        tape.clear();
        place = NONE;
        String s = b.toString();
        List<Token> all = tokens(s);
        TreeMap<Integer, Integer> faults = new TreeMap<>();
        int syn = syntax(all);
        int last = syn < 0 ? all.size() : syn;
        if (syn >= 0) {
            faults.merge(syn == all.size() ? s.length() : all.get(syn).at, 1, Math::min);
        }
        Map<String, Integer> seen = new HashMap<>();
        int ifs = 0;
        int depth = 0;
        for (int i = 0; i < last; i++) {
            Token t = all.get(i);
            boolean room = i == 400;
            seen.merge(t.text, 1, Integer::sum);
            int n = seen.get(t.text);
            room |= t.text.equals("row") && n == 7 || t.text.equals("field") && n == 7 || t.text.equals("loom") && n == 5;
            if (TELLS.contains(t.text)) {
                ifs = 0;
            }
            if (t.text.equals("if")) {
                ifs++;
                room |= ifs == 5;
            }
            if (t.text.equals("(")) {
                depth++;
                room |= depth == 7;
            }
            if (t.text.equals(")")) {
                depth--;
            }
            if (room) {
                faults.merge(t.at, 2, Math::min);
            }
        }
        Text made = null;
        if (faults.isEmpty()) {
            made = understand(all, faults, s.length());
        }
        if (!faults.isEmpty()) {
            place = faults.firstKey();
            return faults.firstEntry().getValue();
        }
        text = made;
        begin();
        return 0;
    }

    private static void range(Token t, int least, int most, TreeMap<Integer, Integer> faults) {
        int v = Integer.parseInt(t.text);
        if (v < least || v > most) {
            faults.merge(t.at, 5, Math::min);
        }
    }

    private static Text understand(List<Token> all, TreeMap<Integer, Integer> faults, int end) {
        Text made = new Text();
        Set<String> names = new HashSet<>();
        int i = 0;
        while (i < all.size()) {
            int j = i;
            while (!all.get(j).text.equals(";")) {
                j++;
            }
            List<Token> tell = all.subList(i, j);
            i = j + 1;
            String what = tell.get(0).text;
            Token one = tell.get(1);
            if (what.equals("row")) {
                made.rows.add(one.text);
                if (!one.text.matches("[a-fo]+") || one.text.length() != made.rows.get(0).length()) {
                    faults.merge(one.at, 6, Math::min);
                }
            } else if (what.equals("field") || what.equals("loom")) {
                if (!names.add(one.text)) {
                    faults.merge(one.at, 3, Math::min);
                }
                int p = Integer.parseInt(tell.get(2).text);
                int q = Integer.parseInt(tell.get(3).text);
                if (what.equals("field")) {
                    range(tell.get(2), 0, 99, faults);
                    range(tell.get(3), 0, 999, faults);
                    made.fields.add(new Field(one.text, p, q));
                } else {
                    range(tell.get(2), 1, 8, faults);
                    range(tell.get(3), 0, 99, faults);
                    made.looms.add(new Loom(one.text, p, q));
                }
            } else if (what.equals("store")) {
                made.store = Integer.parseInt(one.text);
            } else if (what.equals("gusts")) {
                range(one, 0, 100, faults);
                made.gusts = Integer.parseInt(one.text);
            } else if (what.equals("seed")) {
                made.seed = Integer.parseInt(one.text);
            } else {
                made.laws.put(what, new ArrayList<>(tell.subList(2, tell.size())));
            }
        }
        for (String row : made.rows) {
            for (char c : row.toCharArray()) {
                if (c >= 'a' && c <= 'f' && c - 'a' >= made.fields.size()) {
                    faults.merge(end, 6, Math::min);
                }
            }
        }
        return made;
    }

    // ---- laws

    static final class ByZero extends Exception {
        private static final long serialVersionUID = 1;
    }

    /** Looks at the TOKENS from both ends in: the last sign of the lowest rank is worked last. */
    static int worth(List<Token> e, Map<String, Integer> vars) throws ByZero {
        for (String signs : new String[] {"+-", "*/"}) {
            int depth = 0;
            for (int i = e.size() - 1; i >= 0; i--) {
                String t = e.get(i).text;
                if (t.equals(")")) {
                    depth++;
                }
                if (t.equals("(")) {
                    depth--;
                }
                if (depth == 0 && signs.contains(t)) {
                    int left = worth(e.subList(0, i), vars);
                    int right = worth(e.subList(i + 1, e.size()), vars);
                    if (t.equals("/")) {
                        if (right == 0) {
                            throw new ByZero();
                        }
                        return (int) ((long) left / (long) right);
                    }
                    return (int) (t.equals("+") ? (long) left + right : t.equals("-") ? (long) left - right
                        : (long) left * right);
                }
            }
        }
        Token t = e.get(0);
        if (t.text.equals("(")) {
            return worth(e.subList(1, e.size() - 1), vars);
        }
        return Character.isDigit(t.text.charAt(0)) ? Integer.parseInt(t.text) : vars.getOrDefault(t.text, 0);
    }

    static int find(List<Token> law, String word) {
        for (int i = 0; i < law.size(); i++) {
            if (law.get(i).text.equals(word)) {
                return i;
            }
        }
        return -1;
    }

    int law(String which, Map<String, Integer> vars, int most) {
        List<Token> law = text.laws.get(which);
        int v = 0;
        try {
            while (true) {
                if (!law.get(0).text.equals("if")) {
                    v = worth(law, vars);
                    break;
                }
                int less = find(law, "<");
                int then = find(law, "then");
                int or = find(law, "else");
                if (worth(law.subList(1, less), vars) < worth(law.subList(less + 1, then), vars)) {
                    v = worth(law.subList(then + 1, or), vars);
                    break;
                }
                law = law.subList(or + 1, law.size());
            }
        } catch (ByZero z) {
            v = 0;
        }
        return Math.max(0, Math.min(most, v));
    }

    private final Map<List<Integer>, Integer> threads = new HashMap<>();
    private Text threadsOf = null;

    int thr(int l, int warp, int pick) {
        if (threadsOf != text) {
            threads.clear();
            threadsOf = text;
        }
        return threads.computeIfAbsent(List.of(l, warp, pick), k -> law("weaves",
            Map.of("which", l, "warp", warp, "pick", pick, "shed", pick % 4, "wide", text.looms.get(l).wide), 9));
    }

    // ---- days

    int fieldOf(int x, int y) {
        char c = text.rows.get(y).charAt(x);
        return c == 'o' ? -2 : c - 'a';
    }

    boolean lacks(int f, int water) {
        return f >= 0 && water < text.fields.get(f).needs;
    }

    boolean floods(int f, int water) {
        return f >= 0 && water > text.fields.get(f).drowns;
    }

    int letFall(State s, int l, int w, int h, int x, int y) {
        int sum = 0;
        piece:
        for (int p = 0; p < h; p++) {
            for (int q = 0; q < w; q++) {
                int t = thr(l, q, s.pick[l] + p);
                if (t > s.store) {
                    s.torn[l]++;
                    break piece;
                }
                s.store -= t;
                sum += t;
                if (isCell(x + q, y + p)) {
                    s.water[y + p][x + q] = Math.min(999, s.water[y + p][x + q] + t);
                }
            }
        }
        s.woven[l] += sum;
        s.pick[l] += h;
        return sum;
    }

    static int lot(int n, int seed, int which) {
        long h = seed;
        for (long it : new long[] {75, which}) {
            h = ((h ^ it) * 1103515245L + 12345L) & 0xffffffffL;
            h = h ^ (h >> 15);
        }
        return (int) ((h >> 1) % n);
    }

    void day(State s, int seed) {
        for (int l = 0; l < text.looms.size(); l++) {
            int[] o = s.order[l];
            if (o != null) {
                boolean gust = lot(100, seed, 8 * s.day + l) < text.gusts;
                letFall(s, l, o[0], o[1], o[2] + (gust ? 1 : 0), o[3]);
            }
        }
        for (int y = 0; y < rows(); y++) {
            for (int x = 0; x < columns(); x++) {
                int f = fieldOf(x, y);
                int water = s.water[y][x];
                if (lacks(f, water)) {
                    s.lacked[f]++;
                }
                if (floods(f, water)) {
                    s.flooded[f]++;
                }
                int dries = law("dries", Map.of("water", water, "needs", f < 0 ? 0 : text.fields.get(f).needs,
                    "drowns", f < 0 ? 0 : text.fields.get(f).drowns, "day", s.day), 99);
                s.water[y][x] = Math.max(0, water - dries);
            }
        }
        s.store = Math.min(9999, s.store + law("gathers", Map.of("day", s.day), 999));
        s.day++;
    }

    State ahead(int n, int seed) {
        State s = state.copy();
        for (int i = 0; i < n; i++) {
            day(s, seed);
        }
        return s;
    }

    void done() {
        past.add(state.copy());
        if (past.size() > 30) {
            past.remove(0);
        }
    }

    // ---- the face

    boolean isCell(int x, int y) {
        return y >= 0 && y < rows() && x >= 0 && x < columns();
    }

    boolean isField(int f) {
        return f >= 0 && f < text.fields.size();
    }

    boolean isLoom(int l) {
        return l >= 0 && l < text.looms.size();
    }

    boolean isPiece(int l, int w, int h) {
        return isLoom(l) && w >= 1 && w <= text.looms.get(l).wide && h >= 1 && h <= 6;
    }

    int cell(int x, int y, int what) {
        if (!isCell(x, y)) {
            return NONE;
        }
        int f = fieldOf(x, y);
        int water = state.water[y][x];
        return what == 0 ? f : what == 1 ? water : what == 2 ? (lacks(f, water) ? 1 : 0)
            : what == 3 ? (floods(f, water) ? 1 : 0) : NONE;
    }

    List<int[]> cellsOf(int f) {
        List<int[]> cells = new ArrayList<>();
        for (int y = 0; y < rows(); y++) {
            for (int x = 0; x < columns(); x++) {
                if (fieldOf(x, y) == f) {
                    cells.add(new int[] {x, y});
                }
            }
        }
        return cells;
    }

    int need(int f) {
        return cellsOf(f).size() * text.fields.get(f).needs;
    }

    int field(int f, int what) {
        if (!isField(f)) {
            return NONE;
        }
        int water = 0;
        for (int[] c : cellsOf(f)) {
            water += state.water[c[1]][c[0]];
        }
        int[] all = {cellsOf(f).size(), water, state.lacked[f], state.flooded[f], need(f)};
        return what >= 0 && what < 5 ? all[what] : NONE;
    }

    int loom(int l, int what) {
        if (!isLoom(l) || what < 0 || what > 7) {
            return NONE;
        }
        if (what >= 2 && what <= 5) {
            return state.order[l] == null ? -2 : state.order[l][what - 2];
        }
        return what == 0 ? text.looms.get(l).wide : what == 1 ? state.pick[l] : what == 6 ? state.woven[l] : state.torn[l];
    }

    int thread(int l, int warp, int pick) {
        boolean so = isLoom(l) && warp >= 0 && warp < text.looms.get(l).wide && pick >= 0 && pick <= 9999;
        return so ? thr(l, warp, pick) : NONE;
    }

    boolean order(int l, int w, int h, int x, int y) {
        int[] o = {w, h, x, y};
        if (!isPiece(l, w, h) || !isCell(x, y) || Arrays.equals(o, state.order[l])) {
            return false;
        }
        done();
        state.order[l] = o;
        return true;
    }

    boolean stop(int l) {
        if (!isLoom(l) || state.order[l] == null) {
            return false;
        }
        done();
        state.order[l] = null;
        return true;
    }

    int fall(int l, int w, int h, int x, int y) {
        if (!isPiece(l, w, h) || !isCell(x, y)) {
            return NONE;
        }
        done();
        return letFall(state, l, w, h, x, y);
    }

    int turn(int l, int n) {
        if (!isLoom(l) || n < 1 || n > 99) {
            return NONE;
        }
        done();
        return state.pick[l] += n;
    }

    int days(int n) {
        if (n < 0 || n > 30) {
            return NONE;
        }
        if (n > 0) {
            done();
            state = ahead(n, text.seed);
        }
        return state.day;
    }

    boolean undo() {
        if (past.isEmpty()) {
            return false;
        }
        state = past.remove(past.size() - 1);
        return true;
    }

    int holds(int l, int w, int h, boolean none) {
        if (!isPiece(l, w, h)) {
            return NONE;
        }
        int sum = 0;
        int zero = 0;
        for (int p = 0; p < h; p++) {
            for (int q = 0; q < w; q++) {
                int t = thr(l, q, state.pick[l] + p);
                sum += t;
                zero += t == 0 ? 1 : 0;
            }
        }
        return none ? zero : sum;
    }

    int comes(int l, int w, int row) {
        if (!isPiece(l, w, 1) || row < 0 || row >= Math.pow(2, w)) {
            return NONE;
        }
        for (int k = 0; k <= 200; k++) {
            int bits = 0;
            for (int q = w - 1; q >= 0; q--) {
                bits = 2 * bits + (thr(l, q, state.pick[l] + k) > 0 ? 1 : 0);
            }
            if (bits == row) {
                return k;
            }
        }
        return -2;
    }

    List<Integer> line(int l, int wide, int pick) {
        List<Integer> line = new ArrayList<>();
        for (int q = 0; q < wide; q++) {
            line.add(thr(l, q, pick));
        }
        return line;
    }

    int round(int l) {
        if (!isLoom(l)) {
            return NONE;
        }
        List<List<Integer>> lines = new ArrayList<>();
        for (int p = 0; p < 48 + 99; p++) {
            lines.add(line(l, text.looms.get(l).wide, state.pick[l] + p));
        }
        for (int k = 1; k <= 99; k++) {
            if (lines.subList(0, 48).equals(lines.subList(k, k + 48))) {
                return k;
            }
        }
        return -2;
    }

    int agree(int l, int m) {
        if (!isLoom(l) || !isLoom(m) || l == m) {
            return NONE;
        }
        int wide = Math.min(text.looms.get(l).wide, text.looms.get(m).wide);
        for (int k = 0; k <= 200; k++) {
            if (line(l, wide, state.pick[l] + k).equals(line(m, wide, state.pick[m] + k))) {
                return k;
            }
        }
        return -2;
    }

    int where(int l, int w, int h, int what) {
        if (!isPiece(l, w, h) || what < 0 || what > 2) {
            return -1000;
        }
        int best = -1000;
        int bx = -1000;
        int by = -1000;
        for (int y = 0; y <= rows() - h; y++) {
            for (int x = 0; x <= columns() - w; x++) {
                State s = state.copy();
                letFall(s, l, w, h, x, y);
                int n = 0;
                for (int f = 0; f < text.fields.size(); f++) {
                    for (int[] c : cellsOf(f)) {
                        int a = state.water[c[1]][c[0]];
                        int b = s.water[c[1]][c[0]];
                        n += lacks(f, a) && !lacks(f, b) ? 1 : 0;
                        n -= floods(f, b) && !floods(f, a) ? 1 : 0;
                    }
                }
                if (n > best) {
                    best = n;
                    bx = x;
                    by = y;
                }
            }
        }
        return what == 0 ? best : what == 1 ? bx : by;
    }

    /** Tries each length, each PIECE on each place of the roll. */
    int cut(int... codes) {
        List<int[]> pieces = new ArrayList<>();
        boolean over = false;
        for (int c : codes) {
            if (c == 0) {
                over = true;
                continue;
            }
            if (over || c < 0 || c / 10 < 1 || c / 10 > 8 || c % 10 < 1 || c % 10 > 6) {
                return NONE;
            }
            pieces.add(new int[] {c / 10, c % 10});
        }
        if (pieces.isEmpty()) {
            return NONE;
        }
        for (int n = 1;; n++) {
            if (fits(pieces, 0, new boolean[n][8])) {
                return n;
            }
        }
    }

    private static boolean fits(List<int[]> pieces, int i, boolean[][] roll) {
        if (i == pieces.size()) {
            return true;
        }
        int w = pieces.get(i)[0];
        int h = pieces.get(i)[1];
        for (int y = 0; y + h <= roll.length; y++) {
            for (int x = 0; x + w <= 8; x++) {
                if (mark(roll, x, y, w, h, true)) {
                    if (fits(pieces, i + 1, roll)) {
                        return true;
                    }
                    mark(roll, x, y, w, h, false);
                }
            }
        }
        return false;
    }

    private static boolean mark(boolean[][] roll, int x, int y, int w, int h, boolean to) {
        for (int b = y; b < y + h; b++) {
            for (int a = x; a < x + w; a++) {
                if (roll[b][a] == to) {
                    return false;
                }
            }
        }
        for (int b = y; b < y + h; b++) {
            Arrays.fill(roll[b], x, x + w, to);
        }
        return true;
    }

    int then(int x, int y, int n) {
        return isCell(x, y) && n >= 0 && n <= 60 ? ahead(n, text.seed).water[y][x] : NONE;
    }

    int all(int n, int what) {
        if (n < 0 || n > 60 || what < 0 || what > 2) {
            return NONE;
        }
        State s = ahead(n, text.seed);
        return what == 2 ? s.store : what == 0 ? Arrays.stream(s.lacked).sum() - Arrays.stream(state.lacked).sum()
            : Arrays.stream(s.flooded).sum() - Arrays.stream(state.flooded).sum();
    }

    int wettest(int n, int what) {
        if (n < 0 || n > 60 || what < 0 || what > 2) {
            return NONE;
        }
        State s = ahead(n, text.seed);
        int[] best = null;
        for (int y = 0; y < rows(); y++) {
            for (int x = 0; x < columns(); x++) {
                if (best == null || s.water[y][x] > best[0]) {
                    best = new int[] {s.water[y][x], x, y};
                }
            }
        }
        return best == null ? -2 : best[what];
    }

    int dry(int n) {
        if (n < 0 || n > 60) {
            return NONE;
        }
        int many = 0;
        for (int[] row : ahead(n, text.seed).water) {
            for (int v : row) {
                many += v == 0 ? 1 : 0;
            }
        }
        return many;
    }

    int emptyBy() {
        State s = state.copy();
        for (int k = 0; k <= 200; k++) {
            if (s.store == 0) {
                return k;
            }
            day(s, text.seed);
        }
        return -2;
    }

    private int serveBest;
    private int[] serveHow;

    private void serveFrom(int l, int[] how, int[] held, int sum) {
        if (l == how.length) {
            if (sum < serveBest) {
                serveBest = sum;
                serveHow = how.clone();
            }
            return;
        }
        next:
        for (int f = 0; f < text.fields.size(); f++) {
            for (int m = 0; m < l; m++) {
                if (how[m] == f) {
                    continue next;
                }
            }
            how[l] = f;
            serveFrom(l + 1, how, held, sum + Math.abs(held[l] - need(f)));
        }
    }

    int serve(int w, int h, int i) {
        int looms = text.looms.size();
        if (w < 1 || w > 8 || h < 1 || h > 6 || i < -1 || i >= looms) {
            return NONE;
        }
        int[] held = new int[looms];
        for (int l = 0; l < looms; l++) {
            if (w > text.looms.get(l).wide) {
                return NONE;
            }
            held[l] = holds(l, w, h, false);
        }
        if (looms > text.fields.size()) {
            return -2;
        }
        serveBest = Integer.MAX_VALUE;
        serveFrom(0, new int[looms], held, 0);
        return i == -1 ? serveBest : serveHow[i];
    }

    int suits(int f, int w, int h) {
        if (!isField(f) || w < 1 || w > 8 || h < 1 || h > 6) {
            return NONE;
        }
        int best = -2;
        for (int l = 0; l < text.looms.size(); l++) {
            if (isPiece(l, w, h) && (best == -2
                || Math.abs(holds(l, w, h, false) - need(f)) < Math.abs(holds(best, w, h, false) - need(f)))) {
                best = l;
            }
        }
        return best;
    }

    int now(int f, boolean flooded) {
        if (!isField(f)) {
            return NONE;
        }
        int many = 0;
        for (int[] c : cellsOf(f)) {
            many += cell(c[0], c[1], flooded ? 3 : 2);
        }
        return many;
    }

    int year(int n, int s) {
        if (n < 0 || n > 60 || s < 1 || s > 20) {
            return NONE;
        }
        int more = 0;
        for (int k = 0; k < s; k++) {
            more += Arrays.stream(ahead(n, text.seed + k).lacked).sum() - Arrays.stream(state.lacked).sum();
        }
        return more;
    }

    int tell(int x, int y, int water) {
        if (!isCell(x, y) || water < 0 || water > 999 || told.size() == 20) {
            return NONE;
        }
        told.add(new int[] {x, y, water});
        return told.size() - 1;
    }

    int forget() {
        int n = told.size();
        told.clear();
        return n;
    }

    /** Each way as the land looks then, by its number. */
    private TreeMap<Integer, int[][]> ways(int k, int w, int h) {
        TreeMap<Integer, int[][]> ways = new TreeMap<>();
        for (int l = 0; l < text.looms.size(); l++) {
            for (int y = 0; y <= rows() - h; y++) {
                for (int x = 0; x <= columns() - w; x++) {
                    if (!isPiece(l, w, h)) {
                        continue;
                    }
                    State s = state.copy();
                    s.water = new int[rows()][columns()];
                    s.store = 9999;
                    letFall(s, l, w, h, x, y);
                    boolean so = true;
                    for (int[] t : told.subList(0, k)) {
                        so &= s.water[t[1]][t[0]] == t[2];
                    }
                    if (so) {
                        ways.put(100 * l + 10 * y + x, s.water);
                    }
                }
            }
        }
        return ways;
    }

    int fell(int k, int w, int h, int i) {
        if (k < 0 || k > told.size() || w < 1 || w > 8 || h < 1 || h > 6 || i < -1) {
            return NONE;
        }
        List<Integer> ways = new ArrayList<>(ways(k, w, h).keySet());
        return i == -1 ? ways.size() : i < ways.size() ? ways.get(i) : NONE;
    }

    int look(int k, int w, int h) {
        if (k < 0 || k > told.size() || w < 1 || w > 8 || h < 1 || h > 6) {
            return NONE;
        }
        int best = -2;
        int fewest = Integer.MAX_VALUE;
        TreeMap<Integer, int[][]> ways = ways(k, w, h);
        for (int y = 0; y < rows(); y++) {
            for (int x = 0; x < columns(); x++) {
                Map<Integer, Integer> groups = new HashMap<>();
                int worst = 0;
                for (int[][] land : ways.values()) {
                    worst = Math.max(worst, groups.merge(land[y][x], 1, Integer::sum));
                }
                if (worst < fewest) {
                    fewest = worst;
                    best = 10 * y + x;
                }
            }
        }
        return best;
    }

    boolean hold(int slot) {
        if (slot < 0 || slot > 2) {
            return false;
        }
        slots[slot] = state.copy();
        return true;
    }

    boolean restore(int slot) {
        if (slot < 0 || slot > 2 || slots[slot] == null) {
            return false;
        }
        state = slots[slot].copy();
        past.clear();
        return true;
    }

    int count(int what) {
        int water = 0;
        for (int[] row : state.water) {
            water += Arrays.stream(row).sum();
        }
        int held = 0;
        for (State s : slots) {
            held += s == null ? 0 : 1;
        }
        int[] all = {columns(), rows(), text.fields.size(), text.looms.size(), state.day, state.store, water,
            Arrays.stream(state.woven).sum(), tape.size(), past.size(), told.size(), held,
            Arrays.stream(state.lacked).sum(), Arrays.stream(state.flooded).sum()};
        return what >= 0 && what < all.length ? all[what] : NONE;
    }
}
