import java.util.Random;

/** Texts for tests: whole ones, random ones, broken ones, and how they get onto a tape. */
final class Texts {
    private static final String[] VARS = {"shed", "warp", "pick", "water", "needs", "drowns", "day", "which", "wide"};
    private static final String[] SPOILERS = {"row", "field", "loom", "weaves", "if", "then", "else", "(", ")", ";", "=",
        "<", "+", "*", "/", "-", "12345", "abcdefghi", "A", "?", "\0", "\u00e9", "1000", "101", "9", "0", "a", "name", "\t", " ",
        "\n", "\r", "seed", "pick", "store", "gusts"};

    private Texts() { }

    /** Twenty bytes, padded with blanks, as feed takes them. */
    static int[][] feeds(String text) {
        int many = (text.length() + 19) / 20;
        int[][] feeds = new int[many][5];
        for (int i = 0; i < many * 20; i++) {
            int b = i < text.length() ? text.charAt(i) & 255 : 32;
            feeds[i / 20][i % 20 / 4] |= b << 24 - i % 4 * 8;
        }
        return feeds;
    }

    static int padding(String text) {
        return (20 - text.length() % 20) % 20;
    }

    /** Feeds a text and reads it. */
    static int read(RainLoom x, String text) {
        for (int[] f : feeds(text)) {
            x.feed(f[0], f[1], f[2], f[3], f[4]);
        }
        x.back(padding(text));
        return x.read();
    }

    static RainLoom of(String text) {
        RainLoom x = new RainLoom();
        int fault = read(x, text);
        if (fault != 0) {
            throw new IllegalStateException("fault " + fault + " at " + x.place() + " in " + text);
        }
        return x;
    }

    static String expression(Random r, int depth) {
        int kind = r.nextInt(10);
        if (depth <= 0 || kind < 2) {
            return String.valueOf(r.nextInt(4) == 0 ? r.nextInt(10000) : r.nextInt(12));
        }
        if (kind < 5) {
            return VARS[r.nextInt(VARS.length)];
        }
        if (kind == 5) {
            return "(" + expression(r, depth - 1) + ")";
        }
        String sign = "+-*/".charAt(r.nextInt(4)) + "";
        String gap = r.nextBoolean() ? " " : "";
        return expression(r, depth - 1) + gap + sign + gap + expression(r, depth - 1);
    }

    static String law(Random r) {
        StringBuilder b = new StringBuilder("= ");
        int ifs = r.nextInt(3) == 0 ? r.nextInt(5) : 0;
        for (int i = 0; i < ifs; i++) {
            b.append("if ").append(expression(r, 2)).append(" < ").append(expression(r, 2)).append(" then ")
                .append(expression(r, 2)).append(" else ");
        }
        return b.append(expression(r, 3)).toString();
    }

    /** A law of cloth that is seldom dull. */
    static String weave(Random r) {
        int n = 2 + r.nextInt(5);
        switch (r.nextInt(5)) {
            case 0:
                return "= (pick + warp * " + r.nextInt(4) + ") - (pick + warp * " + r.nextInt(4) + ") / " + n + " * " + n;
            case 1:
                return "= if (pick*" + (1 + r.nextInt(5)) + "+warp+which)/" + n + "*" + n + " < pick*" + (1 + r.nextInt(5))
                    + "+warp then " + r.nextInt(10) + " else shed";
            case 2:
                return "= shed * (warp + which) - " + r.nextInt(4);
            case 3:
                return "= " + r.nextInt(10) + " / (shed - " + r.nextInt(4) + ") + warp";
            default:
                return law(r);
        }
    }

    static String whole(Random r) {
        StringBuilder b = new StringBuilder();
        int fields = r.nextInt(7);
        int looms = r.nextInt(8) == 0 ? 0 : 1 + r.nextInt(4);
        int columns = 1 + r.nextInt(8);
        int rows = r.nextInt(15) == 0 ? 0 : 1 + r.nextInt(6);
        for (int y = 0; y < rows; y++) {
            b.append("row ");
            for (int x = 0; x < columns; x++) {
                b.append(fields == 0 || r.nextInt(5) == 0 ? 'o' : (char) ('a' + r.nextInt(fields)));
            }
            b.append("; ");
        }
        for (int f = 0; f < fields; f++) {
            b.append("field ").append((char) ('p' + f)).append(' ').append(r.nextInt(r.nextInt(4) == 0 ? 100 : 12)).append(' ')
                .append(r.nextInt(r.nextInt(4) == 0 ? 1000 : 25)).append("; ");
        }
        for (int l = 0; l < looms; l++) {
            b.append("loom l").append((char) ('a' + l)).append(' ').append(1 + r.nextInt(r.nextInt(3) == 0 ? 8 : 4)).append(' ')
                .append(r.nextInt(r.nextBoolean() ? 100 : 3)).append("; ");
        }
        if (r.nextInt(8) != 0) {
            b.append("weaves ").append(weave(r)).append("; ");
        }
        if (r.nextInt(3) != 0) {
            b.append("dries ").append(r.nextBoolean() ? "= water / " + (1 + r.nextInt(5)) : law(r)).append("; ");
        }
        if (r.nextInt(3) != 0) {
            b.append("gathers ").append(r.nextBoolean() ? "= " + r.nextInt(40) : law(r)).append("; ");
        }
        if (r.nextInt(3) != 0) {
            b.append("store ").append(r.nextInt(r.nextBoolean() ? 10000 : 60)).append("; ");
        }
        if (r.nextInt(3) != 0) {
            b.append("gusts ").append(r.nextInt(101)).append("; ");
        }
        if (r.nextInt(2) != 0) {
            b.append("seed ").append(r.nextInt(10000)).append("; ");
        }
        return b.length() > 2000 ? "" : b.toString();
    }

    static String broken(Random r) {
        StringBuilder b = new StringBuilder(whole(r));
        int times = 1 + r.nextInt(3);
        for (int i = 0; i < times; i++) {
            int at = r.nextInt(b.length() + 1);
            int until = Math.min(b.length(), at + r.nextInt(6));
            switch (r.nextInt(4)) {
                case 0:
                    b.delete(at, until);
                    break;
                case 1:
                    b.insert(at, SPOILERS[r.nextInt(SPOILERS.length)]);
                    break;
                case 2:
                    b.replace(at, until, " " + SPOILERS[r.nextInt(SPOILERS.length)] + " ");
                    break;
                default:
                    int from = r.nextInt(b.length() + 1);
                    b.insert(at, b.substring(from, Math.min(b.length(), from + r.nextInt(60))));
                    break;
            }
        }
        return b.length() > 2000 ? b.substring(0, 2000) : b.toString();
    }

    /** Whole in its SYNTAX, but with a number, a NAME or a ROW changed for another one. */
    static String twisted(Random r) {
        String[] parts = whole(r).split(" ");
        for (int i = 0; i < 2; i++) {
            int at = r.nextInt(parts.length);
            String end = parts[at].endsWith(";") ? ";" : "";
            String part = parts[at].replace(";", "");
            if (part.matches("[0-9]+")) {
                parts[at] = new String[] {"9", "0", "99", "100", "101", "999", "1000", "9999"}[r.nextInt(8)] + end;
            } else if (part.matches("[a-fo]+")) {
                parts[at] = part.substring(r.nextInt(2)) + "abcdefgo".charAt(r.nextInt(8)) + end;
            } else if (part.matches("[p-u]|l[a-d]")) {
                parts[at] = new String[] {"p", "q", "la", "lb"}[r.nextInt(4)] + end;
            }
        }
        return String.join(" ", parts);
    }

    /** Many TOKENS, about as many as there may be, or many of one sort. */
    static String full(Random r) {
        StringBuilder b = new StringBuilder();
        switch (r.nextInt(4)) {
            case 0:
                b.append("weaves = 1");
                int many = 190 + r.nextInt(20);
                for (int i = 0; i < many; i++) {
                    b.append("+-*/".charAt(r.nextInt(4))).append(r.nextInt(10));
                }
                b.append(r.nextInt(4) == 0 ? "" : ";").append(r.nextInt(3) == 0 ? "seed 1;" : "");
                break;
            case 1:
                b.append("dries = ").append("(".repeat(4 + r.nextInt(4))).append("water");
                b.append(")".repeat(4 + r.nextInt(4))).append(r.nextBoolean() ? "+(1)" : "").append(";");
                break;
            case 2:
                b.append("gathers = ");
                int ifs = 3 + r.nextInt(3);
                for (int i = 0; i < ifs; i++) {
                    b.append("if day < ").append(i).append(" then ").append(i).append(" else ");
                }
                b.append("7;").append(r.nextBoolean() ? "gathers = if 1<2 then 3 else 4;" : "");
                break;
            default:
                int tells = 4 + r.nextInt(4);
                String what = new String[] {"row oo;", "field x# 1 2;", "loom y# 3 4;", "seed 3;", "store 7;"}[r.nextInt(5)];
                for (int i = 0; i < tells; i++) {
                    b.append(what.replace('#', (char) ('a' + i)));
                }
                break;
        }
        return b.toString();
    }

    static String any(Random r) {
        int kind = r.nextInt(20);
        return kind < 12 ? whole(r) : kind < 15 ? broken(r) : kind < 17 ? twisted(r) : full(r);
    }
}
