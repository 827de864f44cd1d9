/** All that can be seen of an object, as a text: of two that look alike, neither did more than the other. */
final class Looks {
    private Looks() { }

    private static void looms(RainLoom x, StringBuilder b) {
        for (int loom = 0; loom < x.count(3); loom++) {
            b.append("\nloom");
            for (int what = 0; what <= 7; what++) {
                b.append(' ').append(x.loom(loom, what));
            }
        }
    }

    private static void cells(RainLoom x, StringBuilder b, int first, int last) {
        int columns = x.count(0);
        int rows = x.count(1);
        for (int i = 0; i < columns * rows; i++) {
            b.append("\ncell");
            for (int what = first; what <= last; what++) {
                b.append(' ').append(x.cell(i % columns, i / columns, what));
            }
        }
    }

    /** What is there; nothing is done. */
    static String of(RainLoom x) {
        StringBuilder b = new StringBuilder("count");
        for (int what = 0; what <= 13; what++) {
            b.append(' ').append(x.count(what));
        }
        cells(x, b, 0, 3);
        for (int field = 0; field < x.count(2); field++) {
            b.append("\nfield");
            for (int what = 0; what <= 4; what++) {
                b.append(' ').append(x.field(field, what));
            }
        }
        looms(x, b);
        b.append("\nfell");
        for (int k = 0; k <= x.count(10); k++) {
            b.append(' ').append(x.fell(k, 1, 1, -1));
        }
        return b.toString();
    }

    private static String brief(RainLoom x) {
        StringBuilder b = new StringBuilder();
        for (int what : new int[] {4, 5, 12, 13}) {
            b.append(' ').append(x.count(what));
        }
        cells(x, b, 1, 1);
        looms(x, b);
        return b.toString();
    }

    /** What is there, what can be undone, what SLOTS hold, what is on the tape; the object is used up by it. */
    static String through(RainLoom x) {
        StringBuilder b = new StringBuilder(of(x)).append("\nplace ").append(x.place());
        for (int n = 0; n < 31 && x.undo(); n++) {
            b.append("\nundone").append(brief(x));
        }
        for (int slot = 0; slot < 3; slot++) {
            b.append("\nslot ").append(x.restore(slot) ? brief(x) : "empty");
        }
        return b.append("\nread ").append(x.read()).append(' ').append(x.place()).append('\n').append(of(x)).toString();
    }
}
