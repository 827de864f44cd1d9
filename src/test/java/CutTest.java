import java.util.Random;

/** Promise 21: cuts held against Model, which tries every place of every piece. */
public final class CutTest {
    /** What an object answers beyond its 512th call is free. */
    private static final int CALLS = 512;
    private static int wrong = 0;
    private static int calls = 0;
    private static RainLoom x = new RainLoom();

    private CutTest() { }

    private static void due(Model m, int... c) {
        if (calls == CALLS) {
            x = new RainLoom();
            calls = 0;
        }
        calls++;
        int got = x.cut(c[0], c[1], c[2], c[3]);
        int want = m.cut(c);
        if (got != want) {
            wrong++;
            System.out.println("cut(" + c[0] + ", " + c[1] + ", " + c[2] + ", " + c[3] + ") answered " + got + ", due is " + want);
        }
    }

    private static int piece(Random r, int widest) {
        return 10 * (1 + r.nextInt(widest)) + 1 + r.nextInt(6);
    }

    public static void main(String[] args) {
        int many = args.length > 0 ? Integer.parseInt(args[0]) : 1500;
        Model m = new Model();
        for (int one = -1; one <= 99; one++) {
            due(m, one, 0, 0, 0);
            due(m, 42, one, 0, 0);
            due(m, 83, 11, one, 0);
            due(m, 32, 32, 21, one);
        }
        Random r = new Random(21);
        for (int n = 0; n < many && wrong < 5; n++) {
            int widest = 3 + r.nextInt(6);
            due(m, piece(r, widest), piece(r, widest), piece(r, widest), piece(r, widest));
            due(m, piece(r, widest), piece(r, widest), piece(r, widest), 0);
        }
        System.out.println(wrong == 0 ? "all cuts are as the model's" : wrong + " cuts are not as the model's");
        if (wrong != 0) {
            System.exit(1);
        }
    }
}
