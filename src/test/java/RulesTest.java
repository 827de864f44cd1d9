import java.lang.management.ManagementFactory;
import java.lang.reflect.Constructor;
import java.lang.reflect.Field;
import java.lang.reflect.Method;
import java.lang.reflect.Modifier;
import java.nio.charset.StandardCharsets;
import java.nio.file.Files;
import java.nio.file.Path;
import java.util.ArrayList;
import java.util.List;
import java.util.Set;
import java.util.TreeSet;
import java.util.regex.Matcher;
import java.util.regex.Pattern;

/** What of LANGUAGE.md can be seen from outside: the face, the source, what calls make. */
public final class RulesTest {
    private static final Path SOURCE = Path.of("src/main/java/RainLoom.java");
    private static final String FACE = "feed(int,int,int,int,int) back(int) read() place() cell(int,int,int) field(int,int) "
        + "loom(int,int) thread(int,int,int) order(int,int,int,int,int) stop(int) fall(int,int,int,int,int) turn(int,int) "
        + "days(int) undo() holds(int,int,int,boolean) comes(int,int,int) round(int) agree(int,int) where(int,int,int,int) "
        + "cut(int,int,int,int) then(int,int,int) all(int,int) wettest(int,int) dry(int) emptyBy() serve(int,int,int) "
        + "suits(int,int,int) now(int,boolean) year(int,int) tell(int,int,int) forget() fell(int,int,int,int) look(int,int,int) "
        + "hold(int) restore(int) count(int)";
    private static final Set<String> YES_OR_NO = Set.of("order", "stop", "undo", "hold", "restore");

    private static int wrong = 0;

    private RulesTest() { }

    private static void rule(int number, boolean kept, String what) {
        if (!kept) {
            wrong++;
            System.out.println("rule " + number + ": " + what);
        }
    }

    public static void main(String[] args) throws Exception {
        String whole = Files.readString(SOURCE, StandardCharsets.ISO_8859_1);
        String code = whole.replaceAll("(?s)/\\*.*?\\*/", "").replaceAll("//[^\n]*", "");
        face();
        inside(code);
        words(whole, code);
        lengths(code);
        made();
        System.out.println(wrong == 0 ? "the rules are kept" : wrong + " rules are not kept");
        if (wrong != 0) {
            System.exit(1);
        }
    }

    private static void face() throws Exception {
        Set<String> due = new TreeSet<>(List.of(FACE.split(" ")));
        Set<String> there = new TreeSet<>();
        Set<String> names = new TreeSet<>();
        for (Method m : RainLoom.class.getDeclaredMethods()) {
            if (Modifier.isPublic(m.getModifiers())) {
                List<String> types = new ArrayList<>();
                for (Class<?> type : m.getParameterTypes()) {
                    types.add(type.getName());
                }
                there.add(m.getName() + "(" + String.join(",", types) + ")");
                names.add(m.getName());
                Class<?> answer = YES_OR_NO.contains(m.getName()) ? boolean.class : int.class;
                rule(1, m.getReturnType() == answer, m + " answers something else");
                rule(1, !Modifier.isStatic(m.getModifiers()), m + " is static");
            } else {
                rule(1, Modifier.isPrivate(m.getModifiers()), m + " is seen");
            }
        }
        rule(1, due.equals(there), "the face is " + there);
        for (Class<?> c : classes()) {
            for (Method m : c.getDeclaredMethods()) {
                rule(1, c == RainLoom.class && Modifier.isPublic(m.getModifiers()) || !names.contains(m.getName()),
                    m + " has the name of a public one");
                rule(11, m.getParameterCount() <= 7, m + " takes too much");
            }
        }
        for (Field f : RainLoom.class.getDeclaredFields()) {
            boolean none = f.getName().equals("NONE");
            rule(1, none ? Modifier.isPublic(f.getModifiers()) : Modifier.isPrivate(f.getModifiers()), f + " is seen");
        }
        rule(1, RainLoom.NONE == -1, "NONE");
        Constructor<?>[] constructors = RainLoom.class.getDeclaredConstructors();
        rule(1, constructors.length == 1 && Modifier.isPublic(constructors[0].getModifiers()), "constructors");
        rule(1, Modifier.isFinal(RainLoom.class.getModifiers()), "the class is not final");
    }

    private static List<Class<?>> classes() {
        List<Class<?>> all = new ArrayList<>(List.of(RainLoom.class.getDeclaredClasses()));
        all.add(RainLoom.class);
        return all;
    }

    private static void inside(String code) {
        rule(11, classes().size() <= 12, "too many classes");
        for (Class<?> c : classes()) {
            rule(2, c == RainLoom.class || Modifier.isStatic(c.getModifiers()), c + " is not static");
            int fields = 0;
            for (Field f : c.getDeclaredFields()) {
                if (Modifier.isStatic(f.getModifiers())) {
                    rule(5, Modifier.isFinal(f.getModifiers()), f + " is static and changes");
                } else {
                    fields++;
                }
            }
            rule(11, fields <= 20, c + " has " + fields + " fields");
        }
        rule(5, !Pattern.compile("static\\s*\\{").matcher(code).find(), "a static initialiser");
    }

    private static void words(String whole, String code) {
        String plain = code.replaceAll("\"[^\"\n]*\"", "\"\"").replaceAll("'[^'\n]+'", "' '");
        for (String word : new String[] {"throw", "try", "catch", "synchronized", "assert", "package", "Exact", "hashCode",
            "toString", "System\\.(?!arraycopy)", "Thread", "Random", "Object", "var", "null"}) {
            rule(6, !Pattern.compile("\\b" + word + "\\b").matcher(plain).find(), "there is " + word);
        }
        for (String sign : new String[] {"->", "::", "\" +", "+ \"", "\"\"\""}) {
            rule(10, !plain.contains(sign), "there is " + sign);
        }
        Matcher m = Pattern.compile("import ([^;]*);").matcher(code);
        while (m.find()) {
            rule(4, Set.of("java.util.Arrays", "java.util.ArrayList", "java.util.List").contains(m.group(1)), m.group());
        }
        Matcher library = Pattern.compile("\\b(Math|Arrays|Integer|Long|System)\\.(\\w+)").matcher(plain);
        Set<String> fine = Set.of("max", "min", "abs", "fill", "arraycopy");
        while (library.find()) {
            rule(4, fine.contains(library.group(2)), library.group());
        }
        rule(3, whole.chars().allMatch(c -> c == 10 || c >= 32 && c < 127), "a sign that is none of 32 to 126");
    }

    /** A method begins with a line that is indented by 4 or 8 and ends with {, and ends with } there. */
    private static void lengths(String code) {
        String[] lines = code.split("\n");
        for (int i = 0; i < lines.length; i++) {
            Matcher m = Pattern.compile("^( {4}| {8})(?:[a-z]+ )*[A-Za-z\\[\\]]+ ?\\w*\\(.*\\) \\{$").matcher(lines[i]);
            if (m.find() && !lines[i].contains(" if ") && !lines[i].contains(" for ")) {
                int end = i;
                while (!lines[end].equals(m.group(1) + "}")) {
                    end++;
                }
                rule(11, end - i <= 60, lines[i].trim() + " is " + (end - i) + " lines long");
            }
        }
    }

    private static int callAll(RainLoom x, int n) {
        int sum = x.feed(n, n, n, n, n) + x.back(20) + x.place() + x.cell(1, 1, n % 4) + x.field(0, n % 5) + x.loom(0, n % 8);
        sum += x.thread(0, 1, n) + x.fall(1, 2, 2, 0, 0) + x.turn(0, 1) + x.days(2) + x.holds(0, 2, 2, true);
        sum += x.order(0, 2, 2, n % 3, 0) ? 1 : 0;
        sum += x.stop(1) || x.undo() ? 1 : 0;
        sum += x.comes(0, 2, 3) + x.round(0) + x.agree(0, 1) + x.where(0, 2, 2, 0) + x.cut(53, 35, 35, 53) + x.then(0, 0, 9);
        sum += x.all(9, 0) + x.wettest(9, 1) + x.dry(9) + x.emptyBy() + x.serve(1, 1, -1) + x.suits(0, 1, 1) + x.now(0, true);
        sum += x.year(3, 3) + x.tell(0, 0, 1) + x.fell(1, 1, 1, 0) + x.look(1, 2, 2) + x.forget() + x.count(n % 14);
        sum += x.hold(1) && x.restore(1) ? 1 : 0;
        return sum;
    }

    /** Calls make nothing: what a run has is what its objects were made with. */
    private static void made() {
        com.sun.management.ThreadMXBean bean = (com.sun.management.ThreadMXBean) ManagementFactory.getThreadMXBean();
        String text = "row abo; row bba; field p 3 9; field q 2 8; loom l 3 1; loom m 2 0; weaves = shed + warp * which;"
            + "gusts 30; gathers = day; dries = water / 2; store 9000;";
        int[][] feeds = Texts.feeds(text);
        RainLoom[] objects = new RainLoom[50];
        for (int i = 0; i < objects.length; i++) {
            objects[i] = Texts.of(text);
        }
        int sum = callAll(objects[0], 1);
        long id = Thread.currentThread().getId();
        long before = bean.getThreadAllocatedBytes(id);
        for (int n = 0; n < 8 * objects.length; n++) {
            RainLoom x = objects[n / 8];
            sum += callAll(x, n);
            for (int at = 0; at < feeds.length && n % 8 == 4; at++) {
                x.feed(feeds[at][0], feeds[at][1], feeds[at][2], feeds[at][3], feeds[at][4]);
            }
            sum += n % 8 == 4 ? x.read() : 0;
        }
        long bytes = bean.getThreadAllocatedBytes(id) - before;
        rule(12, bytes < 20000, bytes + " bytes were made by 16,000 calls (" + sum + ")");
    }
}
