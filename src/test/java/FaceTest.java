import java.lang.management.ManagementFactory;
import java.lang.reflect.Constructor;
import java.lang.reflect.Field;
import java.lang.reflect.Method;
import java.lang.reflect.Modifier;
import java.nio.charset.StandardCharsets;
import java.nio.file.Files;
import java.nio.file.Path;
import java.util.ArrayList;
import java.util.HashMap;
import java.util.HashSet;
import java.util.List;
import java.util.Map;
import java.util.Set;
import java.util.TreeSet;
import java.util.regex.Matcher;
import java.util.regex.Pattern;

/** The document's face, the rules of LANGUAGE.md that a text shows, and the room of a run. */
public final class FaceTest {
    private static final Path SOURCE = Path.of("src/main/java/ClearingWaves.java");
    private static final Path DOCUMENT = Path.of("../shared/DOC.md");
    private static int passed;
    private static int failed;

    private static void check(String name, Object got, Object want) {
        if (got.equals(want)) {
            passed++;
        } else {
            failed++;
            System.out.println("FAILED " + name + ": " + got + ", due is " + want);
        }
    }

    private static void face() throws Exception {
        String text = Files.readString(DOCUMENT);
        String block = text.substring(text.indexOf("```java"), text.indexOf("}\n```"));
        Set<String> want = new TreeSet<>();
        Matcher m = Pattern.compile("public (int|long) (\\w+)\\((.*?)\\);").matcher(block);
        while (m.find()) {
            String types = m.group(3).replaceAll(" \\w+(,|$)", "$1").replace(" ", "");
            want.add(m.group(1) + " " + m.group(2) + "(" + types + ")");
        }
        Set<String> got = new TreeSet<>();
        Set<String> names = new HashSet<>();
        for (Method one : ClearingWaves.class.getDeclaredMethods()) {
            if (Modifier.isPublic(one.getModifiers())) {
                List<String> types = new ArrayList<>();
                for (Class<?> type : one.getParameterTypes()) {
                    types.add(type.getName());
                }
                got.add(one.getReturnType() + " " + one.getName() + "(" + String.join(",", types) + ")");
                names.add(one.getName());
            }
        }
        check("methods of the face", got, want);
        check("methods in all", want.size(), 54);
        Set<String> others = new TreeSet<>();
        for (Method one : ClearingWaves.class.getDeclaredMethods()) {
            int how = one.getModifiers();
            if (!Modifier.isPublic(how) && (!Modifier.isPrivate(how) || names.contains(one.getName()))) {
                others.add(one.getName());
            }
        }
        Set<String> fields = new TreeSet<>();
        for (Field one : ClearingWaves.class.getDeclaredFields()) {
            if (!Modifier.isPrivate(one.getModifiers())) {
                fields.add(one.getName());
            }
        }
        check("constants", fields, new TreeSet<>(Set.of("NONE", "BAD", "STATE", "FULL", "OVER", "NO")));
        for (Class<?> inside : ClearingWaves.class.getDeclaredClasses()) {
            if (!Modifier.isStatic(inside.getModifiers()) || Modifier.isPublic(inside.getModifiers())) {
                others.add(inside.getName());
            }
            for (Method one : inside.getDeclaredMethods()) {
                if (names.contains(one.getName())) {
                    others.add(inside.getSimpleName() + "." + one.getName());
                }
            }
        }
        check("other members", others, Set.of());
        Constructor<?>[] made = ClearingWaves.class.getDeclaredConstructors();
        check("constructors", made.length + " " + made[0], "1 public ClearingWaves()");
        check("final", Modifier.isFinal(ClearingWaves.class.getModifiers()), true);
        check("classes", ClearingWaves.class.getDeclaredClasses().length <= 12, true);
    }

    private static String bare() throws Exception {
        String text = Files.readString(SOURCE, StandardCharsets.UTF_8);
        text = text.replaceAll("(?s)/\\*.*?\\*/", "").replaceAll("//[^\n]*", "");
        return text.replaceAll("'(\\\\.|[^'\\\\])'", "'c'").replaceAll("\"(\\\\.|[^\"\\\\])*\"", "\"\"");
    }

    private static void words() throws Exception {
        String text = bare();
        Set<String> found = new TreeSet<>();
        String[] never = {"throw", "throws", "try", "catch", "finally", "synchronized", "assert", "package",
            "volatile", "native", "protected", "hashCode", "Exception", "Error", "Object", "Thread", "Random", "goto",
            "strictfp", "transient", "NaN", "exit", "out", "println", "currentTimeMillis", "nanoTime"};
        for (String word : never) {
            if (Pattern.compile("\\b" + word + "\\b").matcher(text).find()) {
                found.add(word);
            }
        }
        for (String sign : new String[] {"::", "static {", "while (true)", "for (;;)"}) {
            if (text.contains(sign)) {
                found.add(sign);
            }
        }
        check("words that don't belong there", found, Set.of());
        Set<String> library = new TreeSet<>();
        Matcher m = Pattern.compile("\\b(System|Math|Integer|Long|Arrays)\\.(\\w+)").matcher(text);
        while (m.find()) {
            boolean plain = m.group(1).matches("Math|Integer|Long") && !m.group(2).endsWith("Exact");
            boolean copies = m.group().matches("System.arraycopy|Arrays.(copyOf|copyOfRange|fill)");
            if (!plain && !copies || m.group(2).equals("random")) {
                library.add(m.group());
            }
        }
        m = Pattern.compile("(?m)^import (?!java\\.util\\.(ArrayList|List|Arrays|Iterator);).*").matcher(text);
        while (m.find()) {
            library.add(m.group());
        }
        check("library", library, Set.of());
        check("signs", text.chars().allMatch(c -> c < 127), true);
        Set<String> statics = new TreeSet<>();
        m = Pattern.compile("static (?!final)[\\w\\[\\]]+ \\w+ *[;=,]").matcher(text);
        while (m.find()) {
            statics.add(m.group());
        }
        check("static fields are final", statics, Set.of());
    }

    // Methods, their lines and parameters, and what each calls of its own file.
    private static void sizes() throws Exception {
        String text = bare();
        String head = "(?m)^ +((?:public|private|static|final) )*[\\w\\[\\]]+ ?(\\w*)\\(([^()]*)\\) \\{$";
        Matcher m = Pattern.compile(head).matcher(text);
        Set<String> wrong = new TreeSet<>();
        Map<String, Set<String>> calls = new HashMap<>();
        List<String> names = new ArrayList<>();
        List<String> bodies = new ArrayList<>();
        while (m.find()) {
            if (m.group().matches("(?s) +(if|for|while|switch|else|do).*")) {
                continue;
            }
            int depth = 0;
            int end = m.end() - 1;
            do {
                char sign = text.charAt(end);
                depth += sign == '{' ? 1 : sign == '}' ? -1 : 0;
                end++;
            } while (depth > 0);
            String body = text.substring(m.end(), end);
            names.add(m.group(2));
            bodies.add(body);
            if (body.lines().count() > 60) {
                wrong.add(m.group(2) + " is too long");
            }
            if (m.group(3).split(",").length > 7) {
                wrong.add(m.group(2) + " has too many parameters");
            }
        }
        check("methods found", names.size() >= 54, true);
        check("sizes", wrong, Set.of());
        for (int k = 0; k < names.size(); k++) {
            Set<String> mine = calls.computeIfAbsent(names.get(k), x -> new HashSet<>());
            Matcher call = Pattern.compile("\\b(\\w+)\\(").matcher(bodies.get(k));
            while (call.find()) {
                if (names.contains(call.group(1)) && !call.group(1).equals(names.get(k))) {
                    mine.add(call.group(1));
                }
            }
        }
        // By names alone, so that two methods of one name count as one: never less than it is.
        List<String> deepest = List.of();
        for (String name : names) {
            List<String> path = deepest(calls, name, List.of());
            deepest = path.size() > deepest.size() ? path : deepest;
        }
        check("calls at most eight deep: " + deepest, deepest.size() <= 8, true);
    }

    // What is open already is recursion, which the rules count for itself.
    private static List<String> deepest(Map<String, Set<String>> calls, String name, List<String> open) {
        List<String> here = new ArrayList<>(open);
        here.add(name);
        List<String> deepest = new ArrayList<>();
        for (String next : calls.getOrDefault(name, Set.of())) {
            if (!here.contains(next)) {
                List<String> path = deepest(calls, next, here);
                deepest = path.size() > deepest.size() ? path : deepest;
            }
        }
        deepest.add(0, name);
        return deepest;
    }

    // Drawn calls with drawn arguments, far off ones among them, as long as an object is used.
    private static void neverThrows() throws Exception {
        java.util.Random random = new java.util.Random(7);
        List<Method> calls = new ArrayList<>();
        for (Method one : ClearingWaves.class.getDeclaredMethods()) {
            if (Modifier.isPublic(one.getModifiers())) {
                calls.add(one);
            }
        }
        calls.sort((a, b) -> a.getName().compareTo(b.getName()));
        long[] far = {Integer.MIN_VALUE, -1, 20, 21, 35, 200, 201, Integer.MAX_VALUE, Integer.MAX_VALUE - 1};
        Set<String> thrown = new TreeSet<>();
        for (int run = 0; run < 400; run++) {
            ClearingWaves x = new ClearingWaves();
            x.houses(2 + run % 4);
            for (int k = 0; k < 511; k++) {
                Method call = calls.get(random.nextInt(calls.size()));
                Class<?>[] types = call.getParameterTypes();
                Object[] args = new Object[types.length];
                for (int m = 0; m < args.length; m++) {
                    long v = random.nextInt(8) == 0 ? far[random.nextInt(far.length)] : random.nextInt(7);
                    args[m] = types[m] == int.class ? (Object) (int) v
                        : (Object) (random.nextInt(8) == 0 ? random.nextLong() : v);
                }
                try {
                    call.invoke(x, args);
                } catch (java.lang.reflect.InvocationTargetException e) {
                    thrown.add(call.getName() + ": " + e.getCause());
                }
            }
        }
        check("what calls throw", thrown, Set.of());
    }

    private static long madeBy(Runnable body) {
        com.sun.management.ThreadMXBean bean = (com.sun.management.ThreadMXBean) ManagementFactory.getThreadMXBean();
        long id = Thread.currentThread().getId();
        long before = bean.getThreadAllocatedBytes(id);
        body.run();
        return bean.getThreadAllocatedBytes(id) - before;
    }

    private static long sum;

    // Of 7.3 million fields and elements that a whole run has: a tenth for an object and its calls.
    private static void room() {
        Runnable most = () -> {
            ClearingWaves x = new ClearingWaves();
            use(x);
            for (int time = 0; time < 25; time++) {
                ask(x);
            }
        };
        madeBy(most);
        long made = madeBy(most);
        check("an object and its dearest calls are small, not " + made + " bytes", made < 8 * 730000, true);
    }

    private static void use(ClearingWaves x) {
        x.houses(5);
        for (int from = 0; from < 5; from++) {
            for (int to = 0; to < 5; to++) {
                for (int cls = 0; cls < 3; cls++) {
                    x.owe(from, to, cls, 20 - cls - (from + to) % 3);
                }
            }
            x.cash(from, 3 + from);
            x.units(0, from, 0, 5);
        }
        x.costs(9, 9);
        x.row(0, 20);
        x.image();
    }

    private static void ask(ClearingWaves x) {
        sum += x.undo() + x.needs(1, 0) + x.calms(2) + x.danger() + x.saves(9, 1) + x.rescue(0, 0, 30, 6, 0);
        sum += x.pulls(3) + x.root(4) + x.spell() + x.steps() + x.lay(0, 0) + x.judge(0, 0) + x.best() + x.net(0);
    }

    public static void main(String[] args) throws Exception {
        face();
        words();
        sizes();
        neverThrows();
        room();
        System.out.println(passed + " passed, " + failed + " failed");
        System.exit(failed == 0 ? 0 : 1);
    }
}
