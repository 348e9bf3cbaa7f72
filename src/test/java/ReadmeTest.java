import java.lang.reflect.Field;
import java.lang.reflect.Method;
import java.lang.reflect.Modifier;
import java.nio.file.Files;
import java.nio.file.Path;
import java.util.ArrayList;
import java.util.List;
import java.util.Set;
import java.util.TreeSet;
import java.util.regex.Matcher;
import java.util.regex.Pattern;

/** README.md: its program answers as it says, and its tables name every call and constant of the class. */
public final class ReadmeTest {
    private static final Pattern CALL = Pattern.compile("x\\.(\\w+)\\((.*?)\\); +// (NO|-?\\d+)(.*)");
    private static int passed;
    private static int failed;

    private static void check(String what, Object got, Object want) {
        if (got.equals(want)) {
            passed++;
        } else {
            failed++;
            System.out.println("FAILED README.md, " + what + ": " + got + ", due is " + want);
        }
    }

    private static Method method(String name) {
        for (Method one : ClearingWaves.class.getDeclaredMethods()) {
            if (one.getName().equals(name) && Modifier.isPublic(one.getModifiers())) {
                return one;
            }
        }
        throw new IllegalArgumentException("no call " + name);
    }

    private static long answer(ClearingWaves x, String name, String args) throws Exception {
        Method call = method(name);
        Class<?>[] types = call.getParameterTypes();
        String[] texts = args.isEmpty() ? new String[0] : args.split(", ");
        Object[] values = new Object[texts.length];
        for (int k = 0; k < values.length; k++) {
            long v = texts[k].charAt(0) == '\'' ? texts[k].charAt(1) : Long.parseLong(texts[k]);
            values[k] = types[k] == int.class ? (Object) (int) v : (Object) v;
        }
        return ((Number) call.invoke(x, values)).longValue();
    }

    private static String page(ClearingWaves x) {
        StringBuilder text = new StringBuilder();
        for (int i = 0; x.paper(i) >= 0; i++) {
            text.append((char) x.paper(i));
        }
        return text.toString();
    }

    private static void program(String readme) throws Exception {
        String begin = "new ClearingWaves();\n";
        int from = readme.indexOf(begin) + begin.length();
        ClearingWaves x = new ClearingWaves();
        for (String line : readme.substring(from, readme.indexOf("System.out", from)).strip().split("\n")) {
            Matcher m = CALL.matcher(line.strip());
            if (!m.matches()) {
                check("a line of the program", line.strip(), "a call and its answer");
                continue;
            }
            long want = m.group(3).equals("NO") ? ClearingWaves.NO : Long.parseLong(m.group(3));
            check(m.group(1) + "(" + m.group(2) + ")", answer(x, m.group(1), m.group(2)), want);
            int quote = m.group(4).indexOf('"');
            if (quote >= 0) {
                check("THE PAPER", page(x), m.group(4).substring(quote + 1, m.group(4).lastIndexOf('"')));
            }
        }
        check("what the program prints", x.fails(), 3);
    }

    private static void tables(String readme) throws Exception {
        List<String> rows = new ArrayList<>();
        for (String line : readme.split("\n")) {
            if (line.startsWith("|")) {
                rows.add(line);
            }
        }
        Set<String> named = new TreeSet<>();
        Matcher m = Pattern.compile("`(\\w+)`").matcher(String.join("\n", rows));
        while (m.find()) {
            named.add(m.group(1));
        }
        Set<String> there = new TreeSet<>();
        for (Method one : ClearingWaves.class.getDeclaredMethods()) {
            if (Modifier.isPublic(one.getModifiers())) {
                there.add(one.getName());
            }
        }
        for (Field one : ClearingWaves.class.getDeclaredFields()) {
            if (!Modifier.isPublic(one.getModifiers())) {
                continue;
            }
            there.add(one.getName());
            String value = one.getName().equals("NO") ? "-2^63" : one.get(null).toString();
            String begin = "| " + value + " | `" + one.getName() + "` |";
            check("the row of " + one.getName(), rows.stream().filter(row -> row.startsWith(begin)).count(), 1L);
        }
        check("what the tables name", named, there);
    }

    public static void main(String[] args) throws Exception {
        String readme = Files.readString(Path.of("README.md"));
        program(readme);
        tables(readme);
        System.out.println(passed + " passed, " + failed + " failed");
        System.exit(failed == 0 ? 0 : 1);
    }
}
