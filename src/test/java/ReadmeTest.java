import java.io.IOException;
import java.lang.reflect.Method;
import java.lang.reflect.Modifier;
import java.nio.file.Files;
import java.nio.file.Path;
import java.util.Arrays;
import java.util.HashMap;
import java.util.List;
import java.util.Map;
import java.util.TreeSet;
import java.util.regex.Matcher;
import java.util.regex.Pattern;

/** README.md tells how the class is used; here its example is run, and its tables are held against the class. */
public final class ReadmeTest {
    private static final Pattern EXAMPLE = Pattern.compile("island\\.(\\w+)\\(([^)]*)\\); +// (-?\\d+|throws (\\w+)Exception):.*");
    private static final Pattern ROW = Pattern.compile("\\| `(\\w+)\\(([^)]*)\\)` \\|([^|]*)\\|([^|]*)\\|([^|]*)\\|");
    private static final Pattern RANGE = Pattern.compile("(\\w+) (-?\\d+) to (-?\\d+)");
    private static final List<String> YES_OR_NO = List.of("sells", "revised");
    /** What an argument is when it is not looked at: a number that is there. */
    private static final Map<String, Integer> THERE = Map.of("holder", 0, "from", 0, "to", 1, "household", 0, "firm", 10,
            "bank", 0, "loan", 0, "payment", 0, "day", 0);

    private static final Map<String, Method> FACE = new HashMap<>();
    private static int wrong = 0;

    private static void due(boolean holds, String what) {
        if (holds) return;
        wrong++;
        System.out.println("README.md: " + what);
    }

    public static void main(String[] args) throws IOException {
        for (Method m : Newsmint.class.getDeclaredMethods()) if (Modifier.isPublic(m.getModifiers())) FACE.put(m.getName(), m);
        List<String> lines = Files.readAllLines(Path.of("README.md"));
        example(lines);
        tables(lines);
        if (wrong > 0) System.exit(1);
        Script.end();
    }

    private static void example(List<String> lines) {
        StringBuilder rows = new StringBuilder();
        for (String line : lines) {
            Matcher m = EXAMPLE.matcher(line);
            if (m.matches()) {
                rows.append(m.group(1)).append(' ').append(m.group(2).replace(",", "")).append(dueOf(m)).append('\n');
            } else {
                due(!line.startsWith("island."), "no answer is told behind " + line);
            }
        }
        Script.run("README.md", rows.toString());
    }

    private static String dueOf(Matcher m) {
        if (m.group(4) == null) return " = " + m.group(3);
        return " ! " + m.group(4).replace("Illegal", "").replace("OutOfBounds", "").toLowerCase();
    }

    private static void tables(List<String> lines) {
        TreeSet<String> told = new TreeSet<>();
        for (String line : lines) {
            Matcher m = ROW.matcher(line);
            if (!m.matches()) {
                due(!line.startsWith("| `"), "a row of four columns is due: " + line);
                continue;
            }
            due(told.add(m.group(1)), m.group(1) + " stands twice");
            Method method = FACE.get(m.group(1));
            due(method != null, "there is no call " + m.group(1));
            if (method != null) row(method, m);
        }
        due(told.equals(new TreeSet<>(FACE.keySet())), "the calls are " + FACE.keySet() + ", told are " + told);
    }

    private static void row(Method method, Matcher m) {
        String name = method.getName();
        List<String> arguments = m.group(2).isEmpty() ? List.of() : Arrays.asList(m.group(2).split(", "));
        due(arguments.size() == method.getParameterCount(), name + " has other arguments");
        boolean hasState = Arrays.asList(method.getExceptionTypes()).contains(IllegalStateException.class);
        due(hasState != m.group(5).isBlank(), name + ": whether the state can refuse it");
        due(!m.group(4).isBlank(), name + ": what it answers");
        if (arguments.size() != method.getParameterCount()) return;
        Map<String, int[]> ranges = new HashMap<>();
        Matcher range = RANGE.matcher(m.group(3));
        while (range.find()) {
            ranges.put(range.group(1), new int[] {Integer.parseInt(range.group(2)), Integer.parseInt(range.group(3))});
        }
        for (String argument : arguments) {
            boolean isTold = ranges.containsKey(argument) || THERE.containsKey(argument) || YES_OR_NO.contains(argument);
            due(isTold, name + ": nothing is told of " + argument);
            if (!isTold) return;
        }
        due(arguments.containsAll(ranges.keySet()), name + ": a range of no argument");
        for (String argument : ranges.keySet()) ends(method, arguments, ranges, argument);
    }

    private static void ends(Method method, List<String> arguments, Map<String, int[]> ranges, String argument) {
        int least = ranges.get(argument)[0];
        int most = ranges.get(argument)[1];
        for (int value : new int[] {least - 1, least, most, most + 1}) {
            Object[] args = new Object[arguments.size()];
            for (int i = 0; i < args.length; i++) {
                String one = arguments.get(i);
                if (YES_OR_NO.contains(one)) args[i] = true;
                else args[i] = one.equals(argument) ? value : ranges.containsKey(one) ? ranges.get(one)[0] : THERE.get(one);
            }
            boolean isBeyond = value < least || value > most;
            String got = Script.answer(inUse(), method, args);
            due(isBeyond == got.equals("! argument"), method.getName() + Arrays.toString(args) + " answered " + got);
        }
    }

    /** A loan 0 and a payment 0 are there. */
    private static Newsmint inUse() {
        Newsmint island = new Newsmint();
        island.rules(0, 0, 0);
        island.open(0, 0);
        island.open(1, 0);
        island.lend(0, 0, 10, 0);
        island.pay(0, 1, 1);
        return island;
    }
}
