import java.lang.reflect.InvocationTargetException;
import java.lang.reflect.Method;
import java.util.ArrayList;
import java.util.HashMap;
import java.util.List;
import java.util.Map;

/**
 * Rows of calls on a new Newsmint, each with what is due: "draw 0 30 = 30", or behind a "!" the exception that is
 * due, by its first word: "draw 0 0 ! argument". Behind a # stands a remark. Of each call that has to be refused it
 * is looked at, too, that it changes nothing: neither what is asked then, nor what comes later.
 */
final class Script {
    private record Row(String text, String[] words, String due) {
        boolean isRefused() {
            return due.startsWith("!");
        }
    }

    private static final Map<String, Method> FACE = new HashMap<>();
    private static int rows = 0;
    private static int refused = 0;
    private static int wrong = 0;

    static {
        for (Method method : Newsmint.class.getMethods()) FACE.put(method.getName(), method);
    }

    private Script() { }

    static void run(String title, String text) {
        List<Row> script = read(text);
        Newsmint island = new Newsmint();
        for (int i = 0; i < script.size(); i++) {
            Row row = script.get(i);
            rows++;
            String before = row.isRefused() ? Probe.seen(island) : "";
            String got = answer(island, row.words());
            if (!got.equals(row.due())) {
                tell(title, row, "answered " + got);
            } else if (row.isRefused()) {
                refused++;
                if (!Probe.seen(island).equals(before)) tell(title, row, "changed what is asked");
                if (!later(script, i, true).equals(later(script, i, false))) tell(title, row, "changed what comes later");
            }
        }
    }

    /** Rows of n calls, the answers of which go up by the same step: "pay 0 1 1 = 0; pay 0 1 1 = 1; .." */
    static String counting(int n, String call, int first, int step) {
        StringBuilder all = new StringBuilder();
        for (int i = 0; i < n; i++) all.append(call).append(" = ").append(first + i * step).append('\n');
        return all.toString();
    }

    /** Rows for arguments just beyond a range and far beyond it, each in the place of the sign @. */
    static String beyond(String call, int least, int most, String due) {
        StringBuilder all = new StringBuilder();
        for (int x : new int[] {least - 1, most + 1, -least - most, Integer.MIN_VALUE, Integer.MAX_VALUE}) {
            if (x < least || x > most) all.append(call.replace("@", "" + x)).append(" ! ").append(due).append('\n');
        }
        return all.toString();
    }

    private static List<Row> read(String text) {
        List<Row> script = new ArrayList<>();
        for (String line : text.replaceAll("#.*", "").split("[;\n]")) {
            String row = line.trim();
            if (row.isEmpty()) continue;
            String due = row.replaceAll("^[^=!]*([=!]) *", "$1 ").trim();
            script.add(new Row(row, row.split("[=!]")[0].trim().split(" +"), due));
        }
        return script;
    }

    private static String later(List<Row> script, int upTo, boolean withRefused) {
        Newsmint island = new Newsmint();
        for (int i = 0; i <= upTo; i++) {
            Row row = script.get(i);
            if (withRefused || !row.isRefused()) answer(island, row.words());
        }
        return Probe.later(island);
    }

    private static void tell(String title, Row row, String what) {
        wrong++;
        System.out.println(title + ": " + row.text() + " -- " + what);
    }

    private static String answer(Newsmint island, String[] words) {
        Method method = FACE.get(words[0]);
        if (method == null || method.getParameterCount() != words.length - 1) return "no such call";
        Object[] args = new Object[words.length - 1];
        for (int i = 0; i < args.length; i++) {
            boolean isYesOrNo = method.getParameterTypes()[i] == boolean.class;
            args[i] = isYesOrNo ? (Object) Boolean.valueOf(words[i + 1]) : (Object) Integer.valueOf(words[i + 1]);
        }
        return answer(island, method, args);
    }

    static String answer(Newsmint island, Method method, Object[] args) {
        try {
            return "= " + method.invoke(island, args);
        } catch (InvocationTargetException e) {
            return "! " + shortName(e.getCause());
        } catch (IllegalAccessException e) {
            return "! access";
        }
    }

    /** Not instanceof: what the machine throws is often below what the document names. */
    private static String shortName(Throwable thrown) {
        Class<?> kind = thrown.getClass();
        if (kind == IndexOutOfBoundsException.class) return "index";
        if (kind == IllegalArgumentException.class) return "argument";
        if (kind == IllegalStateException.class) return "state";
        return kind.getName();
    }

    static void end() {
        System.out.println(rows + " rows, " + refused + " of them refused, " + wrong + " wrong");
        if (wrong > 0 || rows == 0) System.exit(1);
    }
}
