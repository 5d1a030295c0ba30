import java.lang.reflect.InvocationTargetException;
import java.lang.reflect.Method;

/**
 * Rows of calls on a new Newsmint, each with what is due: "draw 0 30 = 30", or behind a "!" the exception that is
 * due, by its first word: "draw 0 0 ! argument". Behind a # stands a remark.
 */
final class Script {
    private static int rows = 0;
    private static int wrong = 0;

    private Script() { }

    static void run(String title, String text) {
        Newsmint island = new Newsmint();
        for (String line : text.replaceAll("#.*", "").split("[;\n]")) {
            String row = line.trim();
            if (row.isEmpty()) continue;
            rows++;
            String got = answer(island, row.split("[=!]")[0].trim().split(" +"));
            String due = row.replaceAll("^[^=!]*([=!]) *", "$1 ").trim();
            if (!got.equals(due)) {
                wrong++;
                System.out.println(title + ": " + row + " -- answered " + got);
            }
        }
    }

    private static String answer(Newsmint island, String[] words) {
        for (Method method : Newsmint.class.getMethods()) {
            if (method.getName().equals(words[0]) && method.getParameterCount() == words.length - 1) {
                return answer(island, method, words);
            }
        }
        return "no such call";
    }

    private static String answer(Newsmint island, Method method, String[] words) {
        Object[] args = new Object[words.length - 1];
        for (int i = 0; i < args.length; i++) {
            boolean isYesOrNo = method.getParameterTypes()[i] == boolean.class;
            args[i] = isYesOrNo ? (Object) Boolean.valueOf(words[i + 1]) : (Object) Integer.valueOf(words[i + 1]);
        }
        try {
            return "= " + method.invoke(island, args);
        } catch (InvocationTargetException e) {
            return "! " + shortName(e.getCause());
        } catch (IllegalAccessException e) {
            return "! access";
        }
    }

    /** Not instanceof: what the machine throws is often below what the document names. */
    private static String shortName(Throwable thrown) {
        Class<?> kind = thrown.getClass();
        if (kind == IndexOutOfBoundsException.class) return "index";
        if (kind == IllegalArgumentException.class) return "argument";
        if (kind == IllegalStateException.class) return "state";
        return kind.getName();
    }

    static void end() {
        System.out.println(rows + " rows, " + wrong + " wrong");
        if (wrong > 0 || rows == 0) System.exit(1);
    }
}
