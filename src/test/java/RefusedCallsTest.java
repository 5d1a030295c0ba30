import java.lang.reflect.Method;
import java.util.ArrayList;
import java.util.Arrays;
import java.util.List;

/**
 * "If several apply, the one that the throws clause names first is thrown": each call of the face with each of its
 * arguments at its least and its greatest value, just beyond them, far beyond them, and in between, in every mixture;
 * on islands that let none of the calls, and on one that has no exception for the state left.
 */
public final class RefusedCallsTest {
    /** An argument: whether it tells which one (what is beyond it is an index) or how much. */
    private record Argument(boolean isIndex, int least, int most) {
        boolean holds(int value) {
            return value >= least && value <= most;
        }
    }

    private static final String ALL_FAIL = "fail 0;fail 1;fail 2;fail 3";
    private static int calls = 0;
    private static int wrong = 0;

    public static void main(String[] args) {
        theStateRefusesAll();
        noExceptionForTheState();
        System.out.println(calls + " calls, " + wrong + " wrong");
        if (wrong > 0 || calls == 0) System.exit(1);
    }

    private static void theStateRefusesAll() {
        // A new object: nobody has notes, an account, or bonds, and nothing is lent.
        grid("hand", "", "I 0 15, I 0 15, A 1 10000");
        grid("close", "", "I 0 15");
        grid("bring", "", "I 0 15, A 1 10000");
        grid("draw", "", "I 0 15, A 1 10000");
        grid("pay", "", "I 0 15, I 0 15, A 1 10000");
        grid("lend", "", "I 0 3, I 0 15, A 1 10000, A 0 100");
        grid("window", "", "I 0 3, A 1 10000");
        grid("windowBack", "", "I 0 3, A 1 10000");
        grid("buyBonds", "", "I 0 3, A 1 10000");
        grid("levy", "", "I 0 15, A 1 100");
        grid("spend", "", "I 0 15, A 1 10000");
        grid("abroad", "", "I 10 15, A 1 1000, B 0 1");
        grid("buy", "", "I 0 9, I 10 15, A 1 20");
        // What is full, or at its end.
        grid("open", everyHolder("open H 0"), "I 0 15, I 0 3");
        grid("open", ALL_FAIL, "I 0 15, I 0 3");
        grid("endow", ALL_FAIL, "I 0 3, A 1 10000");
        grid("window", ALL_FAIL, "I 0 3, A 1 10000");
        grid("bid", times(12, "bid 1 50 1"), "I 0 3, A 50 100, A 1 1000");
        grid("bid", ALL_FAIL, "I 0 3, A 50 100, A 1 1000");
        grid("auction", times(20, "auction 1 1"), "A 1 10000, A 1 50");
        grid("day", times(40, "day 5"), "A 1 5");
        grid("fail", ALL_FAIL, "I 0 3");
        String paid = "rules 0 0 0;open 0 0;" + times(20, "lend 0 0 1 0");
        for (int i = 0; i < 20; i++) paid += "payBack " + i + " 1;";
        grid("payBack", paid, "I 0 19, A 1 10000");
        String many = "rules 0 0 0;" + everyHolder("open H 0") + "lend 0 0 10000 0;" + times(200, "pay 0 1 1");
        grid("pay", many, "I 0 15, I 0 15, A 1 10000");
        grid("buy", many, "I 0 9, I 10 15, A 1 20");
    }

    private static void noExceptionForTheState() {
        String busy = "rules 0 0 0;" + everyHolder("open H 0") + times(20, "lend 0 0 50 0") + times(200, "pay 0 1 1")
                + times(40, "day 5");
        grid("mint", busy, "I 0 15, A 1 1000");
        grid("forge", busy, "I 0 15, A 1 100");
        grid("limit", busy, "I 0 3, A 0 10000");
        grid("limit", ALL_FAIL, "I 0 3, A 0 10000");
        grid("rules", busy, "A 0 100, A 0 100, A 0 100");
        grid("exchange", busy, "A 10 1000");
        grid("hire", busy, "I 0 9, I 10 15, A 1 1000");
        grid("ofHolder", busy, "I 0 15, A 0 7");
        grid("accountAnew", busy, "I 0 15");
        grid("ofBank", busy, "I 0 3, A 0 9");
        grid("ofBank", ALL_FAIL, "I 0 3, A 0 9");
        grid("ofLoan", busy, "I 0 19, A 0 3");
        grid("payment", busy, "I 0 199");
        grid("price", busy, "I 10 15");
        grid("sales", busy, "I 0 200, B 0 1");
        // There is nothing yet.
        grid("ofLoan", "", "I 0 -1, A 0 3");
        grid("payBack", "", "I 0 -1, A 1 10000");
        grid("payment", "", "I 0 -1");
        grid("sales", "", "I 0 0, B 0 1");
    }

    private static String times(int n, String call) {
        return (call + ";").repeat(n);
    }

    private static String everyHolder(String call) {
        StringBuilder all = new StringBuilder();
        for (int h = 0; h < 16; h++) all.append(call.replace("H", "" + h)).append(';');
        return all.toString();
    }

    private static void grid(String name, String before, String told) {
        Method method = methodOf(name);
        Newsmint island = new Newsmint();
        for (String call : before.split(";")) if (!call.isEmpty()) make(island, call.trim().split(" +"));
        List<Argument> arguments = new ArrayList<>();
        for (String one : told.split(", ")) {
            String[] parts = one.split(" ");
            arguments.add(new Argument(parts[0].equals("I"), Integer.parseInt(parts[1]), Integer.parseInt(parts[2])));
        }
        call(island, method, arguments, new int[0]);
    }

    private static Method methodOf(String name) {
        for (Method method : Newsmint.class.getMethods()) if (method.getName().equals(name)) return method;
        throw new IllegalStateException("no call " + name);
    }

    private static void make(Newsmint island, String[] words) {
        Method method = methodOf(words[0]);
        Object[] args = new Object[words.length - 1];
        for (int i = 0; i < args.length; i++) args[i] = Integer.valueOf(words[i + 1]);
        String got = Script.answer(island, method, args);
        if (got.startsWith("!")) say(String.join(" ", words) + " was to be let, answered " + got);
    }

    /** Every mixture, an argument more at each level. */
    private static void call(Newsmint island, Method method, List<Argument> arguments, int[] values) {
        if (values.length == arguments.size()) {
            look(island, method, arguments, values);
            return;
        }
        Argument next = arguments.get(values.length);
        boolean isYesOrNo = method.getParameterTypes()[values.length] == boolean.class;
        int[] tried = isYesOrNo ? new int[] {0, 1} : new int[] {Integer.MIN_VALUE, -1, next.least() - 1, next.least(),
            (next.least() + next.most()) / 2, next.most(), next.most() + 1, Integer.MAX_VALUE};
        for (int value : tried) {
            int[] longer = Arrays.copyOf(values, values.length + 1);
            longer[values.length] = value;
            call(island, method, arguments, longer);
        }
    }

    private static void look(Newsmint island, Method method, List<Argument> arguments, int[] values) {
        Object[] args = new Object[values.length];
        for (int i = 0; i < values.length; i++) {
            boolean isYesOrNo = method.getParameterTypes()[i] == boolean.class;
            args[i] = isYesOrNo ? (Object) (values[i] == 1) : (Object) values[i];
        }
        String due = dueFor(method, arguments, values);
        String before = due.isEmpty() ? "" : Probe.seen(island);
        String got = Script.answer(island, method, args);
        calls++;
        if (due.isEmpty() ? got.startsWith("!") : !got.equals(due)) {
            say(method.getName() + Arrays.toString(args) + " answered " + got + ", due is " + due);
        }
        if (!due.isEmpty() && !Probe.seen(island).equals(before)) {
            say(method.getName() + Arrays.toString(args) + " was refused, and changed something");
        }
    }

    private static String dueFor(Method method, List<Argument> arguments, int[] values) {
        boolean isThere = true;
        boolean isRight = true;
        for (int i = 0; i < values.length; i++) {
            boolean holds = arguments.get(i).holds(values[i]);
            if (arguments.get(i).isIndex()) isThere &= holds;
            else isRight &= holds;
        }
        boolean isToAnother = method.getName().equals("hand") || method.getName().equals("pay");
        if (isToAnother && values[0] == values[1]) isRight = false;
        boolean hasState = Arrays.asList(method.getExceptionTypes()).contains(IllegalStateException.class);
        return !isThere ? "! index" : !isRight ? "! argument" : hasState ? "! state" : "";
    }

    private static void say(String what) {
        wrong++;
        if (wrong < 50) System.out.println(what);
    }
}
