import java.lang.reflect.InvocationTargetException;
import java.lang.reflect.Method;
import java.util.ArrayList;
import java.util.Arrays;
import java.util.HashMap;
import java.util.List;
import java.util.Map;
import java.util.Random;

/**
 * Runs of calls told by chance (always the same, as the seeds are fixed) on Newsmint and on PlainMint; each answer,
 * each exception and, again and again, all that can be asked has to be the same.
 */
public final class RandomRunsTest {
    private static final int RUNS = 1500;
    private static final int CALLS = 360;
    private static final int[] WEIRD = {Integer.MIN_VALUE, -2, -1, 0, 1, 4, 16, 101, 10001, Integer.MAX_VALUE};

    /** A method of the face: the least and most of each argument, and how often it is called. */
    private record Act(String name, int often, int... bounds) { }

    private static final List<Act> ACTS = List.of(
            new Act("mint", 3, 0, 15, 1, 1000), new Act("forge", 2, 0, 15, 1, 100),
            new Act("hand", 3, 0, 15, 0, 15, 1, 10000), new Act("open", 4, 0, 15, 0, 3), new Act("close", 2, 0, 15),
            new Act("bring", 4, 0, 15, 1, 10000), new Act("draw", 3, 0, 15, 1, 10000),
            new Act("pay", 10, 0, 15, 0, 15, 1, 10000), new Act("clear", 4), new Act("limit", 2, 0, 3, 0, 10000),
            new Act("endow", 4, 0, 3, 1, 10000), new Act("lend", 4, 0, 3, 0, 15, 1, 10000, 0, 100),
            new Act("payBack", 3, 0, 19, 1, 10000), new Act("window", 3, 0, 3, 1, 10000),
            new Act("windowBack", 3, 0, 3, 1, 10000), new Act("rules", 1, 0, 100, 0, 100, 0, 100),
            new Act("buyBonds", 2, 0, 3, 1, 10000), new Act("bid", 8, 0, 3, 50, 100, 1, 1000),
            new Act("auction", 3, 1, 10000, 1, 50), new Act("levy", 3, 0, 15, 1, 100),
            new Act("spend", 3, 0, 15, 1, 10000), new Act("exchange", 1, 10, 1000),
            new Act("abroad", 4, 10, 15, 1, 1000, 0, 1), new Act("hire", 4, 0, 9, 10, 15, 1, 1000),
            new Act("buy", 8, 0, 9, 10, 15, 1, 20), new Act("day", 6, 1, 5), new Act("fail", 1, 0, 3),
            new Act("ofHolder", 1, 0, 15, 0, 7), new Act("accountAnew", 1, 0, 15), new Act("ofBank", 1, 0, 3, 0, 9),
            new Act("ofLoan", 1, 0, 19, 0, 3), new Act("payment", 1, 0, 199), new Act("price", 1, 10, 15),
            new Act("sales", 1, 0, 200, 0, 1));

    private static final Map<String, Method> OF_MINT = methods(Newsmint.class);
    private static final Map<String, Method> OF_PLAIN = methods(PlainMint.class);

    private static Map<String, Method> methods(Class<?> of) {
        Map<String, Method> found = new HashMap<>();
        for (Method m : of.getDeclaredMethods()) {
            if (java.lang.reflect.Modifier.isPublic(m.getModifiers())) found.put(m.getName(), m);
        }
        return found;
    }

    private static String answer(Map<String, Method> face, Object on, String name, Object... args) {
        try {
            return String.valueOf(face.get(name).invoke(on, args));
        } catch (InvocationTargetException e) {
            return "throws." + e.getCause().getClass().getSimpleName();
        } catch (IllegalAccessException e) {
            return "no access";
        }
    }

    private final Random random;
    private final Newsmint mint = new Newsmint();
    private final PlainMint plain = new PlainMint();
    private final List<String> told = new ArrayList<>();
    private final boolean stays;
    private final int large;

    private RandomRunsTest(int seed) {
        random = new Random(seed);
        // Some runs let no bank fail by a call, or move small sums alone, or else they all end the same way.
        stays = random.nextInt(3) > 0;
        large = new int[] {60, 300, 1500, 10000}[random.nextInt(4)];
    }

    private boolean same(String name, Object... args) {
        String got = answer(OF_MINT, mint, name, args);
        String due = answer(OF_PLAIN, plain, name, args);
        if (got.equals(due)) return true;
        System.out.println("after " + String.join("; ", told));
        System.out.println(name + Arrays.toString(args) + " answered " + got + ", due is " + due);
        return false;
    }

    private int chosen(int least, int most) {
        if (random.nextInt(60) == 0) return WEIRD[random.nextInt(WEIRD.length)];
        if (random.nextInt(60) == 0) return random.nextBoolean() ? least - 1 : most + 1;
        if (random.nextInt(25) == 0) return random.nextBoolean() ? least : most;
        int top = most >= 1000 && random.nextInt(8) > 0 ? Math.min(most, large) : most;
        return least + random.nextInt(Math.max(1, top - least + 1));
    }

    private Object[] argumentsOf(Act act) {
        Class<?>[] types = OF_MINT.get(act.name()).getParameterTypes();
        Object[] args = new Object[types.length];
        for (int i = 0; i < args.length; i++) {
            int value = chosen(act.bounds()[2 * i], act.bounds()[2 * i + 1]);
            args[i] = types[i] == boolean.class ? (Object) (value == 1) : (Object) value;
        }
        // A loan is given only where the account is: by chance alone that is seldom so.
        if (act.name().equals("lend") && random.nextInt(4) > 0) {
            int holder = random.nextInt(16);
            args[1] = holder;
            args[0] = Math.max(0, mint.ofHolder(holder, 0));
        }
        if (act.name().equals("sales") || act.name().equals("payment") || act.name().equals("ofLoan")) {
            args[0] = random.nextInt(mint.days() + 3) - 1;
        }
        return args;
    }

    private Act nextAct() {
        int all = ACTS.stream().mapToInt(Act::often).sum();
        int at = random.nextInt(all);
        for (Act act : ACTS) {
            at -= act.often();
            if (at < 0) return act;
        }
        throw new AssertionError();
    }

    private boolean allSame() {
        boolean same = true;
        for (String name : List.of("days", "treasury", "owed", "foreign", "central", "centralAnew", "money")) {
            same &= same(name);
        }
        for (int h = 0; h < 16 && same; h++) {
            for (int what = 0; what < 8; what++) same &= same("ofHolder", h, what);
            same &= same("accountAnew", h);
            if (h > 9) same &= same("price", h);
        }
        for (int b = 0; b < 4 && same; b++) for (int what = 0; what < 10; what++) same &= same("ofBank", b, what);
        for (int l = 0; l < 20 && same; l++) for (int what = 0; what < 4; what++) same &= same("ofLoan", l, what);
        for (int p = 0; p <= 200 && same; p += 3) same &= same("payment", p);
        for (int d = Math.max(0, mint.days() - 8); d <= mint.days() && same; d++) {
            same &= same("sales", d, true) & same("sales", d, false);
        }
        return same;
    }

    private boolean run() {
        for (int h = 0; h < 16; h++) {
            if (random.nextInt(5) > 0) same("open", h, random.nextInt(large < 100 ? 4 : 2));
        }
        for (int i = 0; i < CALLS; i++) {
            Act act = nextAct();
            if (act.name().equals("fail") && stays) continue;
            Object[] args = argumentsOf(act);
            if (!same(act.name(), args)) return false;
            told.add(act.name() + Arrays.toString(args));
            boolean isTurn = act.name().equals("day") || act.name().equals("fail") || i % 20 == 0;
            if (isTurn && !allSame()) return false;
        }
        return allSame();
    }

    public static void main(String[] args) {
        for (int seed = 0; seed < RUNS; seed++) {
            if (!new RandomRunsTest(seed).run()) {
                System.out.println("seed " + seed + " differs");
                System.exit(1);
            }
        }
        System.out.println(RUNS + " runs are the same");
    }
}
