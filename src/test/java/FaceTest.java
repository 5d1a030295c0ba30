import java.io.IOException;
import java.lang.reflect.Field;
import java.lang.reflect.Method;
import java.lang.reflect.Modifier;
import java.nio.file.Files;
import java.nio.file.Path;
import java.util.ArrayList;
import java.util.Arrays;
import java.util.List;
import java.util.Random;
import java.util.TreeSet;
import java.util.regex.Matcher;
import java.util.regex.Pattern;

/** The public face, and the rules of LANGUAGE.md that can be read off the class or its text. */
public final class FaceTest {
    private static final String FACE = """
        mint(int,int) IA; forge(int,int) IA; hand(int,int,int) IAS; open(int,int) IS; close(int) IS; bring(int,int) IAS
        draw(int,int) IAS; pay(int,int,int) IAS; clear(); limit(int,int) IA; endow(int,int) IAS
        lend(int,int,int,int) IAS; payBack(int,int) IAS; window(int,int) IAS; windowBack(int,int) IAS
        rules(int,int,int) A; buyBonds(int,int) IAS; bid(int,int,int) IAS; auction(int,int) AS; levy(int,int) IAS
        spend(int,int) IAS; exchange(int) A; abroad(int,int,boolean) IAS; hire(int,int,int) IA; buy(int,int,int) IAS
        day(int) AS; fail(int) IS; days(); ofHolder(int,int) IA; accountAnew(int) I; ofBank(int,int) IA
        ofLoan(int,int) IA; payment(int) I; treasury(); owed(); foreign(); central(); centralAnew(); money()
        price(int) I; sales(int,boolean) I
        """;
    private static final String[] NOT_IN_THE_TEXT = {"import ", "->", "::", "catch", "finally", "synchronized", "assert ",
        "throws Exception", "Object", "System.", "Random", "Thread", "protected", "volatile", "transient", "native"};

    private static int wrong = 0;

    private static void due(boolean holds, String what) {
        if (holds) return;
        wrong++;
        System.out.println("not so: " + what);
    }

    public static void main(String[] args) throws IOException {
        face();
        members();
        for (Class<?> inside : Newsmint.class.getDeclaredClasses()) {
            due(Modifier.isStatic(inside.getModifiers()), inside + " is static");
            due(!Modifier.isPublic(inside.getModifiers()), inside + " is not public");
            fieldsAndMethods(inside);
        }
        due(Newsmint.class.getDeclaredClasses().length < 12, "some twelve classes");
        text(Files.readAllLines(Path.of("src/main/java/Newsmint.java")));
        farBeyondTheEnd();
        System.out.println(wrong + " wrong in the face");
        if (wrong > 0) System.exit(1);
    }

    private static void face() {
        List<String> due = new ArrayList<>();
        for (String one : FACE.split("[;\n]")) due.add(one.trim());
        List<String> found = new ArrayList<>();
        for (Method m : Newsmint.class.getDeclaredMethods()) {
            if (!Modifier.isPublic(m.getModifiers())) continue;
            StringBuilder row = new StringBuilder(m.getName()).append('(');
            for (Class<?> type : m.getParameterTypes()) row.append(row.toString().endsWith("(") ? "" : ",").append(type);
            row.append(") ");
            for (Class<?> thrown : m.getExceptionTypes()) {
                row.append(thrown == IndexOutOfBoundsException.class ? "I" : thrown == IllegalArgumentException.class ? "A"
                        : thrown == IllegalStateException.class ? "S" : "?");
            }
            due(m.getReturnType() == int.class && !Modifier.isStatic(m.getModifiers()), m + " answers an int");
            found.add(row.toString().trim());
        }
        due(new TreeSet<>(due).equals(new TreeSet<>(found)), "the methods are " + due + ", found " + found);
        due(Newsmint.NONE == -1 && Newsmint.WAITS == 0 && Newsmint.DONE == 1 && Newsmint.TAKEN == 2, "the constants");
        due(Modifier.isFinal(Newsmint.class.getModifiers()), "the class is final");
        due(Newsmint.class.getDeclaredConstructors().length == 1, "there is one constructor");
    }

    private static void members() {
        TreeSet<String> open = new TreeSet<>();
        for (Method m : Newsmint.class.getDeclaredMethods()) if (Modifier.isPublic(m.getModifiers())) open.add(m.getName());
        for (Method m : Newsmint.class.getDeclaredMethods()) {
            if (Modifier.isPublic(m.getModifiers())) continue;
            due(Modifier.isPrivate(m.getModifiers()), m + " is private");
            due(!open.contains(m.getName()), m + " bears a name of its own");
        }
        for (Field f : Newsmint.class.getDeclaredFields()) {
            boolean isOfTheFace = List.of("NONE", "WAITS", "DONE", "TAKEN").contains(f.getName());
            due(isOfTheFace ? Modifier.isPublic(f.getModifiers()) : Modifier.isPrivate(f.getModifiers()), f.toString());
        }
        fieldsAndMethods(Newsmint.class);
    }

    private static void fieldsAndMethods(Class<?> of) {
        int fields = 0;
        for (Field f : of.getDeclaredFields()) {
            if (!Modifier.isStatic(f.getModifiers())) fields++;
            else due(Modifier.isFinal(f.getModifiers()) && f.getType() == int.class, f + " is a constant");
        }
        due(fields <= 20, of + " has some twenty fields at most");
        for (Method m : of.getDeclaredMethods()) due(m.getParameterCount() <= 7, m + " has seven parameters at most");
    }

    private static void text(List<String> lines) {
        Pattern head = Pattern.compile("^( +)(public |private |static |final )*[\\w\\[\\]]+ (\\w+)\\(.*");
        int start = -1;
        String indent = "";
        for (int i = 0; i < lines.size(); i++) {
            String line = lines.get(i);
            String code = line.replaceAll("//.*|^ *(/\\*)?\\*.*", "");
            for (String word : NOT_IN_THE_TEXT) due(!code.contains(word), (i + 1) + ": no " + word);
            due(line.chars().allMatch(c -> c >= 32 && c < 127), (i + 1) + ": plain signs");
            due(!code.matches(".*\\.\\w+Exact\\(.*"), (i + 1) + ": nothing Exact");
            Matcher m = head.matcher(code);
            boolean isHead = m.matches() && (code.endsWith("{") || code.endsWith(")")) && m.group(1).length() <= 8
                    && !code.trim().matches("(new|return|else|throw) .*");
            if (isHead) {
                start = i;
                indent = m.group(1);
            } else if (start >= 0 && line.equals(indent + "}")) {
                due(i - start <= 60, (start + 1) + ": a method of some sixty lines at most");
                start = -1;
            }
        }
    }

    /** What calls answer behind the 512th is free, but no machine may throw in them. */
    private static void farBeyondTheEnd() {
        Random random = new Random(7);
        Method[] methods = Newsmint.class.getDeclaredMethods();
        List<Method> open = new ArrayList<>();
        for (Method m : methods) if (Modifier.isPublic(m.getModifiers())) open.add(m);
        open.sort((a, b) -> a.getName().compareTo(b.getName()));
        for (int run = 0; run < 20; run++) {
            Newsmint island = new Newsmint();
            // Reserves and notes run over what an int holds.
            for (int i = 0; i < 230000; i++) island.endow(run % 4, 10000);
            for (int i = 0; i < 2200000; i++) island.mint(run % 16, 1000);
            for (int i = 0; i < 4000; i++) callAny(island, open.get(random.nextInt(open.size())), random);
        }
    }

    private static void callAny(Newsmint island, Method method, Random random) {
        Object[] args = new Object[method.getParameterCount()];
        for (int i = 0; i < args.length; i++) {
            int most = new int[] {4, 16, 100, 10000}[random.nextInt(4)];
            boolean isYesOrNo = method.getParameterTypes()[i] == boolean.class;
            args[i] = isYesOrNo ? (Object) random.nextBoolean() : (Object) random.nextInt(most);
        }
        try {
            method.invoke(island, args);
        } catch (ReflectiveOperationException e) {
            Class<?> kind = e.getCause() == null ? e.getClass() : e.getCause().getClass();
            due(Arrays.asList(method.getExceptionTypes()).contains(kind), method.getName() + Arrays.toString(args) + " " + kind);
        }
    }
}
