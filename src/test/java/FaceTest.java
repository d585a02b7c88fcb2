import java.io.IOException;
import java.lang.reflect.Array;
import java.lang.reflect.Constructor;
import java.lang.reflect.Field;
import java.lang.reflect.InvocationTargetException;
import java.lang.reflect.Method;
import java.lang.reflect.Modifier;
import java.nio.file.Files;
import java.nio.file.Path;
import java.util.ArrayList;
import java.util.Arrays;
import java.util.Collections;
import java.util.Comparator;
import java.util.IdentityHashMap;
import java.util.List;
import java.util.Map;
import java.util.Random;
import java.util.Set;
import java.util.TreeMap;

/** The face is the document's, nothing outside LANGUAGE.md's library is named, and no call throws what it may not. */
public final class FaceTest {
    private static final String[] FACE = {
        "int feed(int,int,int,int,int)", "boolean end(int)", "int table() IAE UOE", "int query(int) IOOBE IAE", "int fault()",
        "int why()", "int begin(int) IOOBE ISE", "int save(int) IOOBE ISE", "int undo(int,int) IOOBE ISE IAE", "int commit(int) IOOBE ISE",
        "int roll(int) IOOBE ISE", "int claim(int) IOOBE", "int renew(int,int,int) IOOBE ISE", "int finish(int,int,int) IOOBE ISE",
        "int fail(int,int,int,int) IOOBE IAE ISE", "int give(int,int,int) IOOBE ISE", "int reap(int) IOOBE", "int retry(int,int) IOOBE ISE",
        "int bring(int,int,int,int) IOOBE IAE UOE", "int sweep()", "int ticks(int) IAE", "int jump(int) IAE",
        "int job(int,int,int) IOOBE NSEE", "int cause(int,int,int) IOOBE", "int locked(int) IOOBE", "int session(int,int) IOOBE NSEE",
        "int plan(int,int) IOOBE NSEE", "boolean may(int,int) IOOBE", "int next(int,int) IOOBE", "int bar(int,int) IOOBE",
        "int race(int,int) IOOBE IAE", "int passed(int,int) IOOBE", "int again(int,int,int) IOOBE", "int would(int,boolean) IAE",
        "int work(int,int) IAE IOOBE", "int was(int,int) IOOBE", "int longest()", "int overtaken(int) IOOBE", "int alike(int,int) IOOBE IAE",
        "int root(int) IAE", "int find(int,int) NSEE", "int log(int,int) NSEE", "void image()", "boolean back()", "int count(int)",
    };
    private static final Map<String, String> SHORT = Map.of("IndexOutOfBoundsException", "IOOBE", "IllegalArgumentException", "IAE",
        "IllegalStateException", "ISE", "NoSuchElementException", "NSEE", "UnsupportedOperationException", "UOE");
    private static final int[] STRANGE = {Integer.MIN_VALUE, Integer.MIN_VALUE + 1, -301, -2, -1, 0, 1, 2, 3, 4, 5, 6, 7, 9, 12, 13, 23, 24,
        25, 60, 61, 300, 301, 400, 9999, Integer.MAX_VALUE - 1, Integer.MAX_VALUE};

    public static void main(String[] args) throws IOException, IllegalAccessException {
        hasItsFaceAlone();
        namesNoOtherLibrary();
        staysSmall();
        keepsNoStaticState();
        keepsItsRoomSmall();
        bearsAnyNumber();
        Bench.end("FaceTest");
    }

    private static String signature(Method method) {
        StringBuilder all = new StringBuilder(method.getReturnType().getSimpleName()).append(' ').append(method.getName()).append('(');
        for (Class<?> type : method.getParameterTypes()) {
            all.append(all.charAt(all.length() - 1) == '(' ? "" : ",").append(type.getSimpleName());
        }
        all.append(')');
        for (Class<?> type : method.getExceptionTypes()) {
            all.append(' ').append(SHORT.getOrDefault(type.getSimpleName(), type.getName()));
        }
        return all.toString();
    }

    private static void hasItsFaceAlone() {
        Map<String, String> found = new TreeMap<>();
        for (Method method : ClaimTable.class.getDeclaredMethods()) {
            if (Modifier.isPrivate(method.getModifiers())) {
                boolean alike = Arrays.stream(FACE).anyMatch(s -> s.contains(" " + method.getName() + "("));
                Bench.due(1, "a private method " + method.getName() + " with a public one's name", false, () -> alike);
            } else {
                found.put(signature(method), Modifier.toString(method.getModifiers()));
            }
        }
        for (String signature : FACE) {
            Bench.due(1, signature, "public", () -> String.valueOf(found.remove(signature)));
        }
        Bench.due(1, "methods outside the face", "{}", () -> found.toString());
        for (Field field : ClaimTable.class.getDeclaredFields()) {
            boolean isPrivate = Modifier.isPrivate(field.getModifiers());
            Bench.due(1, "field " + field.getName(), true, () -> isPrivate || field.getName().equals("NONE"));
        }
        for (Constructor<?> constructor : ClaimTable.class.getDeclaredConstructors()) {
            Bench.due(1, "constructor", "public ClaimTable()", () -> constructor.toString());
        }
        for (Class<?> inside : ClaimTable.class.getDeclaredClasses()) {
            int modifiers = inside.getModifiers();
            Bench.due(1, "class " + inside.getSimpleName(), true, () -> Modifier.isStatic(modifiers) && Modifier.isPrivate(modifiers));
        }
        Bench.due(1, "classes", true, () -> ClaimTable.class.getDeclaredClasses().length <= 12);
        Bench.due(1, "final", true, () -> Modifier.isFinal(ClaimTable.class.getModifiers()));
    }

    private static void namesNoOtherLibrary() throws IOException {
        String source = Files.readString(Path.of("src/main/java/ClaimTable.java"));
        Bench.due(1, "signs 1 to 127 alone", true, () -> source.chars().allMatch(c -> c < 127));
        String[] never = {"catch", "finally", "synchronized", "assert ", "->", "::", "Exact(", ".equals(", "hashCode", "toString", "var ",
            "package ", "getMessage", "System.out", "nanoTime", "Random", "Thread", "while (true)", "for (;;)", "instanceof", "new int[]", "static {"};
        for (String word : never) {
            Bench.due(1, "'" + word + "' in the source", -1, () -> source.indexOf(word));
        }
        Bench.due(1, "one import", "import java.util.NoSuchElementException;",
            () -> String.join("\n", source.lines().filter(l -> l.startsWith("import")).toList()));
    }

    /** Rule 11: parameters, fields and the lines of methods. */
    private static void staysSmall() throws IOException {
        for (Class<?> type : allClasses()) {
            for (Method method : type.getDeclaredMethods()) {
                Bench.due(1, "parameters of " + method, true, () -> method.getParameterCount() <= 7);
            }
            long fields = Arrays.stream(type.getDeclaredFields()).filter(f -> !Modifier.isStatic(f.getModifiers())).count();
            Bench.due(1, "fields of " + type.getSimpleName(), true, () -> fields <= 20);
        }
        List<String> lines = Files.readAllLines(Path.of("src/main/java/ClaimTable.java"));
        int begin = -1;
        for (int i = 0; i < lines.size(); i++) {
            String line = lines.get(i);
            if (line.matches("( {4}| {8})(?! )[^;]*\\(.*")) {
                begin = i;
            } else if (begin >= 0 && line.matches("( {4}| {8})}")) {
                int length = i - begin + 1;
                Bench.due(1, "lines of '" + lines.get(begin).strip() + "'", true, () -> length <= 60);
                begin = -1;
            }
        }
    }

    /** Rule 5: what is static is final, and a number, a text or an array of numbers. */
    private static void keepsNoStaticState() {
        List<Class<?>> fine = List.of(int.class, long.class, boolean.class, char.class, String.class, int[].class, long[].class, char[].class,
            byte[].class);
        for (Class<?> type : allClasses()) {
            for (Field field : type.getDeclaredFields()) {
                if (Modifier.isStatic(field.getModifiers())) {
                    Bench.due(1, field + " is final and of a fine type", true,
                        () -> Modifier.isFinal(field.getModifiers()) && fine.contains(field.getType()));
                }
            }
        }
    }

    /** Rule 12: an object is a small part of the room of a run, and its calls make nothing but exceptions. */
    private static void keepsItsRoomSmall() throws IOException, IllegalAccessException {
        Set<Object> found = Collections.newSetFromMap(new IdentityHashMap<>());
        long parts = partsOf(new ClaimTable(), found);
        Bench.due(1, "objects and arrays of a new object", true, () -> found.size() < 1200);
        Bench.due(1, "fields and elements of a new object", true, () -> parts < 14000);
        String made = "(default: )?throw new .*|private (final )?\\w+(\\[\\])? \\w+ = new .*|(saved|jobs|sessions|schedules)\\[\\w] = new .*";
        List<String> others = Files.readAllLines(Path.of("src/main/java/ClaimTable.java")).stream().map(String::strip)
            .filter(l -> l.contains("new ") && !l.matches(made) && !l.matches("(//|/?\\*).*")).toList();
        Bench.due(1, "lines that make something else", List.of(), () -> others);
    }

    private static long partsOf(Object object, Set<Object> found) throws IllegalAccessException {
        if (object == null || !found.add(object)) {
            return 0;
        }
        long parts = 0;
        if (object.getClass().isArray()) {
            int length = Array.getLength(object);
            for (int i = 0; i < length && !object.getClass().getComponentType().isPrimitive(); i++) {
                parts += partsOf(Array.get(object, i), found);
            }
            return parts + length;
        }
        for (Field field : object.getClass().getDeclaredFields()) {
            if (!Modifier.isStatic(field.getModifiers())) {
                field.setAccessible(true);
                parts += 1 + (field.getType().isPrimitive() ? 0 : partsOf(field.get(object), found));
            }
        }
        return parts;
    }

    private static List<Class<?>> allClasses() {
        List<Class<?>> all = new ArrayList<>(List.of(ClaimTable.class.getDeclaredClasses()));
        all.add(ClaimTable.class);
        return all;
    }

    /** Each call of the face with numbers of all sorts, in a table where much is going on. */
    private static void bearsAnyNumber() throws IllegalAccessException {
        Random random = new Random(7);
        Method[] face = Arrays.stream(ClaimTable.class.getDeclaredMethods())
            .filter(m -> Modifier.isPublic(m.getModifiers()))
            .sorted(Comparator.comparing(Method::getName)).toArray(Method[]::new);
        for (int round = 0; round < 300; round++) {
            Bench b = Bench.of("session;session skew 3;session slow 9;parallel 0 4;limit 2;every 1 at 0 group 0 priority 0 cost 1 each;"
                + "every 60 at 59 group 5 priority 9 cost 9 grace 9;job group 0 priority 0 cost 1;job group 1 priority 1 cost 9 in 99");
            b.x.ticks(1 + random.nextInt(30));
            b.x.begin(random.nextInt(3));
            b.x.claim(random.nextInt(3));
            for (int i = 0; i < 500; i++) {
                callStrangely(b.x, face[random.nextInt(face.length)], random);
            }
        }
    }

    private static void callStrangely(ClaimTable x, Method method, Random random) throws IllegalAccessException {
        Object[] numbers = new Object[method.getParameterCount()];
        for (int i = 0; i < numbers.length; i++) {
            boolean number = method.getParameterTypes()[i] == int.class;
            // Half of the numbers are small, so that not every call ends at its first test.
            int any = random.nextBoolean() ? random.nextInt(3) : STRANGE[random.nextInt(STRANGE.length)];
            numbers[i] = number ? (Object) any : (Object) random.nextBoolean();
        }
        try {
            method.invoke(x, numbers);
        } catch (InvocationTargetException e) {
            Class<?> thrown = e.getCause().getClass();
            boolean told = Arrays.asList(method.getExceptionTypes()).contains(thrown);
            Bench.due(1, method.getName() + Arrays.toString(numbers) + " throws " + thrown, true, () -> told);
        }
    }
}
