import java.lang.reflect.InvocationTargetException;
import java.lang.reflect.Method;
import java.util.ArrayList;
import java.util.HashMap;
import java.util.List;
import java.util.Map;
import java.util.Random;
import java.util.TreeMap;

/** Random runs of calls, held against Model; the first unlike answer of a run is told with the run. */
public final class ModelTest {
    private static final Map<String, Method> OURS = methods(ClaimTable.class);
    private static final Map<String, Method> MODELS = methods(Model.class);
    private static final String[] COLUMNS = {"number", "group", "priority", "cost", "tries", "age", "late", "turn"};
    private static final String[] ASKING = {"job", "cause", "session", "may", "next", "bar", "race", "passed", "again",
        "work", "was", "longest", "overtaken", "alike", "root", "find", "log", "count", "locked", "plan", "would"};

    private final Random random;
    private final ClaimTable ours = new ClaimTable();
    private final Model model = new Model();
    private final List<String> run = new ArrayList<>();
    private final Map<String, Map<String, Integer>> seen;
    private final int groups;
    // Of a hundred TRANSACTIONS that could end by an act, how many do.
    private final int ending;
    private boolean failed;

    private ModelTest(long seed, Map<String, Map<String, Integer>> seen) {
        random = new Random(seed);
        groups = 1 + random.nextInt(6);
        ending = random.nextInt(3) * 50;
        this.seen = seen;
    }

    private static Map<String, Method> methods(Class<?> type) {
        Map<String, Method> all = new HashMap<>();
        for (Method m : type.getDeclaredMethods()) {
            if (java.lang.reflect.Modifier.isPublic(m.getModifiers())) {
                m.setAccessible(true);
                all.put(m.getName(), m);
            }
        }
        return all;
    }

    private static String answer(Object on, Method method, Object[] args) {
        try {
            return String.valueOf(method.invoke(on, args));
        } catch (InvocationTargetException e) {
            return "throws." + e.getCause().getClass().getSimpleName();
        } catch (IllegalAccessException e) {
            throw new IllegalStateException(e);
        }
    }

    private String call(String name, Object... args) {
        String got = answer(ours, OURS.get(name), args);
        String due = answer(model, MODELS.get(name), args);
        run.add(name + java.util.Arrays.toString(args) + " = " + got);
        seen.computeIfAbsent(name, k -> new TreeMap<>()).merge(got, 1, Integer::sum);
        if (!got.equals(due) && !failed) {
            failed = true;
            System.out.println(String.join("\n", run));
            System.out.println("due is " + due);
        }
        return due;
    }

    private int in(int low, int high) {
        return low + random.nextInt(high - low + 1);
    }

    private boolean chance(int percent) {
        return random.nextInt(100) < percent;
    }

    // ---- texts ----

    private String blank() {
        return chance(80) ? " " : "   ".substring(0, in(1, 3));
    }

    private String number(int low, int high) {
        int n = chance(97) ? in(low, high) : in(0, 1200);
        return chance(95) ? "" + n : "0" + n;
    }

    private String cargo() {
        return "group " + number(0, groups - 1) + " priority " + number(0, 9) + blank() + "cost" + blank() + number(1, 9);
    }

    private String line() {
        switch (in(0, 13)) {
            case 0:
            case 1: return "session" + new String[] {"", " skew " + number(0, 9), " slow " + number(0, 9)}[in(0, 2)];
            case 2: return "parallel " + number(0, groups - 1) + " " + number(1, 4);
            case 3:
            case 4: return "every " + number(1, chance(50) ? 9 : 60) + " at " + number(0, chance(50) ? 5 : 59) + " " + cargo()
                + new String[] {"", " each", " grace " + number(0, 9)}[in(0, 2)];
            case 5: return "lease " + number(1, chance(80) ? 8 : 60);
            case 6: return "base" + blank() + number(1, 9);
            case 7: return "cap " + number(1, 99);
            case 8: return "jitter " + number(0, 9);
            case 9: return "limit " + number(1, 9);
            default: return "job " + cargo() + (chance(30) ? " in " + number(0, chance(80) ? 9 : 99) : "");
        }
    }

    private String lines() {
        if (chance(3)) {
            return " ".repeat(in(0, 3));
        }
        StringBuilder text = new StringBuilder();
        int n = chance(90) ? in(1, 6) : in(12, 16);
        for (int i = 0; i < n; i++) {
            text.append(i == 0 ? "" : chance(80) ? ";" : " ; ").append(line());
        }
        return text.toString();
    }

    private String question() {
        StringBuilder text = new StringBuilder("claim " + number(1, chance(50) ? 2 : 6));
        int terms = chance(50) ? 0 : chance(95) ? in(1, 3) : in(4, 5);
        for (int i = 0; i < terms; i++) {
            text.append(i == 0 ? " where " : " and ").append(COLUMNS[in(0, 7)]).append(chance(50) ? "" : " ");
            text.append("=!<>>!<!<>".charAt(in(0, 9))).append(chance(50) ? "" : " ").append(number(0, chance(90) ? 9 : 999));
        }
        int keys = chance(30) ? 0 : chance(95) ? in(1, 3) : in(4, 5);
        for (int i = 0; i < keys; i++) {
            text.append(i == 0 ? " order by " : chance(50) ? "," : " , ").append(COLUMNS[in(0, 7)]).append(chance(40) ? " desc" : "");
        }
        return text.toString();
    }

    private String spoiled(String text) {
        if (!chance(8)) {
            return text;
        }
        StringBuilder s = new StringBuilder(text);
        int at = in(0, s.length());
        switch (in(0, 3)) {
            case 0: s.setLength(at); break;
            case 1: s.insert(at, (char) (chance(70) ? " ;,=1aA\tz0".charAt(in(0, 9)) : in(0, 255))); break;
            case 2: s.delete(at, Math.min(s.length(), at + in(1, 4))); break;
            default: s.insert(at, text.substring(Math.min(at, text.length()))); break;
        }
        return s.toString();
    }

    private boolean tell(String text) {
        int[] words = new int[(text.length() + 19) / 20 * 5];
        for (int i = 0; i < text.length(); i++) {
            words[i / 4] |= text.charAt(i) << 24 - i % 4 * 8;
        }
        for (int i = 0; i < words.length; i += 5) {
            call("feed", words[i], words[i + 1], words[i + 2], words[i + 3], words[i + 4]);
        }
        call("end", text.length());
        run.add("-- " + text);
        return true;
    }

    // ---- calls ----

    private int session() {
        return chance(97) && model.w.sessions.size() > 0 ? in(0, model.w.sessions.size() - 1) : in(-2, 5);
    }

    private int viewer() {
        return chance(30) ? -1 : session();
    }

    private int job() {
        List<Integer> numbers = new ArrayList<>(model.w.numbers());
        return chance(97) && !numbers.isEmpty() ? numbers.get(in(0, numbers.size() - 1)) : in(-2, 40);
    }

    /** A job that the session holds, so that the calls with tokens mostly go well. */
    private int[] held() {
        List<int[]> found = new ArrayList<>();
        for (int number : model.w.numbers()) {
            for (int s = 0; s < model.w.sessions.size(); s++) {
                Model.Ver v = model.w.seen(number, s);
                if (v != null && v.state == 1) {
                    found.add(new int[] {chance(90) ? v.holder : session(), number, chance(95) ? v.token : in(0, 20)});
                }
            }
        }
        return found.isEmpty() ? new int[] {session(), job(), in(0, 5)} : found.get(in(0, found.size() - 1));
    }

    private int setAside() {
        int last = -1;
        for (int k = in(0, 3); k >= 0 && last < 0; k--) {
            last = model.find(3, k);
        }
        return Math.max(0, last);
    }

    /** Mostly back to a SAVEPOINT that there is, so that what is kept for it matters. */
    private void undo() {
        int session = session();
        boolean known = session >= 0 && session < model.w.sessions.size();
        int points = known ? model.w.sessions.get(session).savepoints.size() : 0;
        call("undo", session, points > 0 && chance(90) ? in(0, points - 1) : in(-1, 5));
    }

    private void end(String how) {
        if (chance(ending)) {
            call(how, session());
        }
    }

    private void act() {
        int[] h = held();
        switch (in(0, 26)) {
            case 0:
                if (tell(spoiled(lines()))) {
                    call("table");
                }
                break;
            case 1:
            case 2:
                if (tell(spoiled(question()))) {
                    call("query", session());
                }
                break;
            case 3:
            case 4: call("begin", session()); break;
            case 5:
            case 6: call("save", session()); break;
            case 7: undo(); break;
            case 8:
            case 9: end("commit"); break;
            case 10: end("roll"); break;
            case 11:
            case 12:
            case 13: call("claim", session()); break;
            case 14: call("renew", h[0], h[1], h[2]); break;
            case 15: call("finish", h[0], h[1], h[2]); break;
            case 16:
            case 17:
            case 18: call("fail", h[0], h[1], h[2], chance(75) ? in(0, 4) : in(-1, 7)); break;
            case 19: call("give", h[0], h[1], h[2]); break;
            case 20: call("reap", session()); break;
            case 21: call("retry", session(), chance(80) ? setAside() : job()); break;
            case 22:
            case 23: call("bring", session(), chance(97) ? in(0, groups - 1) : in(-1, 7), chance(97) ? in(0, 9) : in(-1, 11), chance(97) ? in(1, 9) : in(-1, 11)); break;
            case 24: call(chance(50) ? "sweep" : chance(20) ? "image" : chance(20) ? "back" : "sweep"); break;
            case 25: call("ticks", chance(90) ? in(1, 4) : in(-1, 62)); break;
            default: call("jump", chance(60) ? in(-9, 20) : in(-302, 302)); break;
        }
        call("why");
        call("fault");
    }

    private void ask(String name) {
        switch (name) {
            case "job": call(name, viewer(), job(), in(-1, 13)); break;
            case "cause": call(name, viewer(), job(), in(-1, 9)); break;
            case "session": call(name, session(), chance(95) ? in(0, 9) : in(-2, 11)); break;
            case "may":
            case "bar":
            case "passed": call(name, session(), job()); break;
            case "next": call(name, session(), in(-1, 6)); break;
            case "race": call(name, session(), session()); break;
            case "again": call(name, viewer(), job(), chance(95) ? in(-1, 5) : in(6, 2000000000)); break;
            case "work": call(name, chance(95) ? in(1, 4) : in(-1, 6), chance(50) ? -1 : job()); break;
            case "was": call(name, job(), in(-1, model.w.mono + 3)); break;
            case "overtaken": call(name, chance(95) ? in(0, groups - 1) : in(-1, 6)); break;
            case "alike": call(name, job(), job()); break;
            case "root": call(name, in(-1, 7)); break;
            case "find": call(name, in(-1, 7), in(-1, 9)); break;
            case "log": call(name, in(-1, 61), in(-1, 5)); break;
            case "count": call(name, in(-1, 18)); break;
            case "locked": call(name, job()); break;
            case "plan": call(name, in(-1, 4), in(-1, 6)); break;
            case "would": call(name, chance(95) ? in(0, 60) : in(-2, 62), random.nextBoolean()); break;
            default: call(name); break;
        }
    }

    private void askAll() {
        for (int what = 0; what < 18; what++) {
            call("count", what);
        }
        for (int session = 0; session < model.w.sessions.size(); session++) {
            for (int what = 0; what < 10; what++) {
                call("session", session, what);
            }
        }
        for (int number : model.w.numbers()) {
            int viewer = viewer();
            for (int what = 0; what < 13; what++) {
                call("job", viewer, number, what);
            }
            call("bar", session(), number);
            call("passed", session(), number);
        }
        for (int what = 0; what < 5; what++) {
            call("log", 0, what);
        }
    }

    private boolean goesWell() {
        if (chance(90)) {
            tell("session;session slow 3;session skew 2;session" + (chance(50) ? ";parallel 0 3;limit 9;parallel 1 2" : ""));
            call("table");
        }
        if (chance(50)) {
            tell("cap " + in(1, 3) + ";lease " + in(1, 4) + ";parallel 0 4;parallel 1 4" + (";job " + cargo()).repeat(in(1, 4)));
            call("table");
            tell("job " + cargo() + (";job " + cargo()).repeat(in(1, 4)));
            call("table");
        }
        for (int i = 0; i < 150 && !failed; i++) {
            act();
            for (int k = 0; k < 3; k++) {
                ask(ASKING[in(0, ASKING.length - 1)]);
            }
            if (i % 15 == 14) {
                askAll();
            }
        }
        return !failed;
    }

    public static void main(String[] args) {
        int runs = args.length > 0 ? Integer.parseInt(args[0]) : 400;
        long first = args.length > 1 ? Long.parseLong(args[1]) : 1;
        Map<String, Map<String, Integer>> seen = new TreeMap<>();
        for (long seed = first; seed < first + runs; seed++) {
            if (!new ModelTest(seed, seen).goesWell()) {
                System.out.println("ModelTest: run of seed " + seed + " answers otherwise than the model");
                System.exit(1);
            }
        }
        if (args.length > 2) {
            seen.forEach((name, answers) -> System.out.println(name + " " + (answers.size() > 60 ? answers.size() + " unlike answers" : answers)));
        }
        System.out.println("ModelTest: " + runs + " runs answer as the model does");
    }
}
