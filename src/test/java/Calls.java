import java.lang.reflect.InvocationTargetException;
import java.lang.reflect.Method;
import java.lang.reflect.Modifier;
import java.util.ArrayList;
import java.util.HashMap;
import java.util.List;
import java.util.Map;

/** A ClaimTable and all calls that were made on it, told and answered as texts. */
final class Calls {
    /** An object is promised to answer so many calls. */
    static final int MOST = 512;

    private static final Map<String, Method> FACE = new HashMap<>();
    private static final Map<String, String> SHORT = Map.of("IndexOutOfBoundsException", "IOOBE", "IllegalArgumentException", "IAE",
        "IllegalStateException", "ISE", "NoSuchElementException", "NSEE", "UnsupportedOperationException", "UOE");

    static {
        for (Method method : ClaimTable.class.getDeclaredMethods()) {
            if (Modifier.isPublic(method.getModifiers())) {
                FACE.put(method.getName(), method);
            }
        }
    }

    private final ClaimTable table = new ClaimTable();
    private final List<String> made = new ArrayList<>();

    static boolean has(String name) {
        return FACE.containsKey(name);
    }

    /** An object on which the first of these calls were made, too, but not the last few. */
    Calls without(int last) {
        Calls other = new Calls();
        for (String call : made.subList(0, made.size() - last)) {
            other.make(call);
        }
        return other;
    }

    int count() {
        return made.size();
    }

    /** Makes a call told like "job -1 0 3"; a void one answers "done". */
    String make(String call) {
        made.add(call);
        String[] words = call.split(" ");
        Method method = FACE.get(words[0]);
        Class<?>[] types = method.getParameterTypes();
        if (types.length != words.length - 1) {
            throw new AssertionError("'" + call + "' has not as many numbers as " + method);
        }
        Object[] numbers = new Object[types.length];
        for (int i = 0; i < types.length; i++) {
            numbers[i] = types[i] == int.class ? (Object) Integer.valueOf(words[i + 1]) : (Object) Boolean.valueOf(words[i + 1]);
        }
        try {
            Object answer = method.invoke(table, numbers);
            return answer == null ? "done" : answer.toString();
        } catch (InvocationTargetException e) {
            String name = e.getCause().getClass().getSimpleName();
            return SHORT.getOrDefault(name, name);
        } catch (IllegalAccessException e) {
            throw new AssertionError(e);
        }
    }

    /** Feeds a text to the TAPE, which must be empty. */
    void feed(String text) {
        int[] words = new int[(text.length() + 19) / 20 * 5];
        for (int i = 0; i < text.length(); i++) {
            words[i / 4] |= text.charAt(i) << 24 - i % 4 * 8;
        }
        for (int i = 0; i < words.length; i += 5) {
            make("feed " + words[i] + " " + words[i + 1] + " " + words[i + 2] + " " + words[i + 3] + " " + words[i + 4]);
        }
        make("end " + text.length());
    }

    /** The answers to a call with 0, 1, 2 .. as its last number, up to the first that is none. */
    String all(String call) {
        StringBuilder answers = new StringBuilder();
        for (int k = 0; k < MOST; k++) {
            String answer = make(call + " " + k);
            boolean without = answer.equals("-1") && call.matches("(next|find|cause|count).*");
            if (without || answer.equals("NSEE") || answer.equals("IOOBE")) {
                return k == 0 && !without ? answer : answers.toString();
            }
            answers.append(k == 0 ? "" : " ").append(answer);
        }
        return answers.toString();
    }

    /**
     * All that can be asked of the object, and what is told by going back to its SAVEPOINTS, by
     * using up its TAPE and by going back to its IMAGE; the object is spoiled by that.
     */
    List<String> everything(boolean withWhy, boolean withFault) {
        List<String> told = new ArrayList<>();
        told.add(withWhy ? make("why") : "");
        told.add(withFault ? make("fault") : "");
        tellState(told);
        int sessions = Integer.parseInt(make("count 1"));
        for (int s = 0; s < sessions; s++) {
            for (int k = Integer.parseInt(make("session " + s + " 1")) - 1; k >= 0; k--) {
                told.add("undo " + s + " " + k + " " + make("undo " + s + " " + k));
                tellJobs(told, s);
            }
        }
        String length = make("feed 0 0 0 0 0");
        told.add("TAPE " + length);
        if (!length.equals("-1")) {
            make("end " + (Integer.parseInt(length) - 20));
        }
        told.add("TAPE " + make("table") + " " + make("fault"));
        told.add("back " + make("back"));
        tellState(told);
        return told;
    }

    private void tellState(List<String> told) {
        told.add("count " + all("count"));
        int sessions = Integer.parseInt(make("count 1"));
        for (int s = -1; s < sessions; s++) {
            if (s >= 0) {
                told.add("session " + s + ": " + all("session " + s) + ", next " + all("next " + s));
            }
            tellJobs(told, s);
        }
        for (int s = 0; s < 4; s++) {
            told.add("plan " + s + ": " + all("plan " + s));
        }
        for (int ago = Integer.parseInt(make("count 17")) - 1; ago >= 0; ago--) {
            told.add("log " + ago + ": " + all("log " + ago));
        }
    }

    private void tellJobs(List<String> told, int session) {
        int came = Integer.parseInt(make("count 7"));
        for (int job = 0; job < came; job++) {
            String seen = all("job " + session + " " + job);
            if (!seen.equals("IOOBE")) {
                String asked = session < 0 ? make("locked " + job) : make("bar " + session + " " + job);
                told.add("job " + session + " " + job + ": " + seen + ", causes " + all("cause " + session + " " + job) + ", " + asked);
            }
        }
    }
}
