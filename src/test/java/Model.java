import java.util.ArrayList;
import java.util.Comparator;
import java.util.HashMap;
import java.util.HashSet;
import java.util.LinkedHashMap;
import java.util.List;
import java.util.Map;
import java.util.NoSuchElementException;
import java.util.Set;
import java.util.TreeMap;
import java.util.TreeSet;

/**
 * The document told a second time, with the Java library and without care for room, so that
 * ModelTest can hold ClaimTable against it. It shares no code and no layout with ClaimTable.
 */
final class Model {
    static final int NONE = -1;

    /** One version of a job; copies are made whenever one is changed. */
    static final class Ver {
        int group, priority, cost, state, born, due, tries, token, until;
        int holder = NONE, schedule = NONE, slot = NONE;
        List<Integer> causes = new ArrayList<>();

        Ver copy() {
            Ver v = new Ver();
            v.group = group;
            v.priority = priority;
            v.cost = cost;
            v.state = state;
            v.born = born;
            v.due = due;
            v.tries = tries;
            v.token = token;
            v.until = until;
            v.holder = holder;
            v.schedule = schedule;
            v.slot = slot;
            v.causes = new ArrayList<>(causes);
            return v;
        }
    }

    record Term(String column, char sign, int number) { }

    record Key(String column, boolean desc) { }

    record Asked(int n, List<Term> terms, List<Key> keys) { }

    static final class Ses {
        int skew, latest = 5;
        Asked asked = new Asked(1, List.of(), List.of());
        boolean open;
        TreeMap<Integer, Ver> own = new TreeMap<>();
        List<TreeMap<Integer, Ver>> savepoints = new ArrayList<>();

        Ses copy() {
            Ses s = new Ses();
            s.skew = skew;
            s.latest = latest;
            s.asked = asked;
            s.open = open;
            s.own = copyOf(own);
            for (TreeMap<Integer, Ver> point : savepoints) {
                s.savepoints.add(copyOf(point));
            }
            return s;
        }
    }

    static final class Sch {
        int every, at, group, priority, cost, kind, grace, slot;

        Sch copy() {
            Sch s = new Sch();
            s.every = every;
            s.at = at;
            s.group = group;
            s.priority = priority;
            s.cost = cost;
            s.kind = kind;
            s.grace = grace;
            s.slot = slot;
            return s;
        }

        int slotAt(int wall) {
            int s = -1;
            while (at + (s + 1) * every <= wall) {
                s++;
            }
            return s;
        }
    }

    record Row(int mono, int number, int state, int token, int holder) { }

    static final class World {
        TreeMap<Integer, Ver> table = new TreeMap<>();
        List<Ses> sessions = new ArrayList<>();
        List<Sch> schedules = new ArrayList<>();
        int[] parallel = {1, 1, 1, 1, 1, 1};
        Map<String, Integer> settings = new HashMap<>(Map.of("lease", 5, "base", 1, "cap", 30, "jitter", 0, "limit", 3));
        int texts, mono, wall, tokens, came, missed, swept;
        List<Row> log = new ArrayList<>();

        World copy() {
            World w = new World();
            w.table = copyOf(table);
            for (Ses s : sessions) {
                w.sessions.add(s.copy());
            }
            for (Sch s : schedules) {
                w.schedules.add(s.copy());
            }
            w.parallel = parallel.clone();
            w.settings = new HashMap<>(settings);
            w.texts = texts;
            w.mono = mono;
            w.wall = wall;
            w.tokens = tokens;
            w.came = came;
            w.missed = missed;
            w.swept = swept;
            w.log = new ArrayList<>(log);
            return w;
        }

        Set<Integer> numbers() {
            Set<Integer> all = new TreeSet<>(table.keySet());
            for (Ses s : sessions) {
                all.addAll(s.own.keySet());
            }
            return all;
        }

        int locker(int number) {
            for (int s = 0; s < sessions.size(); s++) {
                if (sessions.get(s).own.containsKey(number)) {
                    return s;
                }
            }
            return NONE;
        }

        boolean foreign(int number, int session) {
            int l = locker(number);
            return l != NONE && l != session;
        }

        /** What a session sees of a job; null if it sees none. */
        Ver seen(int number, int session) {
            if (session != NONE && sessions.get(session).own.containsKey(number)) {
                return sessions.get(session).own.get(number);
            }
            return table.get(number);
        }

        Ver lock(int number, int session) {
            Ses s = sessions.get(session);
            if (!s.own.containsKey(number)) {
                s.own.put(number, table.get(number).copy());
            }
            return s.own.get(number);
        }

        int commit(int session) {
            Ses s = sessions.get(session);
            int n = s.own.size();
            for (Map.Entry<Integer, Ver> e : s.own.entrySet()) {
                Ver v = e.getValue();
                table.put(e.getKey(), v);
                log.add(new Row(mono, e.getKey(), v.state, v.token, v.holder));
                if (log.size() > 60) {
                    log.remove(0);
                }
            }
            over(s);
            return n;
        }

        int roll(int session) {
            Ses s = sessions.get(session);
            int n = s.own.size();
            over(s);
            return n;
        }

        private void over(Ses s) {
            s.own = new TreeMap<>();
            s.savepoints.clear();
            s.open = false;
        }

        void endAct(int session) {
            if (!sessions.get(session).open) {
                commit(session);
            }
        }

        int bar(int number, int session) {
            Ver v = seen(number, session);
            if (foreign(number, session)) {
                return 1;
            }
            if (v.state != 0) {
                return 2;
            }
            if (v.due > mono) {
                return 3;
            }
            int full = 0;
            for (int other : numbers()) {
                Ver o = seen(other, session);
                if (other < number && o != null && o.group == v.group && o.state == 0) {
                    return 4;
                }
                boolean foreign = foreign(other, session);
                int group = foreign ? sessions.get(locker(other)).own.get(other).group : o == null ? NONE : o.group;
                boolean held = o != null && o.state == 1;
                if (group == v.group && (foreign || held)) {
                    full++;
                }
            }
            return full < parallel[v.group] ? 0 : 5;
        }

        int value(String column, int number, int session) {
            Ver v = seen(number, session);
            int behind = v.group - sessions.get(session).latest - 1;
            return switch (column) {
                case "number" -> number;
                case "group" -> v.group;
                case "priority" -> v.priority;
                case "cost" -> v.cost;
                case "tries" -> v.tries;
                case "age" -> mono - v.born;
                case "late" -> mono - v.due;
                default -> behind < 0 ? behind + 6 : behind;
            };
        }

        boolean fits(int number, int session) {
            for (Term t : sessions.get(session).asked.terms()) {
                int value = value(t.column(), number, session);
                boolean so = switch (t.sign()) {
                    case '=' -> value == t.number();
                    case '!' -> value != t.number();
                    case '<' -> value < t.number();
                    default -> value > t.number();
                };
                if (!so) {
                    return false;
                }
            }
            return true;
        }

        Integer choice(int session) {
            List<Integer> found = new ArrayList<>();
            for (int number : numbers()) {
                if (seen(number, session) != null && bar(number, session) == 0 && fits(number, session)) {
                    found.add(number);
                }
            }
            Comparator<Integer> order = (a, b) -> 0;
            for (Key key : sessions.get(session).asked.keys()) {
                Comparator<Integer> by = Comparator.comparingInt(n -> value(key.column(), n, session));
                order = order.thenComparing(key.desc() ? by.reversed() : by);
            }
            found.sort(order.thenComparing(Comparator.naturalOrder()));
            return found.isEmpty() ? null : found.get(0);
        }

        void take(int number, int session) {
            Ver v = lock(number, session);
            v.state = 1;
            v.holder = session;
            v.token = ++tokens;
            v.until = mono + settings.get("lease");
            sessions.get(session).latest = v.group;
        }

        List<Integer> claim(int session) {
            List<Integer> taken = new ArrayList<>();
            for (int i = 0; i < sessions.get(session).asked.n(); i++) {
                Integer number = choice(session);
                if (number == null) {
                    break;
                }
                take(number, session);
                taken.add(number);
            }
            return taken;
        }

        int wait(int number, int n) {
            double power = settings.get("base") * Math.pow(2, n - 1);
            return (int) Math.min(power, settings.get("cap")) + (7 * number + 3 * n) % (settings.get("jitter") + 1);
        }

        void failed(int number, Ver v, int cause) {
            v.tries++;
            v.causes.add(0, cause);
            if (v.causes.size() > 9) {
                v.causes.remove(9);
            }
            if (cause == 5 || v.tries >= settings.get("limit")) {
                v.state = 3;
            } else {
                v.state = 0;
                v.due = mono + wait(number, v.tries);
            }
        }

        Ver fresh(int group, int priority, int cost) {
            Ver v = new Ver();
            v.group = group;
            v.priority = priority;
            v.cost = cost;
            v.born = mono;
            v.due = mono;
            return v;
        }

        int look() {
            int arrived = 0;
            for (int i = 0; i < schedules.size(); i++) {
                Sch s = schedules.get(i);
                int now = s.slotAt(wall);
                if (now <= s.slot) {
                    continue;
                }
                List<Integer> passed = new ArrayList<>();
                for (int slot = s.slot + 1; slot <= now; slot++) {
                    passed.add(slot);
                }
                List<Integer> fires = passed.subList(passed.size() - Math.min(passed.size(), s.kind == 1 ? 5 : 1), passed.size());
                boolean fit = s.kind != 2 || wall - (s.at + now * s.every) <= s.grace;
                for (int slot : fit ? fires : List.<Integer>of()) {
                    if (numbers().size() >= 24) {
                        missed++;
                        continue;
                    }
                    Ver v = fresh(s.group, s.priority, s.cost);
                    v.schedule = i;
                    v.slot = slot;
                    table.put(came++, v);
                    arrived++;
                }
                s.slot = now;
            }
            return arrived;
        }

        int tick(int n) {
            int arrived = 0;
            for (int i = 0; i < n; i++) {
                mono = Math.min(9999, mono + 1);
                wall = Math.min(9999, wall + 1);
                arrived += look();
            }
            return arrived;
        }

        int leap(int n) {
            wall = Math.max(0, Math.min(9999, wall + n));
            return look();
        }
    }

    static TreeMap<Integer, Ver> copyOf(TreeMap<Integer, Ver> from) {
        TreeMap<Integer, Ver> to = new TreeMap<>();
        from.forEach((k, v) -> to.put(k, v.copy()));
        return to;
    }

    // ---- reading ----

    static final class Wrong extends RuntimeException {
        private static final long serialVersionUID = 1L;
        final int at;

        Wrong(int at) {
            this.at = at;
        }
    }

    record Tok(String text, int at) { }

    static final class Toks {
        final List<Tok> all = new ArrayList<>();
        final int length;
        int i;

        Toks(String text) {
            length = text.length();
            java.util.regex.Matcher m = java.util.regex.Pattern.compile("[a-z]+|[0-9]+|[^ ]", java.util.regex.Pattern.DOTALL).matcher(text);
            while (m.find()) {
                all.add(new Tok(m.group(), m.start()));
            }
        }

        boolean over() {
            return i >= all.size();
        }

        String peek() {
            return over() ? "" : all.get(i).text();
        }

        Wrong wrong() {
            return new Wrong(over() ? length : all.get(i).at());
        }

        boolean eat(String text) {
            if (!over() && peek().equals(text)) {
                i++;
                return true;
            }
            return false;
        }

        void must(String text) {
            if (!eat(text)) {
                throw wrong();
            }
        }

        int num(int low, int high) {
            if (!peek().matches("[0-9]{1,3}")) {
                throw wrong();
            }
            int value = Integer.parseInt(peek());
            if (value < low || value > high) {
                throw wrong();
            }
            i++;
            return value;
        }

        int num(String word, int low, int high) {
            must(word);
            return num(low, high);
        }
    }

    private static void readLine(Toks t, World w) {
        String word = t.peek();
        boolean room = switch (word) {
            case "job" -> w.numbers().size() < 24;
            case "session" -> w.sessions.size() < 4;
            case "every" -> w.schedules.size() < 4;
            case "parallel", "lease", "base", "cap", "jitter", "limit" -> true;
            default -> false;
        };
        if (!room) {
            throw t.wrong();
        }
        t.i++;
        switch (word) {
            case "job" -> {
                Ver v = w.fresh(t.num("group", 0, 5), t.num("priority", 0, 9), t.num("cost", 1, 9));
                v.due += t.eat("in") ? t.num(0, 99) : 0;
                w.table.put(w.came++, v);
            }
            case "session" -> {
                Ses s = new Ses();
                s.skew = t.eat("skew") ? t.num(0, 9) : t.eat("slow") ? -t.num(0, 9) : 0;
                w.sessions.add(s);
            }
            case "parallel" -> {
                int group = t.num(0, 5);
                w.parallel[group] = t.num(1, 4);
            }
            case "every" -> {
                Sch s = new Sch();
                s.every = t.num(1, 60);
                s.at = t.num("at", 0, 59);
                s.group = t.num("group", 0, 5);
                s.priority = t.num("priority", 0, 9);
                s.cost = t.num("cost", 1, 9);
                s.kind = t.eat("each") ? 1 : t.eat("grace") ? 2 : 0;
                s.grace = s.kind == 2 ? t.num(0, 9) : 0;
                s.slot = s.slotAt(w.wall);
                w.schedules.add(s);
            }
            case "lease" -> w.settings.put(word, t.num(1, 60));
            case "cap" -> w.settings.put(word, t.num(1, 99));
            case "jitter" -> w.settings.put(word, t.num(0, 9));
            default -> w.settings.put(word, t.num(1, 9));
        }
    }

    private static void readLines(Toks t, World w) {
        if (t.over()) {
            return;
        }
        int lines = 0;
        do {
            if (lines == 14) {
                throw t.wrong();
            }
            readLine(t, w);
            lines++;
        } while (t.eat(";"));
        if (!t.over()) {
            throw t.wrong();
        }
    }

    private static String column(Toks t) {
        if (!Set.of("number", "group", "priority", "cost", "tries", "age", "late", "turn").contains(t.peek())) {
            throw t.wrong();
        }
        return t.all.get(t.i++).text();
    }

    private static Asked readQuery(Toks t) {
        int n = t.num("claim", 1, 6);
        List<Term> terms = new ArrayList<>();
        List<Key> keys = new ArrayList<>();
        if (t.eat("where")) {
            do {
                if (terms.size() == 4) {
                    throw t.wrong();
                }
                String column = column(t);
                if (!Set.of("=", "!", "<", ">").contains(t.peek())) {
                    throw t.wrong();
                }
                char sign = t.all.get(t.i++).text().charAt(0);
                terms.add(new Term(column, sign, t.num(0, 999)));
            } while (t.eat("and"));
        }
        if (t.eat("order")) {
            t.must("by");
            do {
                if (keys.size() == 4) {
                    throw t.wrong();
                }
                String column = column(t);
                keys.add(new Key(column, t.eat("desc")));
            } while (t.eat(","));
        }
        if (!t.over()) {
            throw t.wrong();
        }
        return new Asked(n, terms, keys);
    }

    // ---- the face ----

    World w = new World();
    World kept;
    StringBuilder tape = new StringBuilder();
    int fault = NONE;
    int why;

    public int feed(int a, int b, int c, int d, int e) {
        if (tape.length() > 380) {
            return NONE;
        }
        for (int n : new int[] {a, b, c, d, e}) {
            tape.append((char) (n >>> 24)).append((char) (n >>> 16 & 255)).append((char) (n >>> 8 & 255)).append((char) (n & 255));
        }
        return tape.length();
    }

    public boolean end(int n) {
        if (n < 0 || n > tape.length()) {
            return false;
        }
        tape.setLength(n);
        return true;
    }

    private Toks useTape() {
        Toks t = new Toks(tape.toString());
        tape.setLength(0);
        return t;
    }

    public int table() {
        Toks t = useTape();
        World next = w.copy();
        try {
            fault = NONE;
            readLines(t, next);
        } catch (Wrong wrong) {
            fault = wrong.at;
            throw new IllegalArgumentException();
        }
        if (w.texts == 12) {
            throw new UnsupportedOperationException();
        }
        w = next;
        return ++w.texts;
    }

    public int query(int session) {
        Toks t = useTape();
        needSession(session);
        try {
            fault = NONE;
            w.sessions.get(session).asked = readQuery(t);
        } catch (Wrong wrong) {
            fault = wrong.at;
            throw new IllegalArgumentException();
        }
        return w.sessions.get(session).asked.n();
    }

    public int fault() {
        return fault;
    }

    public int why() {
        return why;
    }

    private void needSession(int session) {
        if (session < 0 || session >= w.sessions.size()) {
            throw new IndexOutOfBoundsException();
        }
    }

    private Ver needJob(int session, int job) {
        if (session != NONE) {
            needSession(session);
        }
        Ver v = w.seen(job, session);
        if (v == null) {
            throw new IndexOutOfBoundsException();
        }
        return v;
    }

    private void tell(int reason) {
        why = reason;
        if (reason > 0) {
            throw new IllegalStateException();
        }
    }

    private Ses inTransaction(int session) {
        needSession(session);
        tell(w.sessions.get(session).open ? 0 : 1);
        return w.sessions.get(session);
    }

    public int begin(int session) {
        needSession(session);
        tell(w.sessions.get(session).open ? 1 : 0);
        w.sessions.get(session).open = true;
        return count(10);
    }

    public int save(int session) {
        needSession(session);
        Ses s = w.sessions.get(session);
        tell(!s.open || s.savepoints.size() == 4 ? 1 : 0);
        s.savepoints.add(copyOf(s.own));
        return s.savepoints.size() - 1;
    }

    public int undo(int session, int k) {
        needSession(session);
        Ses s = w.sessions.get(session);
        if (!s.open) {
            tell(1);
        }
        if (k < 0 || k >= s.savepoints.size()) {
            throw new IllegalArgumentException();
        }
        tell(0);
        int had = s.own.size();
        s.own = copyOf(s.savepoints.get(k));
        while (s.savepoints.size() > k + 1) {
            s.savepoints.remove(k + 1);
        }
        return had - s.own.size();
    }

    public int commit(int session) {
        inTransaction(session);
        return w.commit(session);
    }

    public int roll(int session) {
        inTransaction(session);
        return w.roll(session);
    }

    public int claim(int session) {
        needSession(session);
        int n = w.claim(session).size();
        w.endAct(session);
        return n;
    }

    private Ver held(int session, int job, int token) {
        needSession(session);
        Ver v = needJob(session, job);
        boolean so = v.state == 1 && v.token == token && v.holder == session;
        tell(w.foreign(job, session) ? 2 : !so ? 3 : v.until < w.mono ? 4 : 0);
        return w.lock(job, session);
    }

    public int renew(int session, int job, int token) {
        Ver v = held(session, job, token);
        v.until = w.mono + w.settings.get("lease");
        w.endAct(session);
        return v.until;
    }

    public int finish(int session, int job, int token) {
        Ver v = held(session, job, token);
        v.state = 2;
        w.endAct(session);
        return v.tries;
    }

    public int fail(int session, int job, int token, int cause) {
        needSession(session);
        needJob(session, job);
        if (cause < 0 || cause > 5) {
            throw new IllegalArgumentException();
        }
        Ver v = held(session, job, token);
        w.failed(job, v, cause);
        w.endAct(session);
        return v.state;
    }

    public int give(int session, int job, int token) {
        Ver v = held(session, job, token);
        v.state = 0;
        v.due = w.mono;
        w.endAct(session);
        return v.until - w.mono;
    }

    public int reap(int session) {
        needSession(session);
        int n = 0;
        for (int number : w.numbers()) {
            Ver v = w.seen(number, session);
            if (v != null && v.state == 1 && !w.foreign(number, session) && v.until < w.mono) {
                w.failed(number, w.lock(number, session), 6);
                n++;
            }
        }
        w.endAct(session);
        return n;
    }

    public int retry(int session, int job) {
        needSession(session);
        Ver v = needJob(session, job);
        tell(w.foreign(job, session) ? 2 : v.state != 3 ? 3 : 0);
        int tries = v.tries;
        Ver own = w.lock(job, session);
        own.state = 0;
        own.tries = 0;
        own.due = w.mono;
        w.endAct(session);
        return tries;
    }

    public int bring(int session, int group, int priority, int cost) {
        needSession(session);
        if (group < 0 || group > 5) {
            throw new IndexOutOfBoundsException();
        }
        if (priority < 0 || priority > 9 || cost < 1 || cost > 9) {
            throw new IllegalArgumentException();
        }
        if (w.numbers().size() >= 24) {
            throw new UnsupportedOperationException();
        }
        int number = w.came++;
        w.sessions.get(session).own.put(number, w.fresh(group, priority, cost));
        w.endAct(session);
        return number;
    }

    public int sweep() {
        int n = 0;
        for (int number : w.numbers()) {
            if (w.table.containsKey(number) && w.table.get(number).state == 2 && w.locker(number) == NONE) {
                w.table.remove(number);
                n++;
            }
        }
        w.swept += n;
        return n;
    }

    private static void within(int n, int low, int high) {
        if (n < low || n > high) {
            throw new IllegalArgumentException();
        }
    }

    private static int what(int what, int... answers) {
        if (what < 0 || what >= answers.length) {
            throw new NoSuchElementException();
        }
        return answers[what];
    }

    public int ticks(int n) {
        within(n, 1, 60);
        return w.tick(n);
    }

    public int jump(int n) {
        within(n, -300, 300);
        return w.leap(n);
    }

    public int job(int session, int job, int what) {
        Ver v = needJob(session, job);
        return what(what, v.group, v.priority, v.cost, v.state, v.born, v.due, v.tries, v.causes.size(), v.token,
            v.holder, v.until, v.schedule, v.slot);
    }

    public int cause(int session, int job, int k) {
        Ver v = needJob(session, job);
        return k < 0 || k >= v.causes.size() ? NONE : v.causes.get(k);
    }

    public int locked(int job) {
        needJob(NONE, job);
        return w.locker(job);
    }

    public int session(int session, int what) {
        needSession(session);
        Ses s = w.sessions.get(session);
        int holds = 0, over = 0, felt = 0, astray = 0;
        for (int number : w.numbers()) {
            Ver v = w.seen(number, session);
            if (v != null && v.state == 1 && v.holder == session) {
                boolean isOver = v.until < w.mono;
                boolean isFelt = v.until < w.mono + s.skew;
                holds++;
                over += isOver ? 1 : 0;
                felt += isFelt ? 1 : 0;
                astray += isOver ^ isFelt ? 1 : 0;
            }
        }
        return what(what, s.open ? 1 : 0, s.savepoints.size(), s.own.size(), s.skew, s.latest, s.asked.n(), holds, over, felt, astray);
    }

    public int plan(int schedule, int what) {
        if (schedule < 0 || schedule >= w.schedules.size()) {
            throw new IndexOutOfBoundsException();
        }
        Sch s = w.schedules.get(schedule);
        return what(what, s.every, s.at, s.kind, s.grace, s.slot, s.at + (s.slot + 1) * s.every);
    }

    public boolean may(int session, int job) {
        needSession(session);
        needJob(session, job);
        return w.bar(job, session) == 0;
    }

    public int next(int session, int k) {
        needSession(session);
        List<Integer> picks = w.copy().claim(session);
        return k < 0 || k >= picks.size() ? NONE : picks.get(k);
    }

    public int bar(int session, int job) {
        needSession(session);
        needJob(session, job);
        if (w.copy().claim(session).contains(job)) {
            return 0;
        }
        int bar = w.bar(job, session);
        return bar > 0 ? bar : w.fits(job, session) ? 7 : 6;
    }

    public int race(int session, int other) {
        needSession(session);
        needSession(other);
        if (session == other) {
            throw new IllegalArgumentException();
        }
        World one = w.copy();
        Set<Integer> firstOne = new HashSet<>(one.claim(session));
        Set<Integer> otherOne = new HashSet<>(one.claim(other));
        World two = w.copy();
        Set<Integer> otherTwo = new HashSet<>(two.claim(other));
        Set<Integer> firstTwo = new HashSet<>(two.claim(session));
        int n = 0;
        for (int number : w.numbers()) {
            boolean alike = firstOne.contains(number) == firstTwo.contains(number) && otherOne.contains(number) == otherTwo.contains(number);
            n += alike ? 0 : 1;
        }
        return n;
    }

    public int passed(int session, int job) {
        needSession(session);
        needJob(session, job);
        World trial = w.copy();
        for (int n = 0; ; n++) {
            Integer number = trial.choice(session);
            if (number == null) {
                return NONE;
            }
            if (number == job) {
                return n;
            }
            trial.take(number, session);
            trial.seen(number, session).state = 2;
        }
    }

    public int again(int session, int job, int k) {
        Ver v = needJob(session, job);
        if (v.state != 0 || k < 1) {
            return NONE;
        }
        World trial = w.copy();
        Ver sim = v.copy();
        for (int i = 1; ; i++) {
            trial.mono = Math.max(trial.mono, sim.due);
            if (i == k) {
                return trial.mono;
            }
            trial.failed(job, sim, 0);
            if (sim.state == 3) {
                return NONE;
            }
        }
    }

    public int would(int n, boolean jump) {
        within(n, 0, 60);
        return jump ? w.copy().leap(n) : w.copy().tick(n);
    }

    public int work(int n, int job) {
        within(n, 1, 4);
        if (job != NONE) {
            needJob(NONE, job);
        }
        Map<Integer, Integer> ends = new LinkedHashMap<>();
        Map<Integer, Integer> begins = new HashMap<>();
        TreeMap<Integer, Ver> left = new TreeMap<>(w.table);
        left.values().removeIf(v -> v.state > 1);
        int last = w.mono;
        for (int now = w.mono; !left.isEmpty(); now++) {
            int at = now;
            ends.values().removeIf(end -> end == at);
            boolean found = true;
            while (found && ends.size() < n) {
                found = false;
                for (int number : left.keySet()) {
                    Ver v = left.get(number);
                    int due = v.state == 1 ? w.mono : v.due;
                    boolean first = left.headMap(number).values().stream().noneMatch(o -> o.group == v.group);
                    long inWork = ends.keySet().stream().filter(o -> w.table.get(o).group == v.group).count();
                    if (due <= now && first && inWork < w.parallel[v.group]) {
                        begins.put(number, now);
                        ends.put(number, now + v.cost);
                        last = Math.max(last, now + v.cost);
                        left.remove(number);
                        found = true;
                        break;
                    }
                }
            }
        }
        return job == NONE ? last : begins.getOrDefault(job, NONE);
    }

    public int was(int job, int mono) {
        needJob(NONE, job);
        Row best = null;
        for (Row row : w.log) {
            if (row.number() == job && row.mono() <= mono && (best == null || row.mono() >= best.mono())) {
                best = row;
            }
        }
        return best == null || best.state() != 1 ? NONE : best.token();
    }

    public int longest() {
        int longest = 0;
        for (int i = 0; i < w.log.size(); i++) {
            Row row = w.log.get(i);
            Row next = w.log.subList(i + 1, w.log.size()).stream().filter(r -> r.number() == row.number()).findFirst().orElse(null);
            if (row.state() == 1 && next != null && next.token() == row.token()) {
                longest = Math.max(longest, next.mono() - row.mono());
            }
        }
        return longest;
    }

    public int overtaken(int group) {
        if (group < 0 || group > 5) {
            throw new IndexOutOfBoundsException();
        }
        int pairs = 0;
        Set<Integer> held = new HashSet<>();
        for (Row row : w.log) {
            Ver v = w.table.get(row.number());
            if (row.state() == 1 && held.add(row.number()) && v != null && v.group == group) {
                for (int lesser : w.table.headMap(row.number()).keySet()) {
                    pairs += w.table.get(lesser).group == group && !held.contains(lesser) ? 1 : 0;
                }
            }
        }
        return pairs;
    }

    public int alike(int job, int other) {
        Ver a = needJob(NONE, job);
        Ver b = needJob(NONE, other);
        if (job == other) {
            throw new IllegalArgumentException();
        }
        int n = 0;
        while (n < a.causes.size() && n < b.causes.size() && a.causes.get(n).equals(b.causes.get(n))) {
            n++;
        }
        return n;
    }

    public int root(int cause) {
        within(cause, 0, 6);
        int n = 0;
        for (Ver v : w.table.values()) {
            n += v.state == 3 && v.causes.get(v.causes.size() - 1) == cause ? 1 : 0;
        }
        return n;
    }

    public int find(int kind, int k) {
        if (kind < 0 || kind > 6) {
            throw new NoSuchElementException();
        }
        List<Integer> found = new ArrayList<>();
        for (int number : w.numbers()) {
            Ver v = w.table.get(number);
            boolean is = switch (kind) {
                case 4 -> w.locker(number) != NONE;
                case 5 -> v != null && v.state == 0 && v.due <= w.mono;
                case 6 -> v != null && v.state == 1 && v.until < w.mono;
                default -> v != null && v.state == kind;
            };
            if (is) {
                found.add(number);
            }
        }
        return k < 0 || k >= found.size() ? NONE : found.get(k);
    }

    public int log(int ago, int what) {
        if (what < 0 || what > 4) {
            throw new NoSuchElementException();
        }
        if (ago < 0 || ago >= w.log.size()) {
            return NONE;
        }
        Row row = w.log.get(w.log.size() - 1 - ago);
        return what(what, row.mono(), row.number(), row.state(), row.token(), row.holder());
    }

    public void image() {
        kept = w.copy();
    }

    public boolean back() {
        if (kept == null) {
            return false;
        }
        w = kept.copy();
        return true;
    }

    public int count(int what) {
        int open = 0;
        int locks = 0;
        for (Ses s : w.sessions) {
            open += s.open ? 1 : 0;
            locks += s.own.size();
        }
        int[] all = {w.table.size(), w.sessions.size(), w.schedules.size(), w.texts, w.mono, w.wall, w.tokens, w.came,
            w.missed, w.swept, open, locks, w.settings.get("lease"), w.settings.get("base"), w.settings.get("cap"),
            w.settings.get("jitter"), w.settings.get("limit"), w.log.size()};
        return what < 0 || what >= all.length ? NONE : all[what];
    }
}
