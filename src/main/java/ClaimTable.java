import java.util.NoSuchElementException;

/** A queue of jobs kept in a table. What each call does and answers stands in ../shared/DOC.md. */
public final class ClaimTable {
    public static final int NONE = -1;

    private static final int MOST_TEXTS = 12;
    private static final int MOST_JOBS = 24;
    private static final int MOST_SESSIONS = 4;
    private static final int MOST_SCHEDULES = 4;
    private static final int MOST_SAVEPOINTS = 4;
    private static final int MOST_CLAIMS = 6;
    private static final int MOST_HANDS = 4;
    private static final int MOST_TICKS = 60;
    private static final int LONGEST_JUMP = 300;
    private static final int LAST_TIME = 9999;
    private static final int GROUPS = 6;

    private static final int WAITING = 0;
    private static final int HELD = 1;
    private static final int DONE = 2;
    private static final int SET_ASIDE = 3;

    private static final int WELL = 0;
    private static final int WRONG_TRANSACTION = 1;
    private static final int LOCKED_BY_OTHER = 2;
    private static final int NOT_SO = 3;
    private static final int TOO_LATE = 4;

    private static final int FATAL_CAUSE = 5;
    private static final int REAPED_CAUSE = 6;

    private static final int LEASE = 0;
    private static final int BASE = 1;
    private static final int CAP = 2;
    private static final int JITTER = 3;
    private static final int LIMIT = 4;

    private final Tape tape = new Tape();
    private final Query draft = new Query();
    private final Claims claims = new Claims();
    private final Table kept = new Table();
    private Table live = new Table();
    // What is only tried out, or may prove wrong, happens in a copy.
    private Table spare = new Table();
    private boolean hasImage;
    private int why;

    public ClaimTable() {
    }

    // ---- texts ----

    public int feed(int a, int b, int c, int d, int e) {
        if (!tape.hasRoom()) {
            return NONE;
        }
        tape.append(a);
        tape.append(b);
        tape.append(c);
        tape.append(d);
        tape.append(e);
        return tape.length;
    }

    public boolean end(int n) {
        if (n < 0 || n > tape.length) {
            return false;
        }
        tape.length = n;
        return true;
    }

    public int table() throws IllegalArgumentException, UnsupportedOperationException {
        tape.useUp();
        spare.copyFrom(live);
        if (!TableText.readInto(spare, tape)) {
            throw new IllegalArgumentException();
        }
        if (live.texts >= MOST_TEXTS) {
            throw new UnsupportedOperationException();
        }
        Table old = live;
        live = spare;
        spare = old;
        live.texts++;
        return live.texts;
    }

    public int query(int session) throws IndexOutOfBoundsException, IllegalArgumentException {
        tape.useUp();
        needSession(session);
        if (!draft.readFrom(tape)) {
            throw new IllegalArgumentException();
        }
        live.sessions[session].query.copyFrom(draft);
        return draft.times;
    }

    public int fault() {
        return tape.wrong;
    }

    public int why() {
        return why;
    }

    // ---- transactions ----

    public int begin(int session) throws IndexOutOfBoundsException, IllegalStateException {
        needSession(session);
        settle(live.sessions[session].open ? WRONG_TRANSACTION : WELL);
        live.sessions[session].open = true;
        return live.openTransactions();
    }

    public int save(int session) throws IndexOutOfBoundsException, IllegalStateException {
        needSession(session);
        Session owner = live.sessions[session];
        settle(owner.open && owner.savepoints < MOST_SAVEPOINTS ? WELL : WRONG_TRANSACTION);
        live.keepSavepoint(session);
        return owner.savepoints - 1;
    }

    public int undo(int session, int k)
            throws IndexOutOfBoundsException, IllegalStateException, IllegalArgumentException {
        needSession(session);
        Session owner = live.sessions[session];
        if (owner.open && (k < 0 || k >= owner.savepoints)) {
            throw new IllegalArgumentException();
        }
        settleOpen(session);
        return live.returnToSavepoint(session, k);
    }

    public int commit(int session) throws IndexOutOfBoundsException, IllegalStateException {
        needSession(session);
        settleOpen(session);
        return live.commitAll(session);
    }

    public int roll(int session) throws IndexOutOfBoundsException, IllegalStateException {
        needSession(session);
        settleOpen(session);
        return live.rollAll(session);
    }

    // ---- acts ----

    public int claim(int session) throws IndexOutOfBoundsException {
        needSession(session);
        claims.claimAll(live, session);
        live.closeAct(session);
        return claims.picked;
    }

    public int renew(int session, int job, int token)
            throws IndexOutOfBoundsException, IllegalStateException {
        Version own = lockHeld(session, job, token);
        own.until = live.mono + live.settings[LEASE];
        live.closeAct(session);
        return own.until;
    }

    public int finish(int session, int job, int token)
            throws IndexOutOfBoundsException, IllegalStateException {
        Version own = lockHeld(session, job, token);
        own.state = DONE;
        live.closeAct(session);
        return own.tries;
    }

    public int fail(int session, int job, int token, int cause)
            throws IndexOutOfBoundsException, IllegalArgumentException, IllegalStateException {
        needSession(session);
        needJob(session, job);
        if (cause < 0 || cause > FATAL_CAUSE) {
            throw new IllegalArgumentException();
        }
        Version own = lockHeld(session, job, token);
        live.recordFailure(own, job, cause);
        live.closeAct(session);
        return own.state;
    }

    public int give(int session, int job, int token) throws IndexOutOfBoundsException, IllegalStateException {
        Version own = lockHeld(session, job, token);
        own.state = WAITING;
        own.due = live.mono;
        live.closeAct(session);
        return own.until - live.mono;
    }

    public int reap(int session) throws IndexOutOfBoundsException {
        needSession(session);
        int reaped = live.reapLate(session);
        live.closeAct(session);
        return reaped;
    }

    public int retry(int session, int job) throws IndexOutOfBoundsException, IllegalStateException {
        needSession(session);
        Job row = needJob(session, job);
        settle(whyNotSetAside(row, session));
        Version own = row.lockFor(session);
        int tries = own.tries;
        own.state = WAITING;
        own.tries = 0;
        own.due = live.mono;
        live.closeAct(session);
        return tries;
    }

    public int bring(int session, int group, int priority, int cost)
            throws IndexOutOfBoundsException, IllegalArgumentException, UnsupportedOperationException {
        needSession(session);
        needGroup(group);
        if (priority < 0 || priority > 9 || cost < 1 || cost > 9) {
            throw new IllegalArgumentException();
        }
        Job row = live.addJob(group, priority, cost);
        if (row == null) {
            throw new UnsupportedOperationException();
        }
        row.ownBy(session);
        live.closeAct(session);
        return row.number;
    }

    public int sweep() {
        return live.sweepDone();
    }

    // ---- clocks ----

    public int ticks(int n) throws IllegalArgumentException {
        if (n < 1 || n > MOST_TICKS) {
            throw new IllegalArgumentException();
        }
        return live.tickTimes(n);
    }

    public int jump(int n) throws IllegalArgumentException {
        if (n < -LONGEST_JUMP || n > LONGEST_JUMP) {
            throw new IllegalArgumentException();
        }
        return live.jumpBy(n);
    }

    // ---- what there is ----

    public int job(int session, int job, int what) throws IndexOutOfBoundsException, NoSuchElementException {
        needViewer(session);
        Job row = needJob(session, job);
        Version seen = row.seenBy(session);
        switch (what) {
            case 0: return row.group;
            case 1: return row.priority;
            case 2: return row.cost;
            case 3: return seen.state;
            case 4: return row.born;
            case 5: return seen.due;
            case 6: return seen.tries;
            case 7: return seen.causeCount;
            case 8: return seen.token;
            case 9: return seen.holder;
            case 10: return seen.until;
            case 11: return row.schedule;
            case 12: return row.slot;
            default: throw new NoSuchElementException();
        }
    }

    public int cause(int session, int job, int k) throws IndexOutOfBoundsException {
        needViewer(session);
        return needJob(session, job).seenBy(session).causeAt(k);
    }

    public int locked(int job) throws IndexOutOfBoundsException {
        return needJob(NONE, job).locker;
    }

    public int session(int session, int what) throws IndexOutOfBoundsException, NoSuchElementException {
        needSession(session);
        Session asked = live.sessions[session];
        switch (what) {
            case 0: return asked.open ? 1 : 0;
            case 1: return asked.savepoints;
            case 2: return live.lockedBy(session);
            case 3: return asked.skew;
            case 4: return asked.latest;
            case 5: return asked.query.times;
            case 6: return live.holds(session, Table.ALL_HOLDS);
            case 7: return live.holds(session, Table.OVER_HOLDS);
            case 8: return live.holds(session, Table.FELT_HOLDS);
            case 9: return live.holds(session, Table.ASTRAY_HOLDS);
            default: throw new NoSuchElementException();
        }
    }

    public int plan(int schedule, int what) throws IndexOutOfBoundsException, NoSuchElementException {
        if (schedule < 0 || schedule >= live.scheduleCount) {
            throw new IndexOutOfBoundsException();
        }
        Schedule asked = live.schedules[schedule];
        switch (what) {
            case 0: return asked.every;
            case 1: return asked.at;
            case 2: return asked.kind;
            case 3: return asked.grace;
            case 4: return asked.slot;
            case 5: return asked.timeOf(asked.slot + 1);
            default: throw new NoSuchElementException();
        }
    }

    // ---- what would be ----

    public boolean may(int session, int job) throws IndexOutOfBoundsException {
        needSession(session);
        return Claims.hindrance(live, needJob(session, job), session) == Claims.UNHINDERED;
    }

    public int next(int session, int k) throws IndexOutOfBoundsException {
        needSession(session);
        spare.copyFrom(live);
        claims.claimAll(spare, session);
        return claims.pickAt(k);
    }

    public int bar(int session, int job) throws IndexOutOfBoundsException {
        needSession(session);
        Job row = needJob(session, job);
        spare.copyFrom(live);
        claims.claimAll(spare, session);
        return claims.hasPicked(job) ? Claims.UNHINDERED : Claims.barOfUnclaimed(live, row, session);
    }

    public int race(int session, int other) throws IndexOutOfBoundsException, IllegalArgumentException {
        needSession(session);
        needSession(other);
        if (session == other) {
            throw new IllegalArgumentException();
        }
        claims.startRace();
        tryBoth(session, other);
        claims.turnRace();
        tryBoth(other, session);
        return claims.unlikeTakers();
    }

    public int passed(int session, int job) throws IndexOutOfBoundsException {
        needSession(session);
        needJob(session, job);
        spare.copyFrom(live);
        return Claims.claimedAhead(spare, session, job);
    }

    public int again(int session, int job, int k) throws IndexOutOfBoundsException {
        needViewer(session);
        Job row = needJob(session, job);
        return live.tryTime(row.seenBy(session), job, k);
    }

    public int would(int n, boolean jump) throws IllegalArgumentException {
        if (n < 0 || n > MOST_TICKS) {
            throw new IllegalArgumentException();
        }
        spare.copyFrom(live);
        return jump ? spare.jumpBy(n) : spare.tickTimes(n);
    }

    public int work(int n, int job) throws IllegalArgumentException, IndexOutOfBoundsException {
        if (n < 1 || n > MOST_HANDS) {
            throw new IllegalArgumentException();
        }
        if (job != NONE) {
            needJob(NONE, job);
        }
        spare.copyFrom(live);
        return Work.timeOf(spare, n, job);
    }

    // ---- what was ----

    public int was(int job, int mono) throws IndexOutOfBoundsException {
        needJob(NONE, job);
        return live.log.tokenAt(job, mono);
    }

    public int longest() {
        return live.log.longestHold();
    }

    public int overtaken(int group) throws IndexOutOfBoundsException {
        needGroup(group);
        return live.overtakenPairs(group);
    }

    public int alike(int job, int other) throws IndexOutOfBoundsException, IllegalArgumentException {
        Version one = needJob(NONE, job).base;
        Version two = needJob(NONE, other).base;
        if (job == other) {
            throw new IllegalArgumentException();
        }
        return one.causesLike(two);
    }

    public int root(int cause) throws IllegalArgumentException {
        if (cause < 0 || cause > REAPED_CAUSE) {
            throw new IllegalArgumentException();
        }
        return live.setAsideFrom(cause);
    }

    public int find(int kind, int k) throws NoSuchElementException {
        if (kind < 0 || kind > Table.FIND_LATE) {
            throw new NoSuchElementException();
        }
        return live.numberFound(kind, k);
    }

    public int log(int ago, int what) throws NoSuchElementException {
        if (what < 0 || what >= Log.WIDTH) {
            throw new NoSuchElementException();
        }
        return ago < 0 ? NONE : live.log.cell(live.log.size - 1 - ago, what);
    }

    // ---- all at once ----

    public void image() {
        kept.copyFrom(live);
        hasImage = true;
    }

    public boolean back() {
        if (!hasImage) {
            return false;
        }
        live.copyFrom(kept);
        return true;
    }

    public int count(int what) {
        switch (what) {
            case 0: return live.storedJobs();
            case 1: return live.sessionCount;
            case 2: return live.scheduleCount;
            case 3: return live.texts;
            case 4: return live.mono;
            case 5: return live.wall;
            case 6: return live.tokens;
            case 7: return live.came;
            case 8: return live.missed;
            case 9: return live.swept;
            case 10: return live.openTransactions();
            case 11: return live.lockedJobs();
            case 12: return live.settings[LEASE];
            case 13: return live.settings[BASE];
            case 14: return live.settings[CAP];
            case 15: return live.settings[JITTER];
            case 16: return live.settings[LIMIT];
            case 17: return live.log.size;
            default: return NONE;
        }
    }

    // ---- what calls need ----

    private void needSession(int session) {
        if (session < 0 || session >= live.sessionCount) {
            throw new IndexOutOfBoundsException();
        }
    }

    /** NONE looks at THE TABLE itself. */
    private void needViewer(int session) {
        if (session != NONE) {
            needSession(session);
        }
    }

    private void needGroup(int group) {
        if (group < 0 || group >= GROUPS) {
            throw new IndexOutOfBoundsException();
        }
    }

    private Job needJob(int session, int number) {
        Job row = live.jobSeen(number, session);
        if (row == null) {
            throw new IndexOutOfBoundsException();
        }
        return row;
    }

    private void tryBoth(int first, int second) {
        spare.copyFrom(live);
        claims.claimAll(spare, first);
        claims.claimAll(spare, second);
    }

    private void settle(int reason) {
        why = reason;
        if (reason != WELL) {
            throw new IllegalStateException();
        }
    }

    private void settleOpen(int session) {
        settle(live.sessions[session].open ? WELL : WRONG_TRANSACTION);
    }

    private Version lockHeld(int session, int number, int token) {
        needSession(session);
        Job row = needJob(session, number);
        settle(whyNotHeld(row, session, token));
        return row.lockFor(session);
    }

    private int whyNotHeld(Job row, int session, int token) {
        Version seen = row.seenBy(session);
        if (row.isLockedByOther(session)) {
            return LOCKED_BY_OTHER;
        }
        if (seen.state != HELD || seen.token != token || seen.holder != session) {
            return NOT_SO;
        }
        return seen.until < live.mono ? TOO_LATE : WELL;
    }

    private static int whyNotSetAside(Job row, int session) {
        if (row.isLockedByOther(session)) {
            return LOCKED_BY_OTHER;
        }
        return row.seenBy(session).state == SET_ASIDE ? WELL : NOT_SO;
    }

    /**
     * The TAPE, and the reading of what it had when it was last used up. Behind the first wrong
     * thing all that is read is refused, so that readers need not ask after each word.
     */
    private static final class Tape {
        private static final int SIZE = 400;
        private static final int FEED_BYTES = 20;
        private static final int MOST_DIGITS = 3;

        private final byte[] bytes = new byte[SIZE];
        private int length;
        private int textLength;
        private int place;
        private int wrong = NONE;

        boolean hasRoom() {
            return length + FEED_BYTES <= SIZE;
        }

        void append(int number) {
            for (int shift = 24; shift >= 0 && length < SIZE; shift -= 8) {
                bytes[length] = (byte) (number >> shift);
                length++;
            }
        }

        void useUp() {
            textLength = length;
            length = 0;
        }

        void startReading() {
            wrong = NONE;
            moveTo(0);
        }

        boolean isRight() {
            return wrong == NONE;
        }

        boolean isAtEnd() {
            return place >= textLength;
        }

        void refuse() {
            if (wrong == NONE) {
                wrong = place;
            }
        }

        void needEnd() {
            if (!isAtEnd()) {
                refuse();
            }
        }

        boolean takeSign(char sign) {
            if (wrong != NONE || byteAt(place) != sign) {
                return false;
            }
            moveTo(place + 1);
            return true;
        }

        boolean takeWord(String word) {
            if (wrong != NONE) {
                return false;
            }
            for (int i = 0; i < word.length(); i++) {
                if (byteAt(place + i) != word.charAt(i)) {
                    return false;
                }
            }
            int after = byteAt(place + word.length());
            if (after >= 'a' && after <= 'z') {
                return false;
            }
            moveTo(place + word.length());
            return true;
        }

        int number(int least, int most) {
            int value = 0;
            int digits = 0;
            int found = byteAt(place);
            // One digit more than may be tells of a number that is too long.
            while (digits <= MOST_DIGITS && found >= '0' && found <= '9') {
                value = value * 10 + found - '0';
                digits++;
                found = byteAt(place + digits);
            }
            boolean stands = digits >= 1 && digits <= MOST_DIGITS && value >= least && value <= most;
            if (wrong != NONE || !stands) {
                refuse();
                return NONE;
            }
            moveTo(place + digits);
            return value;
        }

        int numberBehind(String word, int least, int most) {
            if (!takeWord(word)) {
                refuse();
            }
            return number(least, most);
        }

        /** The place is never at a blank, so that a refused thing begins at it. */
        private void moveTo(int there) {
            place = there;
            while (place < textLength && place < SIZE && bytes[place] == ' ') {
                place++;
            }
        }

        private int byteAt(int at) {
            return at < 0 || at >= textLength || at >= SIZE ? NONE : bytes[at] & 255;
        }
    }

    /** Reads a text of THE TABLE into a table that is thrown away if the text is wrong. */
    private static final class TableText {
        private static final int MOST_LINES = 14;

        static boolean readInto(Table table, Tape tape) {
            tape.startReading();
            if (tape.isAtEnd()) {
                return true;
            }
            for (int line = 0; line < MOST_LINES; line++) {
                readLine(table, tape);
                if (!tape.takeSign(';')) {
                    tape.needEnd();
                    return tape.isRight();
                }
            }
            tape.refuse();
            return false;
        }

        /** The word of a thing that is one too many is not taken, and so refused at its begin. */
        private static void readLine(Table table, Tape tape) {
            if (table.size < MOST_JOBS && tape.takeWord("job")) {
                readJob(table, tape);
            } else if (table.sessionCount < MOST_SESSIONS && tape.takeWord("session")) {
                readSession(table, tape);
            } else if (table.scheduleCount < MOST_SCHEDULES && tape.takeWord("every")) {
                readSchedule(table, tape);
            } else if (tape.takeWord("parallel")) {
                readParallel(table, tape);
            } else {
                readSetting(table, tape);
            }
        }

        private static void readJob(Table table, Tape tape) {
            int group = tape.numberBehind("group", 0, GROUPS - 1);
            int priority = tape.numberBehind("priority", 0, 9);
            int cost = tape.numberBehind("cost", 1, 9);
            int wait = tape.takeWord("in") ? tape.number(0, 99) : 0;
            if (!tape.isRight()) {
                return;
            }
            Job row = table.addJob(group, priority, cost);
            if (row != null) {
                row.base.due = table.mono + wait;
            }
        }

        private static void readSession(Table table, Tape tape) {
            int skew = 0;
            if (tape.takeWord("skew")) {
                skew = tape.number(0, 9);
            } else if (tape.takeWord("slow")) {
                skew = -tape.number(0, 9);
            }
            if (tape.isRight()) {
                table.addSession(skew);
            }
        }

        private static void readSchedule(Table table, Tape tape) {
            Schedule added = table.schedules[table.scheduleCount];
            added.every = tape.number(1, 60);
            added.at = tape.numberBehind("at", 0, 59);
            added.group = tape.numberBehind("group", 0, GROUPS - 1);
            added.priority = tape.numberBehind("priority", 0, 9);
            added.cost = tape.numberBehind("cost", 1, 9);
            added.kind = Schedule.ONCE;
            added.grace = 0;
            if (tape.takeWord("each")) {
                added.kind = Schedule.EACH;
            } else if (tape.takeWord("grace")) {
                added.kind = Schedule.IN_GRACE;
                added.grace = tape.number(0, 9);
            }
            if (tape.isRight()) {
                added.slot = added.slotOf(table.wall);
                table.scheduleCount++;
            }
        }

        private static void readParallel(Table table, Tape tape) {
            int group = tape.number(0, GROUPS - 1);
            int parallel = tape.number(1, 4);
            if (tape.isRight()) {
                table.parallel[group] = parallel;
            }
        }

        private static void readSetting(Table table, Tape tape) {
            if (tape.takeWord("lease")) {
                table.settings[LEASE] = tape.number(1, 60);
            } else if (tape.takeWord("base")) {
                table.settings[BASE] = tape.number(1, 9);
            } else if (tape.takeWord("cap")) {
                table.settings[CAP] = tape.number(1, 99);
            } else if (tape.takeWord("jitter")) {
                table.settings[JITTER] = tape.number(0, 9);
            } else if (tape.takeWord("limit")) {
                table.settings[LIMIT] = tape.number(1, 9);
            } else {
                tape.refuse();
            }
        }
    }

    /** A QUERY: how many times it claims, its T (terms) and its K (keys). */
    private static final class Query {
        private static final int MOST_TERMS = 4;
        private static final int MOST_KEYS = 4;
        private static final int HIGHEST_NUMBER = 999;

        private static final int NUMBER = 0;
        private static final int GROUP = 1;
        private static final int PRIORITY = 2;
        private static final int COST = 3;
        private static final int TRIES = 4;
        private static final int AGE = 5;
        private static final int LATE = 6;
        private static final int TURN = 7;

        private final int[] termColumns = new int[MOST_TERMS];
        private final char[] termSigns = new char[MOST_TERMS];
        private final int[] termNumbers = new int[MOST_TERMS];
        private final int[] keyColumns = new int[MOST_KEYS];
        private final boolean[] keysDescend = new boolean[MOST_KEYS];
        private int times = 1;
        private int terms;
        private int keys;

        void clear() {
            times = 1;
            terms = 0;
            keys = 0;
        }

        void copyFrom(Query from) {
            times = from.times;
            terms = from.terms;
            keys = from.keys;
            for (int i = 0; i < terms && i < MOST_TERMS; i++) {
                termColumns[i] = from.termColumns[i];
                termSigns[i] = from.termSigns[i];
                termNumbers[i] = from.termNumbers[i];
            }
            for (int i = 0; i < keys && i < MOST_KEYS; i++) {
                keyColumns[i] = from.keyColumns[i];
                keysDescend[i] = from.keysDescend[i];
            }
        }

        boolean readFrom(Tape tape) {
            clear();
            tape.startReading();
            times = tape.numberBehind("claim", 1, MOST_CLAIMS);
            if (tape.takeWord("where")) {
                readTerms(tape);
            }
            if (tape.takeWord("order")) {
                readKeys(tape);
            }
            tape.needEnd();
            return tape.isRight();
        }

        private void readTerms(Tape tape) {
            for (int i = 0; i < MOST_TERMS; i++) {
                termColumns[i] = readColumn(tape);
                termSigns[i] = readSign(tape);
                termNumbers[i] = tape.number(0, HIGHEST_NUMBER);
                terms = i + 1;
                if (!tape.takeWord("and")) {
                    return;
                }
            }
            tape.refuse();
        }

        private void readKeys(Tape tape) {
            if (!tape.takeWord("by")) {
                tape.refuse();
            }
            for (int i = 0; i < MOST_KEYS; i++) {
                keyColumns[i] = readColumn(tape);
                keysDescend[i] = tape.takeWord("desc");
                keys = i + 1;
                if (!tape.takeSign(',')) {
                    return;
                }
            }
            tape.refuse();
        }

        private static char readSign(Tape tape) {
            if (tape.takeSign('=')) {
                return '=';
            }
            if (tape.takeSign('!')) {
                return '!';
            }
            if (tape.takeSign('<')) {
                return '<';
            }
            if (!tape.takeSign('>')) {
                tape.refuse();
            }
            return '>';
        }

        private static int readColumn(Tape tape) {
            if (tape.takeWord("number")) {
                return NUMBER;
            }
            if (tape.takeWord("group")) {
                return GROUP;
            }
            if (tape.takeWord("priority")) {
                return PRIORITY;
            }
            if (tape.takeWord("cost")) {
                return COST;
            }
            if (tape.takeWord("tries")) {
                return TRIES;
            }
            if (tape.takeWord("age")) {
                return AGE;
            }
            if (tape.takeWord("late")) {
                return LATE;
            }
            if (!tape.takeWord("turn")) {
                tape.refuse();
            }
            return TURN;
        }

        boolean fits(Table table, Job row, int session) {
            for (int i = 0; i < terms && i < MOST_TERMS; i++) {
                int found = valueOf(termColumns[i], table, row, session);
                if (!isSo(found, termSigns[i], termNumbers[i])) {
                    return false;
                }
            }
            return true;
        }

        private static boolean isSo(int found, char sign, int number) {
            if (sign == '=') {
                return found == number;
            }
            if (sign == '!') {
                return found != number;
            }
            return sign == '<' ? found < number : found > number;
        }

        /** Whether the keys put one job ahead of another; where they do not tell, the answer is no. */
        boolean putsAhead(Table table, Job one, Job other, int session) {
            for (int i = 0; i < keys && i < MOST_KEYS; i++) {
                int mine = valueOf(keyColumns[i], table, one, session);
                int theirs = valueOf(keyColumns[i], table, other, session);
                if (mine != theirs) {
                    return keysDescend[i] ? mine > theirs : mine < theirs;
                }
            }
            return false;
        }

        private static int valueOf(int column, Table table, Job row, int session) {
            Version seen = row.seenBy(session);
            switch (column) {
                case NUMBER: return row.number;
                case GROUP: return row.group;
                case PRIORITY: return row.priority;
                case COST: return row.cost;
                case TRIES: return seen.tries;
                case AGE: return table.mono - row.born;
                case LATE: return table.mono - seen.due;
                default: return Math.floorMod(row.group - table.sessions[session].latest - 1, GROUPS);
            }
        }
    }

    /** What of a JOB may differ between THE TABLE and the SESSION that LOCKED it. */
    private static final class Version {
        private static final int MOST_CAUSES = 9;
        private static final int CAUSE_BITS = 3;
        private static final int ONE_CAUSE = 7;
        private static final int ALL_CAUSES = (1 << MOST_CAUSES * CAUSE_BITS) - 1;

        private int state;
        private int due;
        private int tries;
        private int causeCount;
        // Three bits a cause, the latest the lowest, so that a copy costs one number.
        private int causeBits;
        private int token;
        private int holder;
        private int until;

        void startAt(int mono) {
            state = WAITING;
            due = mono;
            tries = 0;
            causeCount = 0;
            causeBits = 0;
            token = 0;
            holder = NONE;
            until = 0;
        }

        void copyFrom(Version from) {
            state = from.state;
            due = from.due;
            tries = from.tries;
            causeCount = from.causeCount;
            causeBits = from.causeBits;
            token = from.token;
            holder = from.holder;
            until = from.until;
        }

        void addCause(int cause) {
            causeBits = (causeBits << CAUSE_BITS | cause) & ALL_CAUSES;
            causeCount = Math.min(causeCount + 1, MOST_CAUSES);
        }

        int causeAt(int k) {
            return k < 0 || k >= causeCount ? NONE : causeBits >> k * CAUSE_BITS & ONE_CAUSE;
        }

        int causesLike(Version other) {
            int most = Math.min(causeCount, other.causeCount);
            for (int k = 0; k < most; k++) {
                if (causeAt(k) != other.causeAt(k)) {
                    return k;
                }
            }
            return most;
        }
    }

    /**
     * A JOB, of THE TABLE (stored) or brought and not yet committed. Only one SESSION can have it
     * LOCKED, so one version of its own, and one for each SAVEPOINT, is enough for all of them.
     */
    private static final class Job {
        private final Version base = new Version();
        private final Version own = new Version();
        private final Version[] saved = new Version[MOST_SAVEPOINTS];
        private int savedBits;
        private int locker = NONE;
        private boolean stored;
        private int number;
        private int group;
        private int priority;
        private int cost;
        private int born;
        private int schedule;
        private int slot;

        Job() {
            for (int k = 0; k < saved.length; k++) {
                saved[k] = new Version();
            }
        }

        void copyFrom(Job from) {
            number = from.number;
            group = from.group;
            priority = from.priority;
            cost = from.cost;
            born = from.born;
            schedule = from.schedule;
            slot = from.slot;
            stored = from.stored;
            locker = from.locker;
            savedBits = from.savedBits;
            base.copyFrom(from.base);
            if (locker == NONE) {
                return;
            }
            own.copyFrom(from.own);
            for (int k = 0; k < saved.length; k++) {
                if (from.isSavedAt(k)) {
                    saved[k].copyFrom(from.saved[k]);
                }
            }
        }

        boolean isLockedBy(int session) {
            return locker != NONE && locker == session;
        }

        boolean isLockedByOther(int session) {
            return locker != NONE && locker != session;
        }

        boolean isSeenBy(int session) {
            return stored || locker != NONE && locker == session;
        }

        Version seenBy(int session) {
            return locker != NONE && locker == session ? own : base;
        }

        Version lockFor(int session) {
            if (locker == NONE) {
                own.copyFrom(base);
                savedBits = 0;
                locker = session;
            }
            return own;
        }

        /** A new one is seen by the session that brought it alone. */
        void ownBy(int session) {
            lockFor(session);
            stored = false;
        }

        void saveAt(int k) {
            if (k >= 0 && k < saved.length) {
                saved[k].copyFrom(own);
                savedBits |= 1 << k;
            }
        }

        boolean isSavedAt(int k) {
            return k >= 0 && k < saved.length && (savedBits >> k & 1) == 1;
        }

        void returnTo(int k) {
            if (k >= 0 && k < saved.length) {
                own.copyFrom(saved[k]);
            }
        }

        void store() {
            base.copyFrom(own);
            stored = true;
            locker = NONE;
        }
    }

    private static final class Session {
        private static final int FIRST_LATEST = 5;

        private final Query query = new Query();
        private int skew;
        private int latest;
        private boolean open;
        private int savepoints;

        void start(int itsSkew) {
            query.clear();
            skew = itsSkew;
            latest = FIRST_LATEST;
            close();
        }

        void close() {
            open = false;
            savepoints = 0;
        }

        void copyFrom(Session from) {
            query.copyFrom(from.query);
            skew = from.skew;
            latest = from.latest;
            open = from.open;
            savepoints = from.savepoints;
        }
    }

    private static final class Schedule {
        private static final int ONCE = 0;
        private static final int EACH = 1;
        private static final int IN_GRACE = 2;
        private static final int MOST_AT_ONCE = 5;

        private int every = 1;
        private int at;
        private int group;
        private int priority;
        private int cost;
        private int kind;
        private int grace;
        private int slot;

        void copyFrom(Schedule from) {
            every = from.every;
            at = from.at;
            group = from.group;
            priority = from.priority;
            cost = from.cost;
            kind = from.kind;
            grace = from.grace;
            slot = from.slot;
        }

        int slotOf(int time) {
            return time < at || every < 1 ? NONE : (time - at) / every;
        }

        int timeOf(int itsSlot) {
            return at + itsSlot * every;
        }

        /** The first of the slots up to the last passed one that fires; one behind it if none does. */
        int firstToFire(int last, int wall) {
            switch (kind) {
                case EACH: return Math.max(slot + 1, last - MOST_AT_ONCE + 1);
                case IN_GRACE: return wall - timeOf(last) <= grace ? last : last + 1;
                default: return last;
            }
        }
    }

    /** THE LOG, a ring of its latest rows; places count from the eldest one, 0. */
    private static final class Log {
        private static final int MOST_ROWS = 60;
        private static final int WIDTH = 5;

        private static final int MONO = 0;
        private static final int NUMBER = 1;
        private static final int STATE = 2;
        private static final int TOKEN = 3;
        private static final int HOLDER = 4;

        private final int[] cells = new int[MOST_ROWS * WIDTH];
        private int first;
        private int size;

        void copyFrom(Log from) {
            System.arraycopy(from.cells, 0, cells, 0, cells.length);
            first = from.first;
            size = from.size;
        }

        void add(int mono, Job row) {
            int at = (first + size) % MOST_ROWS * WIDTH;
            cells[at + MONO] = mono;
            cells[at + NUMBER] = row.number;
            cells[at + STATE] = row.own.state;
            cells[at + TOKEN] = row.own.token;
            cells[at + HOLDER] = row.own.holder;
            if (size < MOST_ROWS) {
                size++;
            } else {
                first = (first + 1) % MOST_ROWS;
            }
        }

        int cell(int place, int what) {
            if (place < 0 || place >= size || what < 0 || what >= WIDTH) {
                return NONE;
            }
            return cells[(first + place) % MOST_ROWS * WIDTH + what];
        }

        private boolean isHeldOf(int place, int number) {
            return cell(place, NUMBER) == number && cell(place, STATE) == HELD;
        }

        int tokenAt(int number, int mono) {
            for (int place = size - 1; place >= 0; place--) {
                if (cell(place, NUMBER) == number && cell(place, MONO) <= mono) {
                    return cell(place, STATE) == HELD ? cell(place, TOKEN) : NONE;
                }
            }
            return NONE;
        }

        int longestHold() {
            int longest = 0;
            for (int place = 0; place < size; place++) {
                if (cell(place, STATE) == HELD) {
                    longest = Math.max(longest, holdFrom(place));
                }
            }
            return longest;
        }

        private int holdFrom(int place) {
            for (int later = place + 1; later < size; later++) {
                if (cell(later, NUMBER) == cell(place, NUMBER)) {
                    boolean same = cell(later, TOKEN) == cell(place, TOKEN);
                    return same ? cell(later, MONO) - cell(place, MONO) : 0;
                }
            }
            return 0;
        }

        int firstHold(int number) {
            for (int place = 0; place < size; place++) {
                if (isHeldOf(place, number)) {
                    return place;
                }
            }
            return NONE;
        }
    }

    /** All that an image keeps. The jobs stand by their numbers, as new ones have the greatest. */
    private static final class Table {
        private static final int ALL_HOLDS = 0;
        private static final int OVER_HOLDS = 1;
        private static final int FELT_HOLDS = 2;
        private static final int ASTRAY_HOLDS = 3;

        private static final int FIND_LOCKED = 4;
        private static final int FIND_DUE = 5;
        private static final int FIND_LATE = 6;

        private final Job[] jobs = new Job[MOST_JOBS];
        private final Session[] sessions = new Session[MOST_SESSIONS];
        private final Schedule[] schedules = new Schedule[MOST_SCHEDULES];
        private final int[] parallel = {1, 1, 1, 1, 1, 1};
        private final int[] settings = {5, 1, 30, 0, 3};
        private final Log log = new Log();
        private int size;
        private int sessionCount;
        private int scheduleCount;
        private int texts;
        private int mono;
        private int wall;
        private int tokens;
        private int came;
        private int missed;
        private int swept;

        Table() {
            for (int i = 0; i < jobs.length; i++) {
                jobs[i] = new Job();
            }
            for (int i = 0; i < sessions.length; i++) {
                sessions[i] = new Session();
            }
            for (int i = 0; i < schedules.length; i++) {
                schedules[i] = new Schedule();
            }
        }

        void copyFrom(Table from) {
            size = from.size;
            for (int i = 0; i < size; i++) {
                jobs[i].copyFrom(from.jobs[i]);
            }
            sessionCount = from.sessionCount;
            for (int i = 0; i < sessionCount; i++) {
                sessions[i].copyFrom(from.sessions[i]);
            }
            scheduleCount = from.scheduleCount;
            for (int i = 0; i < scheduleCount; i++) {
                schedules[i].copyFrom(from.schedules[i]);
            }
            System.arraycopy(from.parallel, 0, parallel, 0, parallel.length);
            System.arraycopy(from.settings, 0, settings, 0, settings.length);
            log.copyFrom(from.log);
            texts = from.texts;
            mono = from.mono;
            wall = from.wall;
            tokens = from.tokens;
            came = from.came;
            missed = from.missed;
            swept = from.swept;
        }

        // -- jobs and sessions --

        Job addJob(int group, int priority, int cost) {
            if (size >= jobs.length) {
                return null;
            }
            Job row = jobs[size];
            size++;
            row.number = came;
            came++;
            row.group = group;
            row.priority = priority;
            row.cost = cost;
            row.born = mono;
            row.schedule = NONE;
            row.slot = NONE;
            row.stored = true;
            row.locker = NONE;
            row.base.startAt(mono);
            return row;
        }

        private void removeAt(int place) {
            if (place < 0 || place >= size) {
                return;
            }
            Job gone = jobs[place];
            for (int i = place; i + 1 < size; i++) {
                jobs[i] = jobs[i + 1];
            }
            size--;
            jobs[size] = gone;
        }

        void addSession(int skew) {
            if (sessionCount < sessions.length) {
                sessions[sessionCount].start(skew);
                sessionCount++;
            }
        }

        Job jobSeen(int number, int session) {
            for (int i = 0; i < size; i++) {
                if (jobs[i].number == number && jobs[i].isSeenBy(session)) {
                    return jobs[i];
                }
            }
            return null;
        }

        int sweepDone() {
            int before = size;
            for (int i = size - 1; i >= 0; i--) {
                Job row = jobs[i];
                if (row.locker == NONE && row.base.state == DONE) {
                    removeAt(i);
                }
            }
            swept += before - size;
            return before - size;
        }

        // -- transactions --

        void keepSavepoint(int session) {
            Session owner = sessions[session];
            for (int i = 0; i < size; i++) {
                if (jobs[i].isLockedBy(session)) {
                    jobs[i].saveAt(owner.savepoints);
                }
            }
            owner.savepoints++;
        }

        int returnToSavepoint(int session, int k) {
            int released = 0;
            for (int i = size - 1; i >= 0; i--) {
                Job row = jobs[i];
                if (row.isLockedBy(session)) {
                    if (row.isSavedAt(k)) {
                        row.returnTo(k);
                    } else {
                        release(i);
                        released++;
                    }
                }
            }
            sessions[session].savepoints = k + 1;
            return released;
        }

        private void release(int place) {
            jobs[place].locker = NONE;
            if (!jobs[place].stored) {
                removeAt(place);
            }
        }

        int commitAll(int session) {
            int committed = 0;
            for (int i = 0; i < size; i++) {
                if (jobs[i].isLockedBy(session)) {
                    log.add(mono, jobs[i]);
                    jobs[i].store();
                    committed++;
                }
            }
            sessions[session].close();
            return committed;
        }

        int rollAll(int session) {
            int released = 0;
            for (int i = size - 1; i >= 0; i--) {
                if (jobs[i].isLockedBy(session)) {
                    release(i);
                    released++;
                }
            }
            sessions[session].close();
            return released;
        }

        /** Without a TRANSACTION an act is one by itself. */
        void closeAct(int session) {
            if (!sessions[session].open) {
                commitAll(session);
            }
        }

        // -- failing --

        void recordFailure(Version own, int number, int cause) {
            own.tries++;
            own.addCause(cause);
            if (cause == FATAL_CAUSE || own.tries >= settings[LIMIT]) {
                own.state = SET_ASIDE;
                return;
            }
            own.state = WAITING;
            own.due = mono + waitOf(number, own.tries);
        }

        private int waitOf(int number, int tries) {
            int wait = settings[BASE];
            for (int i = 1; i < tries && wait < settings[CAP]; i++) {
                wait *= 2;
            }
            wait = Math.min(wait, settings[CAP]);
            int spread = settings[JITTER] + 1;
            return spread < 1 ? wait : wait + (7 * number + 3 * tries) % spread;
        }

        int tryTime(Version seen, int number, int k) {
            if (seen.state != WAITING || k < 1) {
                return NONE;
            }
            int time = Math.max(seen.due, mono);
            int tries = seen.tries;
            for (int i = 1; i < k; i++) {
                tries++;
                if (tries >= settings[LIMIT]) {
                    return NONE;
                }
                time += waitOf(number, tries);
            }
            return time;
        }

        int reapLate(int session) {
            int reaped = 0;
            for (int i = 0; i < size; i++) {
                Job row = jobs[i];
                boolean reachable = row.isSeenBy(session) && !row.isLockedByOther(session);
                if (reachable && isLate(row.seenBy(session))) {
                    recordFailure(row.lockFor(session), row.number, REAPED_CAUSE);
                    reaped++;
                }
            }
            return reaped;
        }

        private boolean isLate(Version seen) {
            return seen.state == HELD && seen.until < mono;
        }

        // -- clocks and schedules --

        int tickTimes(int n) {
            int before = came;
            for (int i = 0; i < n; i++) {
                mono = Math.min(mono + 1, LAST_TIME);
                wall = Math.min(wall + 1, LAST_TIME);
                lookAtSchedules();
            }
            return came - before;
        }

        int jumpBy(int n) {
            int before = came;
            wall = Math.max(0, Math.min(wall + n, LAST_TIME));
            lookAtSchedules();
            return came - before;
        }

        private void lookAtSchedules() {
            for (int i = 0; i < scheduleCount; i++) {
                Schedule looking = schedules[i];
                int last = looking.slotOf(wall);
                if (last > looking.slot) {
                    for (int slot = looking.firstToFire(last, wall); slot <= last; slot++) {
                        fire(i, slot);
                    }
                    looking.slot = last;
                }
            }
        }

        private void fire(int schedule, int slot) {
            Schedule firing = schedules[schedule];
            Job row = addJob(firing.group, firing.priority, firing.cost);
            if (row == null) {
                missed++;
                return;
            }
            row.schedule = schedule;
            row.slot = slot;
        }

        // -- what is counted --

        int storedJobs() {
            int stored = 0;
            for (int i = 0; i < size; i++) {
                stored += jobs[i].stored ? 1 : 0;
            }
            return stored;
        }

        int lockedJobs() {
            int locked = 0;
            for (int i = 0; i < size; i++) {
                locked += jobs[i].locker != NONE ? 1 : 0;
            }
            return locked;
        }

        int lockedBy(int session) {
            int locked = 0;
            for (int i = 0; i < size; i++) {
                locked += jobs[i].isLockedBy(session) ? 1 : 0;
            }
            return locked;
        }

        int openTransactions() {
            int open = 0;
            for (int i = 0; i < sessionCount; i++) {
                open += sessions[i].open ? 1 : 0;
            }
            return open;
        }

        int holds(int session, int which) {
            int held = 0;
            for (int i = 0; i < size; i++) {
                Job row = jobs[i];
                if (row.isSeenBy(session) && isHold(row.seenBy(session), session, which)) {
                    held++;
                }
            }
            return held;
        }

        private boolean isHold(Version seen, int session, int which) {
            if (seen.state != HELD || seen.holder != session) {
                return false;
            }
            boolean over = seen.until < mono;
            boolean felt = seen.until < mono + sessions[session].skew;
            switch (which) {
                case OVER_HOLDS: return over;
                case FELT_HOLDS: return felt;
                case ASTRAY_HOLDS: return over != felt;
                default: return true;
            }
        }

        int overtakenPairs(int group) {
            int pairs = 0;
            for (int greater = 1; greater < size; greater++) {
                for (int lesser = 0; lesser < greater; lesser++) {
                    boolean pair = isStoredIn(greater, group) && isStoredIn(lesser, group);
                    pairs += pair && isOvertaken(lesser, greater) ? 1 : 0;
                }
            }
            return pairs;
        }

        private boolean isStoredIn(int place, int group) {
            return jobs[place].stored && jobs[place].group == group;
        }

        private boolean isOvertaken(int lesser, int greater) {
            int ahead = log.firstHold(jobs[greater].number);
            int behind = log.firstHold(jobs[lesser].number);
            return ahead != NONE && (behind == NONE || ahead < behind);
        }

        int setAsideFrom(int cause) {
            int from = 0;
            for (int i = 0; i < size; i++) {
                Version base = jobs[i].base;
                boolean aside = jobs[i].stored && base.state == SET_ASIDE;
                if (aside && base.causeAt(base.causeCount - 1) == cause) {
                    from++;
                }
            }
            return from;
        }

        int numberFound(int kind, int k) {
            int found = 0;
            for (int i = 0; i < size; i++) {
                if (isOfKind(jobs[i], kind)) {
                    if (found == k) {
                        return jobs[i].number;
                    }
                    found++;
                }
            }
            return NONE;
        }

        private boolean isOfKind(Job row, int kind) {
            if (kind == FIND_LOCKED) {
                return row.locker != NONE;
            }
            if (!row.stored) {
                return false;
            }
            if (kind == FIND_DUE) {
                return row.base.state == WAITING && row.base.due <= mono;
            }
            return kind == FIND_LATE ? isLate(row.base) : row.base.state == kind;
        }
    }

    /** Who may claim what, and what comes of claims that are made or only tried out. */
    private static final class Claims {
        private static final int UNHINDERED = 0;
        private static final int BARRED_BY_LOCK = 1;
        private static final int BARRED_BY_STATE = 2;
        private static final int BARRED_BY_DUE = 3;
        private static final int BARRED_BY_LESSER = 4;
        private static final int BARRED_BY_FULL_GROUP = 5;
        private static final int BARRED_BY_TERM = 6;
        private static final int BARRED_BY_OTHERS = 7;

        private final int[] picks = new int[MOST_CLAIMS];
        private final int[] takers = new int[MOST_JOBS];
        private final int[] otherTakers = new int[MOST_JOBS];
        private int picked;

        static int hindrance(Table table, Job row, int session) {
            Version seen = row.seenBy(session);
            if (row.isLockedByOther(session)) {
                return BARRED_BY_LOCK;
            }
            if (seen.state != WAITING) {
                return BARRED_BY_STATE;
            }
            if (seen.due > table.mono) {
                return BARRED_BY_DUE;
            }
            if (isLesserWaiting(table, row, session)) {
                return BARRED_BY_LESSER;
            }
            return isGroupFull(table, row.group, session) ? BARRED_BY_FULL_GROUP : UNHINDERED;
        }

        private static boolean isLesserWaiting(Table table, Job row, int session) {
            for (int i = 0; i < table.size; i++) {
                Job lesser = table.jobs[i];
                if (lesser.number >= row.number) {
                    return false;
                }
                boolean seen = lesser.group == row.group && lesser.isSeenBy(session);
                if (seen && lesser.seenBy(session).state == WAITING) {
                    return true;
                }
            }
            return false;
        }

        private static boolean isGroupFull(Table table, int group, int session) {
            int taken = 0;
            for (int i = 0; i < table.size; i++) {
                Job row = table.jobs[i];
                boolean isTaken = row.isLockedByOther(session) || row.seenBy(session).state == HELD;
                if (row.group == group && isTaken) {
                    taken++;
                }
            }
            return taken >= table.parallel[group];
        }

        static int barOfUnclaimed(Table table, Job row, int session) {
            int hindrance = hindrance(table, row, session);
            if (hindrance != UNHINDERED) {
                return hindrance;
            }
            boolean fits = table.sessions[session].query.fits(table, row, session);
            return fits ? BARRED_BY_OTHERS : BARRED_BY_TERM;
        }

        /** The job that a claim takes next; as jobs stand by their numbers, the first of equals stays. */
        private static int placeToClaim(Table table, int session) {
            Query query = table.sessions[session].query;
            int best = NONE;
            for (int i = 0; i < table.size; i++) {
                Job row = table.jobs[i];
                boolean claimable = row.isSeenBy(session)
                    && hindrance(table, row, session) == UNHINDERED
                    && query.fits(table, row, session);
                if (claimable && (best == NONE || query.putsAhead(table, row, table.jobs[best], session))) {
                    best = i;
                }
            }
            return best;
        }

        private static void hold(Table table, int place, int session) {
            Job row = table.jobs[place];
            Version own = row.lockFor(session);
            table.tokens++;
            own.state = HELD;
            own.holder = session;
            own.token = table.tokens;
            own.until = table.mono + table.settings[LEASE];
            table.sessions[session].latest = row.group;
        }

        void claimAll(Table table, int session) {
            int times = Math.min(table.sessions[session].query.times, MOST_CLAIMS);
            picked = 0;
            for (int i = 0; i < times; i++) {
                int place = placeToClaim(table, session);
                if (place == NONE) {
                    return;
                }
                hold(table, place, session);
                picks[i] = table.jobs[place].number;
                takers[place] = session;
                picked++;
            }
        }

        int pickAt(int k) {
            return k < 0 || k >= picked ? NONE : picks[k];
        }

        boolean hasPicked(int number) {
            for (int i = 0; i < picked; i++) {
                if (picks[i] == number) {
                    return true;
                }
            }
            return false;
        }

        void startRace() {
            for (int i = 0; i < takers.length; i++) {
                takers[i] = NONE;
            }
        }

        void turnRace() {
            System.arraycopy(takers, 0, otherTakers, 0, takers.length);
            startRace();
        }

        int unlikeTakers() {
            int unlike = 0;
            for (int i = 0; i < takers.length; i++) {
                unlike += takers[i] != otherTakers[i] ? 1 : 0;
            }
            return unlike;
        }

        static int claimedAhead(Table trial, int session, int number) {
            for (int ahead = 0; ahead < MOST_JOBS; ahead++) {
                int place = placeToClaim(trial, session);
                if (place == NONE) {
                    return NONE;
                }
                Job row = trial.jobs[place];
                if (row.number == number) {
                    return ahead;
                }
                hold(trial, place, session);
                row.own.state = DONE;
            }
            return NONE;
        }
    }

    /** Work at all jobs, tried out in a copy: WAITING are those not begun, HELD those in work. */
    private static final class Work {
        // Far above what 24 jobs of cost 9, none due later than some hundred, can last.
        private static final int MOST_STEPS = 100000;

        static int timeOf(Table trial, int hands, int number) {
            prepare(trial);
            int last = trial.mono;
            for (int step = 0; step < MOST_STEPS && inState(trial, WAITING) > 0; step++) {
                int now = trial.mono + step;
                endDone(trial, now);
                for (int free = hands - inState(trial, HELD); free > 0; free--) {
                    Job row = firstReady(trial, now);
                    if (row == null) {
                        break;
                    }
                    if (row.number == number) {
                        return now;
                    }
                    row.base.state = HELD;
                    row.base.until = now + row.cost;
                    last = Math.max(last, row.base.until);
                }
            }
            return number == NONE ? last : NONE;
        }

        private static void prepare(Table trial) {
            for (int i = 0; i < trial.size; i++) {
                Version base = trial.jobs[i].base;
                if (!trial.jobs[i].stored) {
                    base.state = DONE;
                }
                if (base.state == HELD) {
                    base.state = WAITING;
                    base.due = trial.mono;
                }
            }
        }

        private static int inState(Table trial, int state) {
            int found = 0;
            for (int i = 0; i < trial.size; i++) {
                found += trial.jobs[i].base.state == state ? 1 : 0;
            }
            return found;
        }

        private static void endDone(Table trial, int now) {
            for (int i = 0; i < trial.size; i++) {
                Version base = trial.jobs[i].base;
                if (base.state == HELD && base.until <= now) {
                    base.state = DONE;
                }
            }
        }

        private static Job firstReady(Table trial, int now) {
            for (int i = 0; i < trial.size; i++) {
                Job row = trial.jobs[i];
                if (row.base.state == WAITING && row.base.due <= now && isGroupReady(trial, row)) {
                    return row;
                }
            }
            return null;
        }

        private static boolean isGroupReady(Table trial, Job row) {
            int inWork = 0;
            for (int i = 0; i < trial.size; i++) {
                Job other = trial.jobs[i];
                if (other.group == row.group) {
                    if (other.number < row.number && other.base.state == WAITING) {
                        return false;
                    }
                    inWork += other.base.state == HELD ? 1 : 0;
                }
            }
            return inWork < trial.parallel[row.group];
        }
    }
}
