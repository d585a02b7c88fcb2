/** Promises 29 to 34 and 36: who may claim what, why not, in which order, when again, and how long work lasts. */
public final class QuestionTest {
    private static final Object IAE = IllegalArgumentException.class;
    private static final Object IOOBE = IndexOutOfBoundsException.class;

    public static void main(String[] args) {
        wrongCalls();
        bars();
        mays();
        nexts();
        races();
        passes();
        triesAgain();
        worksByHands();
        worksByGroups();
        asksChangeNothing();
        Bench.end("QuestionTest");
    }

    private static void wrongCalls() {
        Bench b = Bench.of("session;session;job group 0 priority 0 cost 1");
        b.x.begin(0);
        b.x.bring(0, 1, 0, 1);
        for (int session : new int[] {-1, -2, 2, 4}) {
            Bench.due(29, "may of session " + session, IOOBE, () -> b.x.may(session, 0));
            Bench.due(30, "next of session " + session, IOOBE, () -> b.x.next(session, 0));
            Bench.due(31, "bar of session " + session, IOOBE, () -> b.x.bar(session, 0));
            Bench.due(32, "race of session " + session, IOOBE, () -> b.x.race(session, 0));
            Bench.due(32, "race with session " + session, IOOBE, () -> b.x.race(0, session));
            Bench.due(32, "race of twice " + session, IOOBE, () -> b.x.race(session, session));
            Bench.due(33, "passed of session " + session, IOOBE, () -> b.x.passed(session, 0));
        }
        Bench.due(34, "again of session -2", IOOBE, () -> b.x.again(-2, 0, 1));
        Bench.due(34, "again of session 2", IOOBE, () -> b.x.again(2, 0, 1));
        for (int job : new int[] {-1, 1, 2}) {
            Bench.due(29, "may of job " + job, IOOBE, () -> b.x.may(1, job));
            Bench.due(31, "bar of job " + job, IOOBE, () -> b.x.bar(1, job));
            Bench.due(33, "passed of job " + job, IOOBE, () -> b.x.passed(1, job));
            Bench.due(34, "again of job " + job, IOOBE, () -> b.x.again(1, job, 1));
            Bench.due(34, "again by THE TABLE of job " + job, IOOBE, () -> b.x.again(-1, job, 1));
        }
        Bench.due(29, "may of one that it brought", true, () -> b.x.may(0, 1));
        Bench.due(32, "race of one", IAE, () -> b.x.race(1, 1));
        Bench.due(36, "no hands", IAE, () -> b.x.work(0, -1));
        Bench.due(36, "five hands ahead of no job", IAE, () -> b.x.work(5, 9));
        Bench.due(36, "work of a brought one", IOOBE, () -> b.x.work(1, 1));
        Bench.due(36, "work of job -2", IOOBE, () -> b.x.work(1, -2));
    }

    private static void bars() {
        Bench b = Bench.of("session;session;parallel 3 2;job group 0 priority 0 cost 1;job group 1 priority 0 cost 1;"
            + "job group 2 priority 0 cost 1 in 1;job group 2 priority 0 cost 1;job group 3 priority 0 cost 2;"
            + "job group 3 priority 0 cost 1;job group 3 priority 0 cost 1;job group 4 priority 5 cost 1");
        b.query(0, "claim 1 where cost = 1 order by priority desc");
        b.x.begin(1);
        b.x.claim(1);
        // Job 1 is DONE; job 4 is HELD; session 1 has job 0 LOCKED.
        b.query(0, "claim 1 where number = 1");
        b.x.claim(0);
        b.x.finish(0, 1, 2);
        b.query(0, "claim 1 where number = 4");
        b.x.claim(0);
        b.query(0, "claim 1 where cost = 1 order by priority desc");
        int[] due = {1, 2, 3, 4, 2, 7, 4, 0};
        for (int j = 0; j < due.length; j++) {
            int job = j;
            Bench.due(31, "bar of job " + j, due[j], () -> b.x.bar(0, job));
            Bench.due(29, "may of job " + j, due[j] == 0 || due[j] == 7, () -> b.x.may(0, job));
        }
        b.query(0, "claim 1 where cost > 1");
        Bench.due(31, "some T is not so", 6, () -> b.x.bar(0, 7));
        Bench.due(31, "some T is not so", 6, () -> b.x.bar(0, 5));
        b.table("parallel 3 1");
        Bench.due(31, "the group is full", 5, () -> b.x.bar(0, 5));
        Bench.due(31, "a lesser one comes ahead of full", 4, () -> b.x.bar(0, 6));
        Bench.due(31, "its own LOCKED one is not WAITING", 2, () -> b.x.bar(1, 0));
        b.x.ticks(1);
        Bench.due(31, "DUE is MONO now", 6, () -> b.x.bar(0, 2));
    }

    private static void mays() {
        Bench b = Bench.of("session;session;job group 0 priority 0 cost 1;job group 0 priority 0 cost 1;job group 1 priority 0 cost 1");
        b.query(0, "claim 1 where number > 900");
        Bench.due(29, "whatever its query", true, () -> b.x.may(0, 0));
        Bench.due(29, "a lesser one WAITING", false, () -> b.x.may(0, 1));
        b.x.begin(1);
        b.x.claim(1);
        b.x.fail(1, 0, 1, 5);
        Bench.due(29, "for the one that set it aside", true, () -> b.x.may(1, 1));
        Bench.due(29, "by THE TABLE it is WAITING", false, () -> b.x.may(0, 1));
        b.x.roll(1);
        b.x.begin(1);
        b.x.bring(1, 1, 0, 1);
        Bench.due(29, "LOCKED by another one, whatever they are", false, () -> b.x.may(0, 2));
        Bench.due(29, "for that one itself", true, () -> b.x.may(1, 2));
        b.table("parallel 1 2");
        Bench.due(29, "with room", true, () -> b.x.may(0, 2));
        Bench.due(29, "its own behind one WAITING", false, () -> b.x.may(1, 3));
    }

    private static void nexts() {
        Bench b = Bench.of("session;parallel 1 3;job group 1 priority 1 cost 1;job group 1 priority 9 cost 1;"
            + "job group 2 priority 5 cost 1;job group 1 priority 3 cost 1;job group 4 priority 5 cost 1");
        b.query(0, "claim 6 order by priority desc");
        Bench.due(30, "in order, one making way for the next", "2 4 0 1 3", () -> b.next(0));
        Bench.due(30, "none behind", -1, () -> b.x.next(0, 5));
        Bench.due(30, "k -1", -1, () -> b.x.next(0, -1));
        b.query(0, "claim 2 order by priority, number desc");
        Bench.due(30, "N times", "0 4", () -> b.next(0));
        b.query(0, "claim 4 order by turn");
        // LATEST is 5 at first: group 1 is 1 behind the next, and so on round.
        Bench.due(30, "by turn", "0 2 4 1", () -> b.next(0));
        b.query(0, "claim 6 where turn > 0");
        Bench.due(30, "T by LATEST as it becomes", "0 1 3 4 2", () -> b.next(0));
        b.x.begin(0);
        b.x.claim(0);
        Bench.due(30, "none left", -1, () -> b.x.next(0, 0));
    }

    private static void races() {
        Bench b = Bench.of("session;session;session;parallel 0 2;job group 0 priority 1 cost 1;job group 0 priority 2 cost 1;"
            + "job group 1 priority 3 cost 1;job group 2 priority 4 cost 1");
        b.query(0, "claim 1 where group = 1");
        b.query(1, "claim 1 where group = 2");
        b.query(2, "claim 2 where group = 0");
        Bench.due(32, "nothing in common", 0, () -> b.x.race(0, 1));
        Bench.due(32, "nothing in common", 0, () -> b.x.race(2, 1));
        b.query(1, "claim 1 where group = 1");
        Bench.due(32, "one and the same", 1, () -> b.x.race(0, 1));
        b.query(1, "claim 2 where group > 0");
        Bench.due(32, "one of two", 1, () -> b.x.race(0, 1));
        b.query(0, "claim 1");
        b.query(1, "claim 1");
        Bench.due(32, "two exchanged", 2, () -> b.x.race(0, 1));
        Bench.due(32, "likewise the other way round", 2, () -> b.x.race(1, 0));
        b.query(0, "claim 1 where group = 0");
        // Behind session 0 the other one gets none of the group, ahead of it both.
        Bench.due(32, "also by none", 2, () -> b.x.race(0, 2));
        Bench.due(32, "also by none, the other way round", 2, () -> b.x.race(2, 0));
    }

    private static void passes() {
        Bench b = Bench.of("session;session;job group 0 priority 1 cost 1;job group 0 priority 9 cost 1;job group 1 priority 5 cost 1;"
            + "job group 2 priority 7 cost 1 in 5;job group 2 priority 8 cost 1;job group 3 priority 2 cost 2");
        b.query(0, "claim 6 order by priority desc");
        int[] due = {2, 3, 0, -1, -1, 1};
        for (int j = 0; j < due.length; j++) {
            int job = j;
            Bench.due(33, "passed of job " + j, due[j], () -> b.x.passed(0, job));
        }
        b.query(0, "claim 2 where cost = 1 order by turn");
        // LATEST 5, then 0, 1, 0: turn counts anew from each.
        Bench.due(33, "by turn", "0 2 1 -1", () -> b.x.passed(0, 0) + " " + b.x.passed(0, 1) + " " + b.x.passed(0, 2) + " " + b.x.passed(0, 5));
        b.x.begin(1);
        b.x.claim(1);
        Bench.due(33, "of one LOCKED by another one", -1, () -> b.x.passed(0, 0));
        Bench.due(33, "of one behind that", -1, () -> b.x.passed(0, 1));
        Bench.due(33, "of one HELD by itself", -1, () -> b.x.passed(1, 0));
        b.x.ticks(5);
        b.query(0, "claim 1");
        Bench.due(33, "DUE now", 1, () -> b.x.passed(0, 3));
    }

    private static void triesAgain() {
        Bench b = Bench.of("session;session;jitter 4;base 3;cap 10;limit 5;job group 0 priority 0 cost 1;"
            + "job group 1 priority 0 cost 1 in 9;job group 2 priority 0 cost 1;job group 3 priority 0 cost 1");
        b.x.ticks(4);
        int[] first = {4, 4 + 3 + 3, 10 + 6 + 1, 17 + 10 + 4, 31 + 10 + 2, -1, -1};
        for (int k = 1; k <= first.length; k++) {
            int asked = k;
            Bench.due(34, "again(-1, 0, " + k + ")", first[k - 1], () -> b.x.again(-1, 0, asked));
        }
        Bench.due(34, "k 0", -1, () -> b.x.again(-1, 0, 0));
        Bench.due(34, "k of all bits", -1, () -> b.x.again(-1, 0, -1));
        Bench.due(34, "the greatest k", -1, () -> b.x.again(-1, 0, Integer.MAX_VALUE));
        Bench.due(34, "DUE above MONO", "9 12", () -> b.x.again(0, 1, 1) + " " + b.x.again(0, 1, 2));
        b.x.begin(0);
        b.x.claim(0);
        Bench.due(34, "HELD", -1, () -> b.x.again(0, 0, 1));
        Bench.due(34, "for another one", 4, () -> b.x.again(1, 0, 1));
        b.x.fail(0, 0, 1, 0);
        Bench.due(34, "as it was said", 10, () -> b.x.again(0, 0, 1));
        Bench.due(34, "from 1 TRY on", 17, () -> b.x.again(0, 0, 2));
        Bench.due(34, "LIMIT is nearer", -1, () -> b.x.again(0, 0, 5));
        b.table("limit 1");
        Bench.due(34, "LIMIT below TRIES", "10 -1", () -> b.x.again(0, 0, 1) + " " + b.x.again(0, 0, 2));
    }

    private static void worksByHands() {
        Bench b = new Bench();
        Bench.due(36, "without any", 0, () -> b.x.work(4, -1));
        b.table("session;job group 0 priority 0 cost 2;job group 0 priority 0 cost 1;job group 1 priority 0 cost 3;"
            + "job group 1 priority 0 cost 4;job group 2 priority 0 cost 1 in 2;job group 3 priority 0 cost 9 in 50");
        b.x.ticks(10);
        int[][] due = {{59, 10, 12, 13, 16, 20, 50}, {59, 10, 12, 10, 13, 13, 50}, {59, 10, 12, 10, 13, 10, 50},
            {59, 10, 12, 10, 13, 10, 50}};
        for (int hands = 1; hands <= 4; hands++) {
            for (int j = -1; j < 6; j++) {
                int n = hands;
                int job = j;
                Bench.due(36, "work(" + n + ", " + j + ")", due[n - 1][j + 1], () -> b.x.work(n, job));
            }
        }
    }

    private static void worksByGroups() {
        Bench b = Bench.of("session;session;parallel 0 2;lease 60;job group 0 priority 0 cost 5;job group 0 priority 0 cost 1;"
            + "job group 0 priority 0 cost 1;job group 0 priority 0 cost 1 in 9;job group 1 priority 0 cost 4");
        b.x.claim(0);
        b.x.ticks(3);
        Bench.due(36, "one HELD counts as not begun", "3 3 4 9 3", () -> b.x.work(4, 0) + " " + b.x.work(4, 1) + " " + b.x.work(4, 2)
            + " " + b.x.work(4, 3) + " " + b.x.work(4, 4));
        Bench.due(36, "all done", 10, () -> b.x.work(4, -1));
        Bench.due(36, "with one hand", 15, () -> b.x.work(1, -1));
        b.x.finish(0, 0, 1);
        Bench.due(36, "one DONE", -1, () -> b.x.work(1, 0));
        b.query(0, "claim 1 where group = 1");
        b.x.claim(0);
        b.x.fail(0, 4, 2, 5);
        Bench.due(36, "one SET ASIDE", -1, () -> b.x.work(1, 4));
        Bench.due(36, "what is left", 10, () -> b.x.work(2, -1));
        b.x.begin(1);
        b.x.claim(1);
        b.x.finish(1, 1, 3);
        b.x.bring(1, 1, 1, 9);
        Bench.due(36, "by THE TABLE alone", "3 10", () -> b.x.work(1, 1) + " " + b.x.work(1, -1));
        Bench late = Bench.of("session;base 9;cap 99;limit 9;job group 0 priority 0 cost 1;job group 0 priority 0 cost 1;lease 9");
        late.x.claim(0);
        late.x.fail(0, 0, 1, 0);
        Bench.due(36, "one that is DUE later holds its group back", "9 10 11", () -> late.x.work(2, 0) + " " + late.x.work(2, 1)
            + " " + late.x.work(2, -1));
        for (int i = 2; i < 9; i++) {
            late.x.ticks(late.x.job(0, 0, 5) - late.x.count(4) > 60 ? 60 : late.x.job(0, 0, 5) - late.x.count(4));
            if (late.x.job(0, 0, 5) > late.x.count(4)) {
                late.x.ticks(late.x.job(0, 0, 5) - late.x.count(4));
            }
            late.x.claim(0);
            late.x.fail(0, 0, i, 0);
        }
        Bench.due(36, "one that is DUE in 99", late.x.count(4) + 99 + 2, () -> late.x.work(1, -1));
    }

    private static void asksChangeNothing() {
        Bench b = Bench.of("session;session;every 2 at 1 group 1 priority 0 cost 1;job group 0 priority 0 cost 1;job group 1 priority 0 cost 1");
        b.query(0, "claim 2");
        b.x.begin(0);
        b.x.next(0, 0);
        b.x.bar(0, 1);
        b.x.race(0, 1);
        b.x.passed(0, 1);
        b.x.would(60, false);
        b.x.would(60, true);
        b.x.work(2, -1);
        b.x.again(0, 0, 3);
        Bench.due(30, "TOKENS", 0, () -> b.x.count(6));
        Bench.due(30, "LATEST", 5, () -> b.x.session(0, 4));
        Bench.due(30, "LOCKED", "0 0", () -> b.x.count(11) + " " + b.x.session(0, 2));
        Bench.due(33, "STATES", "0 1", () -> b.found(0));
        Bench.due(35, "CAME, MONO, WALL, SLOT", "2 0 0 -1", () -> b.x.count(7) + " " + b.x.count(4) + " " + b.x.count(5) + " " + b.x.plan(0, 4));
        Bench.due(30, "rows of THE LOG", 0, () -> b.x.count(17));
        Bench.due(13, "what NEXT said", 2, () -> b.x.claim(0));
    }
}
