/** Promises 1 to 7: a new object, the TAPE, texts of THE TABLE, queries, fault and why. */
public final class TextTest {
    private static final Object IAE = IllegalArgumentException.class;
    private static final Object IOOBE = IndexOutOfBoundsException.class;
    private static final Object UOE = UnsupportedOperationException.class;

    public static void main(String[] args) {
        newObject();
        tape();
        linesOfAllKinds();
        wrongLines();
        tooMany();
        twelveTexts();
        wrongQueries();
        queriesOfAllKinds();
        whyStays();
        Bench.end("TextTest");
    }

    private static void newObject() {
        Bench b = new Bench();
        int[] counts = {0, 0, 0, 0, 0, 0, 0, 0, 0, 0, 0, 0, 5, 1, 30, 0, 3, 0};
        for (int what = 0; what < counts.length; what++) {
            int asked = what;
            Bench.due(1, "count(" + what + ")", counts[what], () -> b.x.count(asked));
        }
        Bench.due(1, "session(0, 0)", IOOBE, () -> b.x.session(0, 0));
        Bench.due(1, "job(NONE, 0, 0)", IOOBE, () -> b.x.job(-1, 0, 0));
        Bench.due(1, "plan(0, 0)", IOOBE, () -> b.x.plan(0, 0));
        Bench.due(6, "fault() ahead of any text", -1, () -> b.x.fault());
        Bench.due(7, "why() at first", 0, () -> b.x.why());
        Bench.due(1, "NONE", -1, () -> ClaimTable.NONE);
    }

    private static void tape() {
        Bench b = new Bench();
        for (int i = 1; i <= 20; i++) {
            int due = i * 20;
            Bench.due(2, "feed", due, () -> b.x.feed(0x20202020, 0x20202020, 0x20202020, 0x20202020, 0x20202020));
        }
        Bench.due(2, "a feed too many", -1, () -> b.x.feed(1, 1, 1, 1, 1));
        Bench.due(3, "end(401)", false, () -> b.x.end(401));
        Bench.due(3, "end(-1)", false, () -> b.x.end(-1));
        Bench.due(3, "end(400)", true, () -> b.x.end(400));
        Bench.due(3, "end(381)", true, () -> b.x.end(381));
        Bench.due(2, "feed with 381", -1, () -> b.x.feed(1, 1, 1, 1, 1));
        Bench.due(3, "end(380)", true, () -> b.x.end(380));
        Bench.due(2, "feed with 380", 400, () -> b.x.feed(0x20202020, 0x20202020, 0x20202020, 0x20202020, 0x20202020));
        Bench.due(4, "400 blanks", 1, () -> b.x.table());
        Bench.due(2, "feed behind a text", 20, () -> b.x.feed(0x73657373, 0x696f6e21, 0x80ff0001, -1, 0x61626364));
        Bench.due(2, "highest byte first", 7, () -> {
            b.x.end(8);
            try {
                return b.x.table();
            } catch (IllegalArgumentException e) {
                return b.x.fault();
            }
        });
        Bench.due(2, "bytes above 127 are no blanks nor letters", 7, () -> b.tableFault("session\u00ff"));
        Bench.due(3, "end(0)", true, () -> b.x.feed(1, 1, 1, 1, 1) == 20 && b.x.end(0));
        Bench.due(4, "an empty text", 2, () -> b.x.table());
    }

    private static void linesOfAllKinds() {
        Bench b = new Bench();
        Bench.due(4, "blanks all over", 1, () -> b.table("  lease60 ;base 9; cap  99;jitter 9 ;limit 9;parallel 5 4  "));
        int[] settings = {60, 9, 99, 9, 9};
        for (int i = 0; i < 5; i++) {
            int what = 12 + i;
            Bench.due(4, "count(" + what + ")", settings[i], () -> b.x.count(what));
        }
        Bench.due(6, "fault() of a right text", -1, () -> b.x.fault());
        Bench.due(4, "sessions", 2, () -> b.table("session skew 9;session slow 09;session slow 0;session"));
        int[] skews = {9, -9, 0, 0};
        for (int s = 0; s < 4; s++) {
            int session = s;
            Bench.due(4, "SKEW of " + s, skews[s], () -> b.x.session(session, 3));
        }
        b.x.ticks(7);
        Bench.due(4, "jobs", 3, () -> b.table("job group 5 priority 9 cost 9in 99;job group 0 priority 0 cost 001"));
        int[][] jobs = {{5, 9, 9, 0, 7, 106, 0, 0, 0, -1, 0, -1, -1}, {0, 0, 1, 0, 7, 7, 0, 0, 0, -1, 0, -1, -1}};
        for (int j = 0; j < 2; j++) {
            for (int w = 0; w < 13; w++) {
                int job = j;
                int what = w;
                Bench.due(4, "job " + j + " what " + w, jobs[j][w], () -> b.x.job(-1, job, what));
            }
        }
        Bench.due(4, "schedules", 4, () -> b.table("every 60 at 59 group 0 priority 0 cost 1;"
            + "every 3 at 1 group 0 priority 0 cost 1 each;every 3 at 7 group 0 priority 0 cost 1 grace 9"));
        int[][] plans = {{60, 59, 0, 0, -1, 59}, {3, 1, 1, 0, 2, 10}, {3, 7, 2, 9, 0, 10}};
        for (int s = 0; s < 3; s++) {
            for (int w = 0; w < 6; w++) {
                int schedule = s;
                int what = w;
                Bench.due(4, "schedule " + s + " what " + w, plans[s][w], () -> b.x.plan(schedule, what));
            }
        }
    }

    private static void wrongLines() {
        Bench b = new Bench();
        String[] texts = {
            "job", "3", "jobs", "job 1", "foo", "Session", "session;", "session; ;", ";session", "session,session",
            "0", "session skew", "session skew 10", "session skew 1 slow 1", "session fast 1", "session slow 0001",
            "job group 6 priority 0 cost 1", "job group 0 priority 10", "job group 0 priority 0 cost 0",
            "job group 0 priority 0 cost 10", "job group 0 cost 1", "job group 0 priority 0 cost 1 in 100",
            "job group 0 priority 0 cost 1 in", "job group 0 priority 0 cost 1 at 1", "job group priority",
            "parallel 6 1", "parallel 0 0", "parallel 0 5", "parallel 05", "parallel", "parallel 0 1 1",
            "every 0 at", "every 61", "every 5 at 60", "every 5 group", "every 5 at 0 group 0 priority 0 cost 1 grace 10",
            "every 5 at 0 group 0 priority 0 cost 1 grace", "every 5 at 0 group 0 priority 0 cost 1 each grace 1",
            "lease 0", "lease 61", "base 0", "base 10", "cap 0", "cap 100", "jitter 10", "limit 0", "limit 10",
            "lease 3 lease 3", "lease -1", "lease\t3", "  ", " lease  ", "leasea 3", "leasez 3", "lease 3z",
        };
        int[] faults = {
            3, 0, 0, 4, 0, 0, 8, 9, 0, 7,
            0, 12, 13, 15, 8, 13,
            10, 21, 28,
            28, 12, 33,
            32, 30, 10,
            9, 11, 11, 11, 8, 13,
            6, 6, 11, 8, 45,
            44, 44,
            6, 6, 5, 5, 4, 4, 7, 6, 6,
            8, 6, 5, -1, 8, 0, 0, 7,
        };
        for (int i = 0; i < texts.length; i++) {
            String text = texts[i];
            Bench.due(6, "'" + text + "'", faults[i], () -> b.tableFault(text));
        }
        Bench.due(4, "texts of which one was right", 1, () -> b.x.count(3));
        Bench.due(6, "a late fault", 50, () -> b.tableFault("session;lease 9;job group 0 priority 0 cost 1;cap 0"));
        Bench.due(4, "of a wrong text nothing stays", "0 0 0 5", () -> b.x.count(0) + " " + b.x.count(1) + " "
            + b.x.count(7) + " " + b.x.count(12));
        Bench.due(4, "a wrong text", IAE, () -> b.table("x"));
        Bench.due(4, "the TAPE is used up by it", 20, () -> b.x.feed(0, 0, 0, 0, 0));
    }

    private static void tooMany() {
        Bench b = new Bench();
        Bench.due(4, "14 lines", -1, () -> b.tableFault("cap 1;".repeat(13) + "cap 1"));
        Bench.due(6, "15 lines", 84, () -> b.tableFault("cap 1;".repeat(14) + "cap 1"));
        Bench.due(6, "14 lines and a ; ", 85, () -> b.tableFault("cap 1;".repeat(14) + " "));
        Bench.due(6, "five sessions", 35, () -> b.tableFault("session;session;session ; session; session"));
        Bench.due(4, "four sessions", -1, () -> b.tableFault("session;session;session;session"));
        Bench.due(6, "a fifth session", 6, () -> b.tableFault("cap 9;session"));
        String every = "every 9 at 0 group 0 priority 0 cost 1";
        Bench.due(4, "four schedules", -1, () -> b.tableFault(every + ";" + every + ";" + every + ";" + every));
        Bench.due(6, "a fifth schedule", 0, () -> b.tableFault(every));
        String job = "job group 0 priority 0 cost 1";
        Bench.due(4, "12 jobs", -1, () -> b.tableFault((job + ";").repeat(11) + job));
        Bench.due(4, "10 jobs", -1, () -> b.tableFault((job + ";").repeat(9) + job));
        b.x.begin(0);
        b.x.bring(0, 0, 0, 1);
        Bench.due(6, "a 25th job, one being brought", 30, () -> b.tableFault(job + ";" + job));
        Bench.due(4, "a 24th job", -1, () -> b.tableFault(job));
        Bench.due(4, "JOBS of THE TABLE", 23, () -> b.x.count(0));
    }

    private static void twelveTexts() {
        Bench b = new Bench();
        for (int i = 1; i <= 12; i++) {
            int due = i;
            Bench.due(4, "text " + i, due, () -> b.table("lease 7"));
        }
        Bench.due(4, "a 13th text", UOE, () -> b.table("lease 8"));
        Bench.due(6, "fault() of a 13th text", -1, () -> b.x.fault());
        Bench.due(4, "a wrong 13th text", IAE, () -> b.table("lease 0"));
        Bench.due(6, "fault() of a wrong 13th text", 6, () -> b.x.fault());
        Bench.due(4, "LEASE", 7, () -> b.x.count(12));
        Bench.due(4, "the TAPE is used up", 20, () -> b.x.feed(0, 0, 0, 0, 0));
    }

    private static void wrongQueries() {
        Bench b = Bench.of("session;session");
        String[] texts = {
            "", "   ", "claims 1", "claim", "claim 0", "claim 7", "claim x", "claim 1 1", "claim 1 where", "claim 1 where a = 1",
            "claim 1 where cost", "claim 1 where cost ~ 3", "claim 1 where cost = 1000", "claim 1 where cost = 0001",
            "claim 1 where cost = x", "claim 1 where cost = 1 and", "claim 1 where cost = 1 or cost = 2",
            "claim 1 where cost = 1 , cost = 2", "claim 1 order cost", "claim 1 order by", "claim 1 order by cost,",
            "claim 1 order by cost desc desc", "claim 1 order by costs", "claim 1 order by cost where cost = 1",
            "claim 1 order by cost group", "claim 1 where cost=1 and cost=1 and cost=1 and cost=1 and cost=1",
            "claim 1 order by cost,cost,cost desc,cost,cost", "claim 1 order by cost,cost,cost,cost,", "claim 1;", "claim 1 order  BY",
            "claim 1 where cost 3", "claim 1 where cost=1 and cost=1 and cost=1 and cost=1 and",
            "claim 1 where cost=1 and cost=1 and cost=1 and cost=1 and order by cost",
        };
        int[] faults = {
            0, 3, 0, 5, 6, 6, 6, 8, 13, 14,
            18, 19, 21, 21,
            21, 26, 23,
            23, 14, 16, 22,
            27, 17, 22,
            22, 58,
            42, 37, 7, 15,
            19, 57, 58,
        };
        for (int i = 0; i < texts.length; i++) {
            String text = texts[i];
            Bench.due(6, "'" + text + "'", faults[i], () -> b.queryFault(0, text));
        }
        Bench.due(5, "N stays by wrong texts", 1, () -> b.x.session(0, 5));
        Bench.due(5, "a wrong query", IAE, () -> b.query(0, "claim 9"));
        Bench.due(5, "a query of no session", IOOBE, () -> b.query(2, "claim"));
        Bench.due(6, "which was not read", 6, () -> b.x.fault());
        Bench.due(5, "but used the TAPE up", 20, () -> b.x.feed(0, 0, 0, 0, 0));
        Bench.due(5, "a query of session -1", IOOBE, () -> b.query(-1, "claim 1"));
    }

    private static void queriesOfAllKinds() {
        Bench b = Bench.of("session;session;base 4;job group 0 priority 1 cost 2;job group 1 priority 3 cost 1 in 1;"
            + "job group 2 priority 2 cost 3 in 2");
        b.x.ticks(3);
        b.table("job group 3 priority 2 cost 2;job group 4 priority 9 cost 9");
        b.x.claim(1);
        b.x.fail(1, 0, 1, 2);
        b.x.ticks(4);
        String[] texts = {
            "claim 6", "claim 2", "claim 6 where number > 0 and number < 4", "claim 6 where group ! 2", "claim 6 where priority = 2",
            "claim 6 where cost > 1 and cost < 9", "claim 6 where tries = 1", "claim 6 where age = 7", "claim 6 where age < 5",
            "claim 6 where late = 5 ", "claim 6 where late > 3 and number ! 1", "claim 6 order by turn",
            "claim 6 order by priority desc", "claim 6 order by priority,cost desc", "claim6order by late desc,number desc",
            "claim 6 order by tries desc , age , group desc", "claim 6 where turn = 1", "claim 1 where turn = 0",
            "claim 6 where turn < 2 order by turn desc",
        };
        String[] dues = {
            "0 1 2 3 4", "0 1", "1 2 3", "0 1 3 4", "2 3",
            "0 2 3", "0", "0 1 2", "3 4",
            "2", "2 3 4", "0 1 2 3 4",
            "4 1 2 3 0", "0 2 3 1 4", "1 2 4 3 0",
            "0 4 3 2 1", "1 3", "0",
            "1 3 4 0 2",
        };
        for (int i = 0; i < texts.length; i++) {
            String text = texts[i];
            Bench.due(5, "'" + text + "' tells N", text.charAt(5) == '6' ? 6 : text.charAt(6) - '0', () -> b.query(0, text));
            Bench.due(5, "'" + text + "'", dues[i], () -> b.next(0));
        }
        Bench.due(5, "the query of another session stays", 1, () -> b.x.session(1, 5));
    }

    private static void whyStays() {
        Bench b = Bench.of("session");
        Bench.due(7, "commit without a transaction", IllegalStateException.class, () -> b.x.commit(0));
        Bench.due(7, "why()", 1, () -> b.x.why());
        Bench.due(7, "a call that does not tell of it", 0, () -> b.x.claim(0));
        Bench.due(7, "why() stays", 1, () -> b.x.why());
        Bench.due(7, "a call that throws another exception", IOOBE, () -> b.x.begin(1));
        Bench.due(7, "why() still stays", 1, () -> b.x.why());
        Bench.due(7, "one that goes well", 1, () -> b.x.begin(0));
        Bench.due(7, "why() then", 0, () -> b.x.why());
        b.x.bring(0, 0, 0, 1);
        Bench.due(7, "retry of one WAITING", IllegalStateException.class, () -> b.x.retry(0, 0));
        Bench.due(7, "why() then", 3, () -> b.x.why());
    }
}
