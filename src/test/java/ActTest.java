/** Promises 13 to 21: claims, what is done with a token, reaping, trying anew, bringing, sweeping. */
public final class ActTest {
    private static final Object ISE = IllegalStateException.class;
    private static final Object IAE = IllegalArgumentException.class;
    private static final Object IOOBE = IndexOutOfBoundsException.class;
    private static final Object UOE = UnsupportedOperationException.class;

    public static void main(String[] args) {
        claims();
        claimsPastOthers();
        needsOfTokens();
        renews();
        finishes();
        fails();
        waits();
        keepsNineCauses();
        gives();
        reaps();
        triesAnew();
        brings();
        sweeps();
        Bench.end("ActTest");
    }

    /** A job of group 0 that session 0 claimed at MONO 0 with token 1. */
    private static Bench held(String more) {
        Bench b = Bench.of("session;session;job group 0 priority 1 cost 1" + more);
        b.x.claim(0);
        return b;
    }

    private static String ofJob(Bench b, int session, int job) {
        StringBuilder all = new StringBuilder();
        for (int what : new int[] {3, 5, 6, 8, 9, 10}) {
            all.append(all.length() == 0 ? "" : " ").append(b.x.job(session, job, what));
        }
        return all.toString();
    }

    private static void claims() {
        Bench b = Bench.of("session;session;lease 9;job group 2 priority 1 cost 1;job group 2 priority 9 cost 1;"
            + "job group 1 priority 5 cost 1;job group 3 priority 7 cost 1 in 3");
        Bench.due(13, "claim of no session", IOOBE, () -> b.x.claim(2));
        Bench.due(13, "claim of session -1", IOOBE, () -> b.x.claim(-1));
        b.x.ticks(2);
        b.query(0, "claim 6 order by priority desc");
        Bench.due(13, "claim", 2, () -> b.x.claim(0));
        Bench.due(13, "the first: STATE DUE TRIES TOKEN HOLDER UNTIL", "1 0 0 1 0 11", () -> ofJob(b, -1, 2));
        Bench.due(13, "the second", "1 0 0 2 0 11", () -> ofJob(b, -1, 0));
        Bench.due(13, "one behind a HELD one of its group", "0 0 0 0 -1 0", () -> ofJob(b, -1, 1));
        Bench.due(13, "one not DUE", "0 3 0 0 -1 0", () -> ofJob(b, -1, 3));
        Bench.due(13, "TOKENS", 2, () -> b.x.count(6));
        Bench.due(13, "LATEST", 2, () -> b.x.session(0, 4));
        Bench.due(13, "rows of THE LOG", "2 2 1 1 0", () -> b.log(0));
        Bench.due(13, "LOCKED none behind it", -1, () -> b.x.locked(0));
        Bench.due(13, "nothing to claim", 0, () -> b.x.claim(1));
        b.table("parallel 2 2");
        Bench.due(13, "with room in the group", 1, () -> b.x.claim(1));
        Bench.due(13, "the other one's", "1 0 0 3 1 11", () -> ofJob(b, -1, 1));
        b.x.ticks(1);
        Bench.due(13, "when DUE is MONO", 1, () -> b.x.claim(1));
    }

    private static void claimsPastOthers() {
        Bench b = Bench.of("session;session;parallel 0 2;job group 0 priority 0 cost 1;job group 0 priority 0 cost 1;"
            + "job group 0 priority 0 cost 1;job group 1 priority 0 cost 1");
        b.x.begin(0);
        b.x.claim(0);
        // Job 0 is LOCKED and HELD, but WAITING by THE TABLE: nobody overtakes it.
        Bench.due(13, "the other one skips the whole group", 3, () -> b.claimed(1));
        Bench.due(13, "its own next in the group", 1, () -> b.claimed(0));
        Bench.due(13, "its group is full", 0, () -> b.x.claim(0));
        b.x.commit(0);
        b.x.finish(0, 0, 1);
        Bench.due(13, "another one with one HELD", 2, () -> b.claimed(1));
        b.table("job group 2 priority 0 cost 1");
        b.x.begin(0);
        b.x.bring(0, 2, 9, 1);
        // What another one brought and did not commit is not seen, but takes room.
        Bench.due(13, "a group that another one brings to", 0, () -> b.x.claim(1));
        Bench.due(13, "and for the one that brings", 4, () -> b.claimed(0));
    }

    private static void needsOfTokens() {
        Bench b = held(";job group 1 priority 0 cost 1;lease 2");
        b.x.begin(1);
        b.x.claim(1);
        b.x.save(1);
        int[][] wrongs = {{0, 0, 2, 3}, {0, 0, 0, 3}, {1, 0, 1, 3}, {0, 1, 2, 2}, {1, 1, 1, 3}, {0, 1, 0, 2}};
        for (int[] w : wrongs) {
            for (int act = 14; act <= 17; act++) {
                int promise = act;
                Bench.due(promise, "session " + w[0] + " job " + w[1] + " token " + w[2], ISE, () -> token(b, promise, w[0], w[1], w[2]));
                Bench.due(7, "why()", w[3], () -> b.x.why());
            }
        }
        for (int act = 14; act <= 17; act++) {
            int promise = act;
            Bench.due(promise, "no session", IOOBE, () -> token(b, promise, 2, 0, 1));
            Bench.due(promise, "session NONE", IOOBE, () -> token(b, promise, -1, 0, 1));
            Bench.due(promise, "no job", IOOBE, () -> token(b, promise, 0, 2, 1));
            Bench.due(7, "why() stays", 2, () -> b.x.why());
        }
        b.x.bring(1, 3, 3, 3);
        Bench.due(15, "a job that another one brought", IOOBE, () -> b.x.finish(0, 2, 0));
        b.x.ticks(6);
        for (int act = 14; act <= 17; act++) {
            int promise = act;
            Bench.due(promise, "too late", ISE, () -> token(b, promise, 0, 0, 1));
            Bench.due(7, "why()", 4, () -> b.x.why());
        }
        Bench.due(14, "what throws changes nothing", "1 0 0 1 0 2", () -> ofJob(b, 0, 0));
        Bench.due(14, "nor locks", -1, () -> b.x.locked(0));
        b.x.reap(0);
        Bench.due(17, "too late and not HELD", ISE, () -> b.x.give(0, 0, 1));
        Bench.due(7, "the least", 3, () -> b.x.why());
    }

    private static int token(Bench b, int promise, int session, int job, int token) {
        switch (promise) {
            case 14: return b.x.renew(session, job, token);
            case 15: return b.x.finish(session, job, token);
            case 16: return b.x.fail(session, job, token, 0);
            default: return b.x.give(session, job, token);
        }
    }

    private static void renews() {
        Bench b = held("");
        b.x.ticks(5);
        Bench.due(14, "just in time", 10, () -> b.x.renew(0, 0, 1));
        Bench.due(14, "HELD still", "1 0 0 1 0 10", () -> ofJob(b, -1, 0));
        Bench.due(14, "its row", "5 0 1 1 0", () -> b.log(0));
        b.table("lease 60");
        Bench.due(14, "with another LEASE", 65, () -> b.x.renew(0, 0, 1));
        Bench.due(7, "why()", 0, () -> b.x.why());
        b.x.begin(0);
        b.x.renew(0, 0, 1);
        b.table("lease 1");
        Bench.due(14, "it may become less", 6, () -> b.x.renew(0, 0, 1));
        Bench.due(14, "THE TABLE's stays", 65, () -> b.x.job(-1, 0, 10));
        b.x.ticks(2);
        Bench.due(14, "one too late", ISE, () -> b.x.renew(0, 0, 1));
    }

    private static void finishes() {
        Bench b = held(";limit 9");
        b.x.fail(0, 0, 1, 2);
        b.x.ticks(1);
        b.x.claim(1);
        Bench.due(15, "TRIES", 1, () -> b.x.finish(1, 0, 2));
        Bench.due(15, "DONE", "2 1 1 2 1 6", () -> ofJob(b, -1, 0));
        Bench.due(15, "its row", "1 0 2 2 1", () -> b.log(0));
        Bench.due(15, "again", ISE, () -> b.x.finish(1, 0, 2));
        Bench.due(7, "why()", 3, () -> b.x.why());
    }

    private static void fails() {
        Bench b = held(";limit 3;base 4");
        Bench.due(16, "cause 6", IAE, () -> b.x.fail(0, 0, 1, 6));
        Bench.due(16, "cause -1", IAE, () -> b.x.fail(0, 0, 1, -1));
        Bench.due(16, "no session ahead of no cause", IOOBE, () -> b.x.fail(2, 0, 1, 6));
        Bench.due(16, "no job ahead of no cause", IOOBE, () -> b.x.fail(0, 1, 1, 6));
        Bench.due(16, "no cause ahead of a wrong token", IAE, () -> b.x.fail(0, 0, 2, 6));
        Bench.due(7, "why() stays", 0, () -> b.x.why());
        Bench.due(16, "the first time", 0, () -> b.x.fail(0, 0, 1, 4));
        Bench.due(16, "WAITING", "0 4 1 1 0 5", () -> ofJob(b, -1, 0));
        b.x.ticks(4);
        b.x.claim(0);
        Bench.due(16, "the second time", 0, () -> b.x.fail(0, 0, 2, 3));
        Bench.due(16, "DUE by 2 TRIES", "0 12 2 2 0 9", () -> ofJob(b, -1, 0));
        b.x.ticks(8);
        b.x.claim(0);
        Bench.due(16, "LIMIT reached", 3, () -> b.x.fail(0, 0, 3, 0));
        Bench.due(16, "SET ASIDE, DUE stays", "3 12 3 3 0 17", () -> ofJob(b, -1, 0));
        Bench.due(25, "CAUSES, the latest first", "0 3 4 -1", () -> b.x.cause(-1, 0, 0) + " " + b.x.cause(-1, 0, 1) + " "
            + b.x.cause(-1, 0, 2) + " " + b.x.cause(-1, 0, 3));
        Bench.due(24, "how many CAUSES", 3, () -> b.x.job(-1, 0, 7));
        Bench fatal = held(";limit 9");
        Bench.due(16, "cause 5", 3, () -> fatal.x.fail(0, 0, 1, 5));
        Bench.due(16, "SET ASIDE at once", "3 0 1 1 0 5", () -> ofJob(fatal, -1, 0));
    }

    private static void waits() {
        Bench b = Bench.of("session;job group 0 priority 0 cost 1;job group 1 priority 0 cost 1;job group 2 priority 0 cost 1;"
            + "base 3;cap 10;jitter 4;limit 9;lease 60");
        b.query(0, "claim 1 where number = 2");
        // WAIT of N for NUMBER 2: 3 6 10 10 .. and what is left of 14 and 3 N by 5.
        int[] waits = {3 + 2, 6 + 0, 10 + 3, 10 + 1, 10 + 4, 10 + 2, 10 + 0, 10 + 3};
        int token = 0;
        for (int i = 0; i < waits.length; i++) {
            b.x.claim(0);
            token++;
            b.x.fail(0, 2, token, 1);
            int due = b.x.count(4) + waits[i];
            Bench.due(16, "WAIT of " + (i + 1), due, () -> b.x.job(0, 2, 5));
            b.x.ticks(waits[i]);
        }
        b.x.claim(0);
        Bench.due(16, "the ninth time", 3, () -> b.x.fail(0, 2, 9, 1));
    }

    private static void keepsNineCauses() {
        Bench b = Bench.of("session;job group 0 priority 0 cost 1;limit 9;cap 1");
        int[] causes = {5, 0, 1, 2, 3, 4, 0, 1, 2, 3, 4};
        for (int i = 0; i < causes.length; i++) {
            b.x.claim(0);
            b.x.fail(0, 0, i + 1, causes[i]);
            if (b.x.job(0, 0, 3) == 3) {
                b.x.retry(0, 0);
            }
            b.x.ticks(1);
        }
        Bench.due(25, "nine CAUSES", 9, () -> b.x.job(0, 0, 7));
        for (int k = 0; k < 9; k++) {
            int asked = k;
            Bench.due(25, "cause " + k, causes[causes.length - 1 - k], () -> b.x.cause(0, 0, asked));
        }
        Bench.due(25, "cause 9", -1, () -> b.x.cause(0, 0, 9));
    }

    private static void gives() {
        Bench b = held("");
        b.x.ticks(3);
        Bench.due(17, "UNTIL less MONO", 2, () -> b.x.give(0, 0, 1));
        Bench.due(17, "WAITING, DUE now", "0 3 0 1 0 5", () -> ofJob(b, -1, 0));
        Bench.due(17, "its row", "3 0 0 1 0", () -> b.log(0));
        Bench.due(17, "again", ISE, () -> b.x.give(0, 0, 1));
        b.x.claim(1);
        b.x.ticks(5);
        Bench.due(17, "at the very end", 0, () -> b.x.give(1, 0, 2));
    }

    private static void reaps() {
        Bench b = Bench.of("session;session;lease 3;base 2;limit 2;job group 0 priority 0 cost 1;job group 1 priority 0 cost 1;"
            + "job group 2 priority 0 cost 1;job group 3 priority 0 cost 1");
        b.query(0, "claim 3");
        b.x.claim(0);
        b.x.claim(1);
        b.x.ticks(3);
        Bench.due(18, "reap of no session", IOOBE, () -> b.x.reap(2));
        Bench.due(18, "none is late", 0, () -> b.x.reap(0));
        b.x.begin(0);
        b.x.renew(0, 1, 2);
        b.x.ticks(1);
        Bench.due(18, "by whomever, but not the LOCKED one", 3, () -> b.x.reap(1));
        Bench.due(18, "WAITING", "0 6 1 1 0 3", () -> ofJob(b, -1, 0));
        Bench.due(18, "by cause 6", 6, () -> b.x.cause(-1, 3, 0));
        Bench.due(18, "rows by NUMBERS", "4 3 0 4 1", () -> b.log(0));
        Bench.due(18, "rows by NUMBERS", "4 0 0 1 0", () -> b.log(2));
        Bench.due(18, "its own LOCKED one is not late", 0, () -> b.x.reap(0));
        b.x.ticks(3);
        Bench.due(18, "now it is", 1, () -> b.x.reap(0));
        Bench.due(18, "LOCKED by that", 0, () -> b.x.locked(1));
        b.x.roll(0);
        b.x.claim(1);
        b.x.ticks(4);
        Bench.due(18, "the second time", 2, () -> b.x.reap(1));
        Bench.due(18, "SET ASIDE by LIMIT", 3, () -> b.x.job(-1, 0, 3));
        Bench.due(18, "the one that was not renewed in the end", "0 13 1 2 0 3", () -> ofJob(b, -1, 1));
    }

    private static void triesAnew() {
        Bench b = held(";limit 2");
        Bench.due(19, "one that is HELD", ISE, () -> b.x.retry(0, 0));
        Bench.due(7, "why()", 3, () -> b.x.why());
        b.x.fail(0, 0, 1, 2);
        b.x.ticks(1);
        b.x.claim(1);
        b.x.fail(1, 0, 2, 3);
        b.x.ticks(2);
        b.x.begin(1);
        Bench.due(19, "TRIES as they were", 2, () -> b.x.retry(1, 0));
        Bench.due(7, "why()", 0, () -> b.x.why());
        Bench.due(19, "WAITING", "0 3 0 2 1 6", () -> ofJob(b, 1, 0));
        Bench.due(19, "CAUSES stay", "2 3", () -> b.x.job(1, 0, 7) + " " + b.x.cause(1, 0, 0));
        Bench.due(19, "LOCKED by another one", ISE, () -> b.x.retry(0, 0));
        Bench.due(7, "why()", 2, () -> b.x.why());
        Bench.due(19, "no session", IOOBE, () -> b.x.retry(2, 0));
        Bench.due(19, "no job", IOOBE, () -> b.x.retry(0, 1));
        b.x.commit(1);
        Bench.due(19, "its row", "3 0 0 2 1", () -> b.log(0));
        b.x.claim(0);
        b.x.fail(0, 0, 3, 5);
        Bench.due(19, "without a transaction", 1, () -> b.x.retry(1, 0));
        Bench.due(19, "COMMITTED at once", "3 0 0 3 0 -1", () -> b.log(0) + " " + b.x.locked(0));
    }

    private static void brings() {
        Bench b = Bench.of("session;session");
        b.x.ticks(9);
        Bench.due(20, "no session", IOOBE, () -> b.x.bring(2, 0, 0, 1));
        Bench.due(20, "no group", IOOBE, () -> b.x.bring(0, 6, 10, 1));
        Bench.due(20, "no group -1", IOOBE, () -> b.x.bring(0, -1, 0, 1));
        int[][] wrongs = {{-1, 1}, {10, 1}, {0, 0}, {0, 10}};
        for (int[] w : wrongs) {
            Bench.due(20, "priority " + w[0] + " cost " + w[1], IAE, () -> b.x.bring(0, 0, w[0], w[1]));
        }
        Bench.due(20, "a NUMBER", 0, () -> b.x.bring(0, 5, 9, 9));
        int[] due = {5, 9, 9, 0, 9, 9, 0, 0, 0, -1, 0, -1, -1};
        for (int what = 0; what < due.length; what++) {
            int asked = what;
            Bench.due(20, "what " + what, due[what], () -> b.x.job(-1, 0, asked));
        }
        Bench.due(20, "COMMITTED at once", "9 0 0 0 -1", () -> b.log(0));
        b.x.begin(0);
        Bench.due(20, "in a transaction", 1, () -> b.x.bring(0, 0, 0, 1));
        Bench.due(20, "the other one's", 2, () -> b.x.bring(1, 0, 0, 1));
        for (int i = 3; i < 24; i++) {
            b.x.bring(i % 2, i % 6, 0, 1);
        }
        Bench.due(20, "a 25th", UOE, () -> b.x.bring(1, 0, 0, 1));
        Bench.due(20, "a wrong 25th", IAE, () -> b.x.bring(1, 0, 0, 0));
        Bench.due(20, "JOBS of THE TABLE", 13, () -> b.x.count(0));
        b.x.roll(0);
        Bench.due(20, "with room again", 24, () -> b.x.bring(1, 0, 0, 1));
    }

    private static void sweeps() {
        Bench b = Bench.of("session;session;lease 9;job group 0 priority 0 cost 1;job group 1 priority 0 cost 1;"
            + "job group 2 priority 0 cost 1;job group 3 priority 0 cost 1");
        Bench.due(21, "none DONE", 0, () -> b.x.sweep());
        b.query(0, "claim 4");
        b.x.claim(0);
        b.x.finish(0, 1, 2);
        b.x.fail(0, 2, 3, 5);
        b.x.finish(0, 3, 4);
        b.x.begin(0);
        b.x.finish(0, 0, 1);
        Bench.due(21, "DONE by THE TABLE", 2, () -> b.x.sweep());
        Bench.due(21, "JOBS", "0 2", () -> b.x.find(1, 0) + " " + b.x.find(3, 0));
        Bench.due(21, "gone", IOOBE, () -> b.x.job(-1, 1, 0));
        b.x.commit(0);
        Bench.due(21, "DONE and COMMITTED", 1, () -> b.x.sweep());
        Bench.due(21, "SWEPT", 3, () -> b.x.count(9));
        Bench.due(21, "CAME", 4, () -> b.x.count(7));
        Bench.due(20, "the next NUMBER", 4, () -> b.x.bring(0, 0, 0, 1));
        b.x.bring(1, 5, 9, 9);
        b.x.bring(1, 4, 8, 8);
        Bench.due(21, "each of those that come then is a job by itself", "2 4 5 6 0 5 4", () -> b.x.find(3, 0) + " " + b.found(0) + " "
            + b.x.job(-1, 4, 0) + " " + b.x.job(-1, 5, 0) + " " + b.x.job(-1, 6, 0));
        b.x.retry(0, 2);
        b.query(0, "claim 1 where number = 2");
        b.x.claim(0);
        b.x.fail(0, 2, 5, 1);
        b.x.ticks(5);
        b.x.claim(0);
        b.x.finish(0, 2, 6);
        b.x.sweep();
        int fresh = b.x.bring(0, 3, 0, 1);
        Bench.due(20, "nothing is left of one that went", "0 5 0 0 -1 0", () -> ofJob(b, -1, fresh));
        Bench.due(20, "nor of its CAUSES", "0 -1", () -> b.x.job(-1, fresh, 7) + " " + b.x.cause(-1, fresh, 0));
    }
}
