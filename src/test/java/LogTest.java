/** Promises 37 to 43: what THE LOG and the CAUSES tell, and what is found. */
public final class LogTest {
    private static final Object IAE = IllegalArgumentException.class;
    private static final Object IOOBE = IndexOutOfBoundsException.class;
    private static final Object NSEE = java.util.NoSuchElementException.class;

    public static void main(String[] args) {
        rowsOfTheLog();
        keepsSixtyRows();
        heldAt();
        longestHolds();
        overtakes();
        causesAlike();
        rootsOfThoseSetAside();
        finds();
        Bench.end("LogTest");
    }

    private static void rowsOfTheLog() {
        Bench b = Bench.of("session;session;job group 0 priority 0 cost 1");
        Bench.due(43, "an empty log", "-1 -1 -1 -1 -1", () -> b.log(0));
        Bench.due(43, "no what, empty", NSEE, () -> b.x.log(0, 5));
        Bench.due(43, "no what -1", NSEE, () -> b.x.log(-1, -1));
        b.x.claim(1);
        b.x.ticks(2);
        b.x.renew(1, 0, 1);
        b.x.ticks(1);
        b.x.finish(1, 0, 1);
        Bench.due(43, "the latest", "3 0 2 1 1", () -> b.log(0));
        Bench.due(43, "the one ahead of it", "2 0 1 1 1", () -> b.log(1));
        Bench.due(43, "the first", "0 0 1 1 1", () -> b.log(2));
        Bench.due(43, "ahead of the first", -1, () -> b.x.log(3, 0));
        Bench.due(43, "ago -1", -1, () -> b.x.log(-1, 0));
        Bench.due(43, "the greatest ago", -1, () -> b.x.log(Integer.MAX_VALUE, 0));
        Bench.due(43, "the least ago", -1, () -> b.x.log(Integer.MIN_VALUE, 4));
        Bench.due(46, "rows", 3, () -> b.x.count(17));
    }

    private static void keepsSixtyRows() {
        Bench b = Bench.of("session;job group 0 priority 0 cost 1");
        for (int i = 1; i <= 31; i++) {
            b.x.claim(0);
            b.x.ticks(1);
            b.x.give(0, 0, i);
        }
        Bench.due(43, "60 at most", 60, () -> b.x.count(17));
        Bench.due(43, "the eldest that is kept", "1 0 1 2 0", () -> b.log(59));
        Bench.due(43, "none ahead of it", -1, () -> b.x.log(60, 0));
        Bench.due(43, "the latest", "31 0 0 31 0", () -> b.log(0));
        Bench.due(37, "a row that is gone", -1, () -> b.x.was(0, 0));
        Bench.due(37, "the eldest that is kept", 2, () -> b.x.was(0, 1));
        b.table("session");
        Bench.due(43, "the latest behind a text", "31 0 0 31 0", () -> b.log(0));
        b.x.image();
        b.x.claim(1);
        b.x.back();
        Bench.due(43, "the latest behind going back", "31 0 0 31 0", () -> b.log(0));
        Bench.due(43, "the eldest behind going back", "1 0 1 2 0", () -> b.log(59));
    }

    private static void heldAt() {
        Bench b = Bench.of("session;session;job group 0 priority 0 cost 1;job group 1 priority 0 cost 1");
        b.x.begin(1);
        b.x.bring(1, 0, 0, 1);
        Bench.due(37, "no job", IOOBE, () -> b.x.was(3, 0));
        Bench.due(37, "job -1", IOOBE, () -> b.x.was(-1, 0));
        Bench.due(37, "one brought", IOOBE, () -> b.x.was(2, 0));
        Bench.due(37, "without a row", -1, () -> b.x.was(0, 9999));
        b.query(0, "claim 1 where group < 2 order by group desc");
        b.x.ticks(2);
        b.x.claim(0);
        b.x.ticks(2);
        b.x.give(0, 1, 1);
        b.x.claim(0);
        b.x.ticks(3);
        b.x.finish(0, 1, 2);
        int[] due = {-1, -1, 1, 1, 2, 2, 2, -1, -1};
        for (int m = 0; m < due.length; m++) {
            int mono = m;
            Bench.due(37, "at " + m, due[m], () -> b.x.was(1, mono));
        }
        Bench.due(37, "at -1", -1, () -> b.x.was(1, -1));
        Bench.due(37, "another job", -1, () -> b.x.was(0, 5));
        b.x.sweep();
        Bench.due(37, "one that went", IOOBE, () -> b.x.was(1, 5));
    }

    private static void longestHolds() {
        Bench b = Bench.of("session;session;lease 60;limit 9;job group 0 priority 0 cost 1;job group 1 priority 0 cost 1");
        Bench.due(38, "without a row", 0, () -> b.x.longest());
        b.query(0, "claim 2");
        b.x.claim(0);
        b.x.ticks(4);
        Bench.due(38, "none is over", 0, () -> b.x.longest());
        b.x.renew(0, 0, 1);
        Bench.due(38, "up to a renewal", 4, () -> b.x.longest());
        b.x.ticks(3);
        b.x.finish(0, 0, 1);
        Bench.due(38, "each row by itself", 4, () -> b.x.longest());
        b.x.ticks(50);
        b.x.fail(0, 1, 2, 0);
        Bench.due(38, "of another job", 57, () -> b.x.longest());
        b.x.ticks(60);
        b.x.ticks(60);
        b.x.claim(1);
        Bench.due(38, "WAITING is not HELD", 57, () -> b.x.longest());
        Bench c = Bench.of("session;lease 1;job group 0 priority 0 cost 1");
        c.x.claim(0);
        c.x.image();
        c.x.ticks(9);
        c.x.begin(0);
        c.x.reap(0);
        c.x.ticks(1);
        c.x.claim(0);
        c.x.commit(0);
        Bench.due(38, "the next later row is of another TOKEN", 0, () -> c.x.longest());
        c.x.back();
        c.x.ticks(9);
        c.x.reap(0);
        Bench.due(38, "up to the reaping", 9, () -> c.x.longest());
    }

    private static void overtakes() {
        Bench b = Bench.of("session;session;parallel 0 4;lease 60;job group 0 priority 0 cost 1;job group 0 priority 0 cost 1;"
            + "job group 0 priority 0 cost 1;job group 1 priority 0 cost 1");
        Bench.due(39, "no group", IOOBE, () -> b.x.overtaken(6));
        Bench.due(39, "group -1", IOOBE, () -> b.x.overtaken(-1));
        Bench.due(39, "nobody", 0, () -> b.x.overtaken(0));
        b.query(1, "claim 1 where group = 1");
        b.x.claim(1);
        b.query(1, "claim 1");
        Bench.due(39, "pairs are of one group", "0 0", () -> b.x.overtaken(0) + " " + b.x.overtaken(1));
        // Session 0 claims job 0 and sets it aside unseen; once that is COMMITTED only its last STATE has a row.
        b.x.begin(0);
        b.x.claim(0);
        b.x.fail(0, 0, 2, 5);
        b.x.commit(0);
        Bench.due(39, "set aside without a row that is HELD", 0, () -> b.x.overtaken(0));
        b.x.claim(1);
        Bench.due(39, "job 1 ahead of job 0, that has none", 1, () -> b.x.overtaken(0));
        b.x.claim(1);
        Bench.due(39, "job 2 too, but not ahead of job 1", 2, () -> b.x.overtaken(0));
        b.x.retry(0, 0);
        b.x.claim(0);
        Bench.due(39, "job 0 behind both", 2, () -> b.x.overtaken(0));
        Bench.due(39, "another group", 0, () -> b.x.overtaken(1));
        b.x.finish(1, 1, 3);
        b.x.sweep();
        Bench.due(39, "those that THE TABLE has", 1, () -> b.x.overtaken(0));
    }

    /** Jobs 0 to 3, failed in groups of their own by the causes told. */
    private static Bench failedBy(int[][] causes) {
        Bench b = Bench.of("session;session;limit 9;cap 1;base 1;job group 0 priority 0 cost 1;job group 1 priority 0 cost 1;"
            + "job group 2 priority 0 cost 1;job group 3 priority 0 cost 1");
        int token = 0;
        for (int job = 0; job < causes.length; job++) {
            b.query(0, "claim 1 where number = " + job);
            for (int cause : causes[job]) {
                b.x.claim(0);
                token++;
                b.x.fail(0, job, token, cause);
                b.x.ticks(1);
            }
        }
        return b;
    }

    private static void causesAlike() {
        Bench b = failedBy(new int[][] {{1, 2, 3, 4}, {4, 2, 3, 4}, {3, 4}, {}});
        int[][] due = {{0, 1, 3}, {1, 0, 3}, {0, 2, 2}, {2, 1, 2}, {0, 3, 0}, {3, 2, 0}};
        for (int[] d : due) {
            Bench.due(40, "alike(" + d[0] + ", " + d[1] + ")", d[2], () -> b.x.alike(d[0], d[1]));
        }
        Bench.due(40, "two are one", IAE, () -> b.x.alike(2, 2));
        Bench.due(40, "no job", IOOBE, () -> b.x.alike(4, 0));
        Bench.due(40, "no other job", IOOBE, () -> b.x.alike(0, -1));
        Bench.due(40, "no job twice", IOOBE, () -> b.x.alike(4, 4));
        b.query(0, "claim 1 where number = 3");
        b.x.begin(0);
        b.x.claim(0);
        b.x.fail(0, 3, b.x.count(6), 4);
        Bench.due(40, "by THE TABLE", 0, () -> b.x.alike(2, 3));
        b.x.commit(0);
        Bench.due(40, "COMMITTED", 1, () -> b.x.alike(2, 3));
    }

    private static void rootsOfThoseSetAside() {
        Bench b = failedBy(new int[][] {{1, 2, 5}, {1, 5}, {5}, {1}});
        int[] due = {0, 2, 0, 0, 0, 1, 0};
        for (int cause = 0; cause < due.length; cause++) {
            int asked = cause;
            Bench.due(41, "root(" + cause + ")", due[cause], () -> b.x.root(asked));
        }
        Bench.due(41, "root(7)", IAE, () -> b.x.root(7));
        Bench.due(41, "root(-1)", IAE, () -> b.x.root(-1));
        b.x.begin(0);
        b.x.retry(0, 0);
        Bench.due(41, "by THE TABLE", 2, () -> b.x.root(1));
        b.x.commit(0);
        Bench.due(41, "COMMITTED", 1, () -> b.x.root(1));
        b.table("limit 1;lease 1");
        b.query(1, "claim 1 where number = 0");
        b.x.claim(1);
        b.x.ticks(2);
        b.x.reap(1);
        Bench.due(41, "the eldest stays", 2, () -> b.x.root(1));
        Bench c = Bench.of("session;limit 1;lease 1;job group 0 priority 0 cost 1");
        c.x.claim(0);
        c.x.ticks(2);
        c.x.reap(0);
        Bench.due(41, "root(6)", 1, () -> c.x.root(6));
    }

    private static void finds() {
        Bench b = Bench.of("session;session;lease 3;job group 0 priority 0 cost 1;job group 1 priority 0 cost 1;"
            + "job group 2 priority 0 cost 1;job group 3 priority 0 cost 1;job group 4 priority 0 cost 1 in 4;job group 4 priority 0 cost 1");
        b.query(0, "claim 3");
        b.x.claim(0);
        b.x.finish(0, 1, 2);
        b.x.fail(0, 2, 3, 5);
        b.x.begin(1);
        b.x.claim(1);
        b.x.bring(1, 5, 0, 1);
        String[] due = {"3 4 5", "0", "1", "2", "3 6", "3 5", ""};
        for (int kind = 0; kind < 7; kind++) {
            int asked = kind;
            Bench.due(42, "kind " + kind, due[kind], () -> b.found(asked));
        }
        b.x.ticks(3);
        Bench.due(42, "UNTIL is MONO", "", () -> b.found(6));
        b.x.ticks(1);
        Bench.due(42, "UNTIL is below MONO", "0", () -> b.found(6));
        Bench.due(42, "DUE is MONO", "3 4 5", () -> b.found(5));
        b.x.reap(1);
        Bench.due(42, "by THE TABLE, whoever has it LOCKED", "0", () -> b.found(6));
        Bench.due(42, "LOCKED", "0 3 6", () -> b.found(4));
        Bench.due(42, "k -1", -1, () -> b.x.find(0, -1));
        Bench.due(42, "the greatest k", -1, () -> b.x.find(0, Integer.MAX_VALUE));
        Bench.due(42, "kind 7", NSEE, () -> b.x.find(7, 0));
        Bench.due(42, "kind -1", NSEE, () -> b.x.find(-1, -1));
    }
}
