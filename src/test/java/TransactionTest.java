/** Promises 8 to 12: transactions and savepoints; and 24 to 27: what each session sees. */
public final class TransactionTest {
    private static final Object ISE = IllegalStateException.class;
    private static final Object IAE = IllegalArgumentException.class;
    private static final Object IOOBE = IndexOutOfBoundsException.class;
    private static final Object NSEE = java.util.NoSuchElementException.class;
    private static final String THREE = "session;session slow 2;session skew 3;"
        + "job group 0 priority 0 cost 1;job group 1 priority 0 cost 1;job group 2 priority 0 cost 1";

    public static void main(String[] args) {
        begins();
        saves();
        undoes();
        undoesWhatWasChanged();
        commits();
        rolls();
        seesVersions();
        tellsOfSessions();
        Bench.end("TransactionTest");
    }

    private static void begins() {
        Bench b = Bench.of(THREE);
        Bench.due(8, "begin(1)", 1, () -> b.x.begin(1));
        Bench.due(8, "begin(0)", 2, () -> b.x.begin(0));
        Bench.due(8, "begin(0) again", ISE, () -> b.x.begin(0));
        Bench.due(7, "why()", 1, () -> b.x.why());
        Bench.due(8, "begin(3)", IOOBE, () -> b.x.begin(3));
        Bench.due(8, "begin(-1)", IOOBE, () -> b.x.begin(-1));
        Bench.due(46, "count(10)", 2, () -> b.x.count(10));
        Bench.due(27, "session(0, 0)", 1, () -> b.x.session(0, 0));
        Bench.due(27, "session(2, 0)", 0, () -> b.x.session(2, 0));
        b.x.commit(1);
        Bench.due(8, "begin(1) behind a commit", 2, () -> b.x.begin(1));
    }

    private static void saves() {
        Bench b = Bench.of(THREE);
        Bench.due(9, "save without a transaction", ISE, () -> b.x.save(0));
        Bench.due(7, "why()", 1, () -> b.x.why());
        Bench.due(9, "save of no session", IOOBE, () -> b.x.save(3));
        b.x.begin(0);
        for (int k = 0; k < 4; k++) {
            int due = k;
            Bench.due(9, "save " + k, due, () -> b.x.save(0));
        }
        Bench.due(7, "why()", 0, () -> b.x.why());
        Bench.due(9, "a fifth savepoint", ISE, () -> b.x.save(0));
        Bench.due(7, "why()", 1, () -> b.x.why());
        Bench.due(27, "SAVEPOINTS", 4, () -> b.x.session(0, 1));
        Bench.due(10, "undo(0, 2)", 0, () -> b.x.undo(0, 2));
        Bench.due(9, "save behind an undo", 3, () -> b.x.save(0));
        b.x.roll(0);
        Bench.due(27, "SAVEPOINTS without a transaction", 0, () -> b.x.session(0, 1));
        b.x.begin(0);
        Bench.due(9, "save in a new transaction", 0, () -> b.x.save(0));
        b.x.claim(0);
        b.x.undo(0, 0);
        b.x.claim(0);
        b.x.commit(0);
        b.x.begin(0);
        b.x.renew(0, 0, 2);
        b.x.save(0);
        b.x.commit(0);
        b.x.begin(0);
        b.x.save(0);
        b.x.renew(0, 0, 2);
        Bench.due(10, "a savepoint knows nothing of those of an older transaction", 1, () -> b.x.undo(0, 0));
    }

    private static void undoes() {
        Bench b = Bench.of(THREE);
        Bench.due(10, "undo without a transaction", ISE, () -> b.x.undo(0, 0));
        Bench.due(7, "why()", 1, () -> b.x.why());
        b.x.begin(0);
        Bench.due(10, "undo to no savepoint", IAE, () -> b.x.undo(0, 0));
        Bench.due(10, "undo of no session", IOOBE, () -> b.x.undo(7, 0));
        b.x.claim(0);
        b.x.save(0);
        b.x.claim(0);
        Bench.due(20, "bring", 3, () -> b.x.bring(0, 5, 1, 1));
        b.x.save(0);
        b.x.claim(0);
        Bench.due(46, "JOBS that are LOCKED", 4, () -> b.x.count(11));
        Bench.due(10, "undo(0, -1)", IAE, () -> b.x.undo(0, -1));
        Bench.due(10, "undo(0, 2)", IAE, () -> b.x.undo(0, 2));
        Bench.due(10, "undo(0, 1)", 1, () -> b.x.undo(0, 1));
        Bench.due(42, "LOCKED", "0 1 3", () -> b.found(4));
        Bench.due(10, "undo(0, 0), a brought one goes", 2, () -> b.x.undo(0, 0));
        Bench.due(42, "LOCKED", "0", () -> b.found(4));
        Bench.due(24, "the brought one is gone", IOOBE, () -> b.x.job(0, 3, 0));
        Bench.due(10, "a greater savepoint is gone", IAE, () -> b.x.undo(0, 1));
        Bench.due(10, "the savepoint itself stays", 0, () -> b.x.undo(0, 0));
        Bench.due(46, "TOKENS never go back", 3, () -> b.x.count(6));
        Bench.due(46, "CAME never goes back", 4, () -> b.x.count(7));
        Bench.due(27, "LATEST never goes back", 2, () -> b.x.session(0, 4));
        Bench.due(20, "a NUMBER is never used anew", 4, () -> b.x.bring(0, 5, 1, 1));
        Bench.due(13, "a job that is not LOCKED any more", 1, () -> b.claimed(1));
    }

    private static void undoesWhatWasChanged() {
        Bench b = Bench.of(THREE + ";limit 9");
        b.x.begin(0);
        b.x.claim(0);
        b.x.bring(0, 4, 7, 7);
        b.x.save(0);
        b.x.fail(0, 0, 1, 3);
        b.x.save(0);
        b.x.ticks(1);
        b.query(0, "claim 1 where number = 3");
        b.x.claim(0);
        b.x.fail(0, 3, 2, 5);
        Bench.due(24, "STATE of the brought one", 3, () -> b.x.job(0, 3, 3));
        Bench.due(10, "undo(0, 1)", 0, () -> b.x.undo(0, 1));
        Bench.due(24, "STATE of the brought one", 0, () -> b.x.job(0, 3, 3));
        Bench.due(25, "a cause that stays", 3, () -> b.x.cause(0, 0, 0));
        Bench.due(10, "undo(0, 0)", 0, () -> b.x.undo(0, 0));
        Bench.due(24, "STATE", 1, () -> b.x.job(0, 0, 3));
        Bench.due(25, "a cause that is gone", -1, () -> b.x.cause(0, 0, 0));
        Bench.due(5, "the query stays", 1, () -> b.x.session(0, 5));
        b.x.save(0);
        Bench.due(16, "fail anew", 0, () -> b.x.fail(0, 0, 1, 4));
        b.x.save(0);
        b.x.undo(0, 2);
        Bench.due(25, "the cause of then", 4, () -> b.x.cause(0, 0, 0));
        b.x.undo(0, 1);
        Bench.due(25, "no cause then", -1, () -> b.x.cause(0, 0, 0));
    }

    private static void commits() {
        Bench b = Bench.of(THREE);
        Bench.due(11, "commit without a transaction", ISE, () -> b.x.commit(0));
        Bench.due(7, "why()", 1, () -> b.x.why());
        Bench.due(11, "commit of no session", IOOBE, () -> b.x.commit(-1));
        b.x.begin(0);
        b.query(0, "claim 2 order by number desc");
        b.x.claim(0);
        b.x.bring(0, 5, 1, 1);
        b.x.ticks(2);
        Bench.due(43, "no row of THE LOG yet", 0, () -> b.x.count(17));
        Bench.due(11, "commit", 3, () -> b.x.commit(0));
        Bench.due(43, "rows by NUMBERS, the last", "2 3 0 0 -1", () -> b.log(0));
        Bench.due(43, "rows by NUMBERS, the second", "2 2 1 1 0", () -> b.log(1));
        Bench.due(43, "rows by NUMBERS, the first", "2 1 1 2 0", () -> b.log(2));
        Bench.due(43, "no row more", "-1 -1 -1 -1 -1", () -> b.log(3));
        Bench.due(46, "LOCKED none", 0, () -> b.x.count(11));
        Bench.due(46, "JOBS of THE TABLE", 4, () -> b.x.count(0));
        Bench.due(24, "STATE by THE TABLE", 1, () -> b.x.job(-1, 2, 3));
        Bench.due(11, "commit again", ISE, () -> b.x.commit(0));
        b.x.begin(1);
        Bench.due(11, "commit of nothing", 0, () -> b.x.commit(1));
        Bench.due(46, "no row by it", 3, () -> b.x.count(17));
    }

    private static void rolls() {
        Bench b = Bench.of(THREE);
        Bench.due(12, "roll without a transaction", ISE, () -> b.x.roll(0));
        Bench.due(7, "why()", 1, () -> b.x.why());
        Bench.due(12, "roll of no session", IOOBE, () -> b.x.roll(3));
        b.x.begin(0);
        b.x.begin(1);
        b.x.claim(0);
        b.x.bring(0, 5, 1, 1);
        b.x.bring(1, 5, 1, 1);
        Bench.due(12, "roll", 2, () -> b.x.roll(0));
        Bench.due(46, "no row by it", 0, () -> b.x.count(17));
        Bench.due(24, "STATE", 0, () -> b.x.job(0, 0, 3));
        Bench.due(24, "TOKEN", 0, () -> b.x.job(0, 0, 8));
        Bench.due(24, "a brought one", IOOBE, () -> b.x.job(0, 3, 3));
        Bench.due(24, "one that another one brought", 0, () -> b.x.job(1, 4, 3));
        Bench.due(46, "TOKENS", 1, () -> b.x.count(6));
        Bench.due(46, "CAME", 5, () -> b.x.count(7));
        Bench.due(27, "LATEST", 0, () -> b.x.session(0, 4));
        Bench.due(12, "roll again", ISE, () -> b.x.roll(0));
    }

    private static void seesVersions() {
        Bench b = Bench.of(THREE);
        b.x.begin(0);
        b.x.claim(0);
        b.x.bring(0, 3, 8, 9);
        Bench.due(24, "its own version", 1, () -> b.x.job(0, 0, 3));
        Bench.due(24, "another one's", 0, () -> b.x.job(1, 0, 3));
        Bench.due(24, "THE TABLE's", 0, () -> b.x.job(-1, 0, 3));
        Bench.due(24, "a brought one", 9, () -> b.x.job(0, 3, 2));
        Bench.due(24, "brought by another one", IOOBE, () -> b.x.job(1, 3, 2));
        Bench.due(24, "brought, by THE TABLE", IOOBE, () -> b.x.job(-1, 3, 2));
        Bench.due(24, "no job ahead of no what", IOOBE, () -> b.x.job(0, 4, 13));
        Bench.due(24, "no what", NSEE, () -> b.x.job(0, 0, 13));
        Bench.due(24, "no what -1", NSEE, () -> b.x.job(0, 0, -1));
        Bench.due(24, "no session -2", IOOBE, () -> b.x.job(-2, 0, 0));
        Bench.due(24, "no session 3", IOOBE, () -> b.x.job(3, 0, 0));
        Bench.due(26, "locked(0)", 0, () -> b.x.locked(0));
        Bench.due(26, "locked(1)", -1, () -> b.x.locked(1));
        Bench.due(26, "locked of a brought one", IOOBE, () -> b.x.locked(3));
        Bench.due(26, "locked(-1)", IOOBE, () -> b.x.locked(-1));
        Bench.due(42, "LOCKED, brought ones too", "0 3", () -> b.found(4));
        Bench.due(46, "JOBS of THE TABLE", 3, () -> b.x.count(0));
        Bench.due(25, "cause of one not seen", IOOBE, () -> b.x.cause(1, 3, 0));
        Bench.due(25, "cause of no session", IOOBE, () -> b.x.cause(5, 0, 0));
        b.x.fail(0, 0, 1, 4);
        Bench.due(25, "cause, own", 4, () -> b.x.cause(0, 0, 0));
        Bench.due(25, "cause, none behind", -1, () -> b.x.cause(0, 0, 1));
        Bench.due(25, "cause -1", -1, () -> b.x.cause(0, 0, -1));
        Bench.due(25, "cause, THE TABLE's", -1, () -> b.x.cause(-1, 0, 0));
        b.x.commit(0);
        Bench.due(25, "cause, COMMITTED", 4, () -> b.x.cause(2, 0, 0));
        Bench.due(24, "a brought one, COMMITTED", 8, () -> b.x.job(1, 3, 1));
    }

    private static void tellsOfSessions() {
        Bench b = Bench.of(THREE + ";lease 2");
        b.query(1, "claim 2");
        b.x.begin(1);
        b.x.claim(1);
        b.x.claim(2);
        int[][] at = {{2, 0, 0, 0}, {2, 0, 0, 0}, {2, 0, 0, 0}, {2, 2, 0, 2}, {2, 2, 0, 2}, {2, 2, 2, 0}};
        for (int t = 0; t < at.length; t++) {
            for (int i = 0; i < 4; i++) {
                int what = 6 + i;
                Bench.due(27, "slow by 2, MONO " + t + " what " + what, at[t][i], () -> b.x.session(1, what));
            }
            // The fast one feels its lease, that ends at 2, over as soon as MONO and 3 are above 2.
            Bench.due(27, "skew 3, FELT at " + t, 1, () -> b.x.session(2, 8));
            Bench.due(27, "skew 3, ASTRAY at " + t, t < 3 ? 1 : 0, () -> b.x.session(2, 9));
            b.x.ticks(1);
        }
        Bench.due(27, "LOCKED", 2, () -> b.x.session(1, 2));
        Bench.due(27, "LOCKED without a transaction", 0, () -> b.x.session(2, 2));
        Bench.due(27, "SKEW", -2, () -> b.x.session(1, 3));
        Bench.due(27, "LATEST", 1, () -> b.x.session(1, 4));
        Bench.due(27, "N", 2, () -> b.x.session(1, 5));
        Bench.due(27, "no what", NSEE, () -> b.x.session(1, 10));
        Bench.due(27, "no what -1", NSEE, () -> b.x.session(1, -1));
        Bench.due(27, "no session", IOOBE, () -> b.x.session(3, 10));
        b.x.reap(1);
        Bench.due(27, "HOLDS none of its own any more", 0, () -> b.x.session(1, 6));
        b.x.roll(1);
        Bench.due(27, "HOLDS by THE TABLE none", 0, () -> b.x.session(1, 6));
    }
}
