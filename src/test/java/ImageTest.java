/** Promises 44 to 46: the image and what is counted. */
public final class ImageTest {
    public static void main(String[] args) {
        withoutAnImage();
        allGoesBack();
        whatStays();
        transactionsGoBack();
        savepointsGoBack();
        nothingIsLeftBehind();
        isKeptApart();
        counts();
        Bench.end("ImageTest");
    }

    private static void withoutAnImage() {
        Bench b = Bench.of("session");
        Bench.due(45, "back() without an image", false, () -> b.x.back());
        Bench.due(45, "nothing happens", 1, () -> b.x.count(1));
        b.x.image();
        Bench.due(45, "back() with one", true, () -> b.x.back());
        Bench.due(45, "back() again", true, () -> b.x.back());
    }

    private static String all(Bench b) {
        StringBuilder all = new StringBuilder();
        for (int what = 0; what < 18; what++) {
            all.append(b.x.count(what)).append(' ');
        }
        for (int session = 0; session < b.x.count(1); session++) {
            for (int what = 0; what < 10; what++) {
                all.append(b.x.session(session, what)).append(' ');
            }
            all.append(b.next(session)).append(' ');
        }
        for (int number = 0; number < b.x.count(7); number++) {
            for (int what = 0; what < 13; what++) {
                try {
                    all.append(b.x.job(number % 3 - 1, number, what)).append(' ');
                } catch (IndexOutOfBoundsException e) {
                    all.append("- ");
                }
            }
        }
        for (int schedule = 0; schedule < b.x.count(2); schedule++) {
            all.append(b.x.plan(schedule, 4)).append(' ');
        }
        for (int ago = 0; ago < b.x.count(17); ago++) {
            all.append(b.log(ago)).append(' ');
        }
        return all.toString();
    }

    private static void allGoesBack() {
        Bench b = Bench.of("session skew 2;session slow 1;every 5 at 2 group 1 priority 1 cost 1 each;parallel 0 2;lease 4;"
            + "job group 0 priority 3 cost 1;job group 0 priority 4 cost 1;job group 2 priority 5 cost 1");
        b.query(1, "claim 2 where priority > 3 order by number desc");
        b.x.ticks(8);
        b.table("job group 5 priority 9 cost 1");
        b.x.bring(0, 5, 0, 1);
        sweepsOne(b);
        b.x.claim(0);
        b.x.begin(1);
        b.x.claim(1);
        b.x.save(1);
        b.x.bring(1, 3, 3, 3);
        b.x.fail(0, 0, b.x.job(0, 0, 8), 4);
        b.x.image();
        String kept = all(b);
        b.table("session;base 9;cap 9;jitter 9;limit 9;lease 9;parallel 0 1;parallel 2 4;every 1 at 0 group 0 priority 0 cost 1;"
            + "job group 4 priority 0 cost 1");
        b.query(1, "claim 6");
        b.query(0, "claim 3 order by turn");
        b.x.undo(1, 0);
        b.x.commit(1);
        b.x.ticks(20);
        b.x.jump(60);
        b.x.reap(0);
        b.x.claim(0);
        b.x.begin(2);
        b.x.claim(2);
        b.x.sweep();
        Bench.due(45, "something changed", false, () -> all(b).equals(kept));
        Bench.due(45, "back()", true, () -> b.x.back());
        Bench.due(45, "all is as it was", kept, () -> all(b));
        Bench.due(45, "undo to the SAVEPOINT of then", 1, () -> b.x.undo(1, 0));
        Bench.due(45, "a new session in the place of one that went", 3, () -> {
            b.table("session");
            return b.x.count(1);
        });
        Bench.due(45, "has nothing of that one", "0 0 0 0 5 1", () -> b.x.session(2, 0) + " " + b.x.session(2, 1) + " " + b.x.session(2, 2)
            + " " + b.x.session(2, 3) + " " + b.x.session(2, 4) + " " + b.x.session(2, 5));
        b.x.back();
        Bench.due(45, "a second time", kept, () -> all(b));
    }

    private static void whatStays() {
        Bench b = Bench.of("session");
        b.x.begin(0);
        b.x.image();
        Bench.due(6, "a wrong text", 0, () -> b.tableFault("x"));
        Bench.due(8, "begin", IllegalStateException.class, () -> b.x.begin(0));
        b.x.feed(0x6c656173, 0x65203900, 0, 0, 0);
        b.x.back();
        Bench.due(45, "fault() stays", 0, () -> b.x.fault());
        Bench.due(45, "WHY stays", 1, () -> b.x.why());
        b.x.end(7);
        Bench.due(45, "the TAPE stays", 2, () -> b.x.table());
        Bench.due(45, "as it was fed", 9, () -> b.x.count(12));
    }

    private static void transactionsGoBack() {
        Bench b = Bench.of("session;session;job group 0 priority 0 cost 1");
        b.x.begin(0);
        b.x.claim(0);
        b.x.image();
        b.x.ticks(5);
        b.x.commit(0);
        b.x.back();
        Bench.due(45, "MONO", 0, () -> b.x.count(4));
        Bench.due(45, "LOCKED again", 0, () -> b.x.locked(0));
        Bench.due(45, "its version", "1 0", () -> b.x.job(0, 0, 3) + " " + b.x.job(1, 0, 3));
        Bench.due(45, "THE LOG", 0, () -> b.x.count(17));
        Bench.due(12, "roll", 1, () -> b.x.roll(0));
        b.x.back();
        Bench.due(11, "or commit", 1, () -> b.x.commit(0));
    }

    private static void sweepsOne(Bench b) {
        b.query(0, "claim 1 where group = 5");
        int number = b.claimed(0);
        b.x.finish(0, number, b.x.job(-1, number, 8));
        b.x.sweep();
        b.query(0, "claim 1 where group < 3");
    }

    private static void savepointsGoBack() {
        Bench b = Bench.of("session;limit 9;job group 0 priority 0 cost 1");
        b.x.begin(0);
        b.x.claim(0);
        b.x.save(0);
        b.x.fail(0, 0, 1, 3);
        b.x.save(0);
        b.x.image();
        b.x.undo(0, 0);
        b.x.fail(0, 0, 1, 1);
        b.x.save(0);
        b.x.back();
        b.x.undo(0, 1);
        Bench.due(45, "the version of the later SAVEPOINT", 3, () -> b.x.cause(0, 0, 0));
        b.x.undo(0, 0);
        Bench.due(45, "the version of the first SAVEPOINT", "1 -1", () -> b.x.job(0, 0, 3) + " " + b.x.cause(0, 0, 0));
    }

    /** What comes in the place of what went by going back must have nothing of it. */
    private static void nothingIsLeftBehind() {
        for (int texts = 0; texts < 3; texts++) {
            nothingIsLeftBehind(texts);
        }
    }

    private static void nothingIsLeftBehind(int texts) {
        Bench b = Bench.of("session");
        b.x.image();
        b.table("session;every 5 at 0 group 0 priority 0 cost 1 grace 9;every 5 at 0 group 0 priority 0 cost 1 each");
        b.query(1, "claim 6 where number > 900 order by cost");
        b.x.begin(1);
        b.x.bring(1, 0, 0, 1);
        b.x.back();
        for (int i = 0; i < texts; i++) {
            b.table("");
        }
        b.table("session;every 5 at 0 group 0 priority 0 cost 1;every 5 at 0 group 0 priority 0 cost 1;job group 0 priority 0 cost 1");
        Bench.due(45, "KIND and GRACE", "0 0 0 0", () -> b.x.plan(0, 2) + " " + b.x.plan(0, 3) + " " + b.x.plan(1, 2) + " " + b.x.plan(1, 3));
        Bench.due(45, "LOCKED", "-1 0", () -> b.x.locked(0) + " " + b.x.count(11));
        Bench.due(45, "a query", "1 0", () -> b.x.session(1, 5) + " " + b.next(1));
    }

    private static void isKeptApart() {
        Bench b = Bench.of("session;job group 0 priority 0 cost 1");
        b.x.image();
        b.x.claim(0);
        b.x.image();
        b.x.finish(0, 0, 1);
        b.x.back();
        Bench.due(44, "the latest image", 1, () -> b.x.job(-1, 0, 3));
        b.x.finish(0, 0, 1);
        b.x.sweep();
        b.x.back();
        Bench.due(44, "is not touched by what comes behind going back", 1, () -> b.x.job(-1, 0, 3));
    }

    private static void counts() {
        Bench b = Bench.of("session;session;session;every 3 at 1 group 0 priority 0 cost 1;lease 9;base 8;cap 7;jitter 6;limit 5;"
            + "job group 1 priority 0 cost 1;job group 2 priority 0 cost 1");
        b.table("");
        b.x.begin(0);
        b.x.begin(2);
        b.x.bring(0, 5, 0, 1);
        b.x.claim(0);
        b.x.claim(1);
        b.x.finish(1, 1, 2);
        b.x.ticks(2);
        b.x.jump(5);
        b.x.sweep();
        int[] due = {3, 3, 1, 2, 2, 7, 2, 5, 0, 1, 2, 2, 9, 8, 7, 6, 5, 2};
        for (int what = 0; what < due.length; what++) {
            int asked = what;
            Bench.due(46, "count(" + what + ")", due[what], () -> b.x.count(asked));
        }
        for (int what : new int[] {-1, 18, Integer.MIN_VALUE, Integer.MAX_VALUE}) {
            Bench.due(46, "count(" + what + ")", -1, () -> b.x.count(what));
        }
    }
}
