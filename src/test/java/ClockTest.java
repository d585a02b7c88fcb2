/** Promises 22, 23, 28 and 35: ticks, jumps, schedules, and how many jobs would come. */
public final class ClockTest {
    private static final Object IAE = IllegalArgumentException.class;
    private static final Object IOOBE = IndexOutOfBoundsException.class;
    private static final Object NSEE = java.util.NoSuchElementException.class;

    public static void main(String[] args) {
        boundsOfCalls();
        clocksEnd();
        firesBy("", new int[] {1, 1, 1, 0, 0}, new int[] {0, 3, 9, 9, 9});
        firesBy(" each", new int[] {1, 3, 5, 0, 0}, new int[] {0, 3, 9, 9, 9});
        firesBy(" grace 1", new int[] {1, 1, 1, 0, 0}, new int[] {0, 3, 9, 9, 9});
        eachFiresInOrder();
        graceEnds();
        slotsFireOnce();
        bornAtItsTick();
        missesWithoutRoom();
        wouldCome();
        Bench.end("ClockTest");
    }

    private static void boundsOfCalls() {
        Bench b = Bench.of("session");
        for (int n : new int[] {0, -1, 61, Integer.MIN_VALUE, Integer.MAX_VALUE}) {
            Bench.due(22, "ticks(" + n + ")", IAE, () -> b.x.ticks(n));
        }
        for (int n : new int[] {-301, 301, Integer.MIN_VALUE, Integer.MAX_VALUE}) {
            Bench.due(23, "jump(" + n + ")", IAE, () -> b.x.jump(n));
        }
        for (int n : new int[] {-1, 61, Integer.MIN_VALUE, Integer.MAX_VALUE}) {
            Bench.due(35, "would(" + n + ", false)", IAE, () -> b.x.would(n, false));
            Bench.due(35, "would(" + n + ", true)", IAE, () -> b.x.would(n, true));
        }
        Bench.due(35, "would(0, false)", 0, () -> b.x.would(0, false));
        Bench.due(28, "no schedule", IOOBE, () -> b.x.plan(0, 9));
        Bench.due(28, "schedule -1", IOOBE, () -> b.x.plan(-1, 0));
        b.table("every 7 at 3 group 0 priority 0 cost 1");
        Bench.due(28, "no what", NSEE, () -> b.x.plan(0, 6));
        Bench.due(28, "no what -1", NSEE, () -> b.x.plan(0, -1));
        Bench.due(28, "schedule 1", IOOBE, () -> b.x.plan(1, 0));
        Bench.due(22, "ticks(1)", 0, () -> b.x.ticks(1));
        Bench.due(22, "ticks(60)", 9, () -> b.x.ticks(60));
        Bench.due(22, "MONO", 61, () -> b.x.count(4));
        Bench.due(22, "WALL", 61, () -> b.x.count(5));
        Bench.due(23, "jump(-300)", 0, () -> b.x.jump(-300));
        Bench.due(23, "WALL, 0 at least", 0, () -> b.x.count(5));
        Bench.due(23, "MONO never goes back", 61, () -> b.x.count(4));
        Bench.due(23, "jump(0)", 0, () -> b.x.jump(0));
    }

    private static void clocksEnd() {
        Bench b = Bench.of("session");
        for (int i = 0; i < 33; i++) {
            b.x.jump(300);
        }
        b.table("every 60 at 39 group 0 priority 0 cost 1;every 1 at 0 group 1 priority 0 cost 1");
        Bench.due(23, "WALL", 9900, () -> b.x.count(5));
        Bench.due(23, "9999 at most", 2, () -> b.x.jump(300));
        Bench.due(23, "WALL", 9999, () -> b.x.count(5));
        Bench.due(28, "SLOT", 166, () -> b.x.plan(0, 4));
        Bench.due(28, "FIRES behind the end", 10059, () -> b.x.plan(0, 5));
        Bench.due(22, "a tick at the end of WALL", 0, () -> b.x.ticks(60));
        Bench.due(22, "MONO goes on", "60 9999", () -> b.x.count(4) + " " + b.x.count(5));
        for (int i = 0; i < 167; i++) {
            b.x.ticks(60);
        }
        Bench.due(22, "MONO, 9999 at most", 9999, () -> b.x.count(4));
    }

    /** Jobs that come, and SLOTS, by a tick and jumps to 1, 7, 19, 0 and 19 of slots at 1, 3, 5 .. */
    private static void firesBy(String kind, int[] come, int[] slots) {
        Bench b = Bench.of("every 2 at 1 group 3 priority 2 cost 4" + kind);
        Bench.due(28, "KIND" + kind, kind.isEmpty() ? 0 : kind.equals(" each") ? 1 : 2, () -> b.x.plan(0, 2));
        Bench.due(28, "GRACE" + kind, kind.equals(" grace 1") ? 1 : 0, () -> b.x.plan(0, 3));
        Bench.due(28, "SLOT of none yet", -1, () -> b.x.plan(0, 4));
        Bench.due(28, "FIRES of none yet", 1, () -> b.x.plan(0, 5));
        int[] jumps = {1, 6, 13, -20, 20};
        for (int i = 0; i < jumps.length; i++) {
            int at = i;
            Bench.due(23, "jump " + i + kind, come[i], () -> b.x.jump(jumps[at]));
            Bench.due(28, "SLOT behind jump " + i + kind, slots[i], () -> b.x.plan(0, 4));
            Bench.due(28, "FIRES behind jump " + i + kind, slots[i] * 2 + 3, () -> b.x.plan(0, 5));
        }
    }

    private static void eachFiresInOrder() {
        Bench b = Bench.of("every 10 at 0 group 3 priority 2 cost 4 each;every 20 at 5 group 4 priority 1 cost 2;"
            + "every 7 at 50 group 5 priority 0 cost 1 grace 0");
        b.x.ticks(3);
        Bench.due(23, "a jump far", 6, () -> b.x.jump(95));
        int[][] due = {{3, 0, 5}, {3, 0, 6}, {3, 0, 7}, {3, 0, 8}, {3, 0, 9}, {4, 1, 4}};
        for (int j = 0; j < due.length; j++) {
            int job = j;
            String want = due[j][0] + " " + due[j][1] + " " + due[j][2] + " 3 3";
            Bench.due(23, "job " + j + ": GROUP SCHEDULE SLOT BORN DUE", want, () -> b.x.job(-1, job, 0) + " " + b.x.job(-1, job, 11)
                + " " + b.x.job(-1, job, 12) + " " + b.x.job(-1, job, 4) + " " + b.x.job(-1, job, 5));
        }
        // The third one's latest time is 92, behind which there is no grace.
        Bench.due(23, "the one in grace", IOOBE, () -> b.x.job(-1, 6, 0));
    }

    private static void graceEnds() {
        for (int grace = 0; grace < 10; grace++) {
            Bench b = Bench.of("every 20 at 5 group 0 priority 0 cost 1 grace " + grace);
            int late = grace;
            Bench.due(23, "just in grace " + grace, 1, () -> b.x.jump(25 + late));
            Bench c = Bench.of("every 20 at 5 group 0 priority 0 cost 1 grace " + grace);
            Bench.due(23, "just behind grace " + grace, 0, () -> c.x.jump(26 + late));
            Bench.due(28, "the SLOT is passed all the same", 1, () -> c.x.plan(0, 4));
            Bench.due(23, "and does not fire later", 0, () -> c.x.jump(-2));
        }
    }

    private static void slotsFireOnce() {
        Bench b = Bench.of("every 5 at 0 group 0 priority 0 cost 1");
        Bench.due(28, "SLOT of a schedule that is told now", 0, () -> b.x.plan(0, 4));
        Bench.due(22, "up to the next time", 0, () -> b.x.ticks(4));
        Bench.due(22, "at it", 1, () -> b.x.ticks(1));
        Bench.due(23, "back", 0, () -> b.x.jump(-3));
        Bench.due(22, "again at it", 0, () -> b.x.ticks(7));
        Bench.due(22, "at the one behind it", 1, () -> b.x.ticks(1));
        Bench.due(24, "its SLOT", 2, () -> b.x.job(-1, 1, 12));
        b.x.jump(41);
        b.table("every 50 at 1 group 0 priority 0 cost 1;every 50 at 59 group 0 priority 0 cost 1");
        Bench.due(28, "SLOT of WALL 51", 1, () -> b.x.plan(1, 4));
        Bench.due(28, "SLOT of WALL ahead of AT", -1, () -> b.x.plan(2, 4));
    }

    private static void bornAtItsTick() {
        Bench b = Bench.of("session;every 4 at 2 group 1 priority 5 cost 3");
        b.x.jump(10);
        b.x.ticks(9);
        int[] born = {0, 4, 8};
        for (int j = 0; j < 3; j++) {
            int job = j;
            Bench.due(22, "BORN of job " + j, born[j], () -> b.x.job(-1, job, 4));
            Bench.due(22, "DUE of job " + j, born[j], () -> b.x.job(-1, job, 5));
            Bench.due(22, "SLOT of job " + j, j + 2, () -> b.x.job(-1, job, 12));
        }
        b.table("session");
        b.x.image();
        b.x.back();
        b.x.ticks(3);
        Bench.due(22, "behind another text", "1 5 3 5", () -> b.x.job(-1, 3, 0) + " " + b.x.job(-1, 3, 1) + " " + b.x.job(-1, 3, 2)
            + " " + b.x.job(-1, 3, 12));
        Bench.due(22, "PRIORITY, COST, STATE", "5 3 0", () -> b.x.job(-1, 0, 1) + " " + b.x.job(-1, 0, 2) + " " + b.x.job(-1, 0, 3));
        Bench.due(22, "no row of THE LOG", 0, () -> b.x.count(17));
    }

    private static void missesWithoutRoom() {
        Bench b = Bench.of("session;every 1 at 1 group 0 priority 0 cost 1 each;every 1 at 1 group 1 priority 0 cost 1");
        b.x.begin(0);
        for (int i = 0; i < 20; i++) {
            b.x.bring(0, 5, 0, 1);
        }
        Bench.due(35, "by a jump", 4, () -> b.x.would(60, true));
        Bench.due(35, "by ticks", 4, () -> b.x.would(60, false));
        Bench.due(23, "a jump", 4, () -> b.x.jump(60));
        Bench.due(23, "MISSED", 2, () -> b.x.count(8));
        Bench.due(28, "SLOT all the same", 59, () -> b.x.plan(1, 4));
        Bench.due(22, "ticks", 0, () -> b.x.ticks(2));
        Bench.due(22, "MISSED", 6, () -> b.x.count(8));
        Bench.due(22, "CAME", 24, () -> b.x.count(7));
        b.x.roll(0);
        Bench.due(22, "with room again", 2, () -> b.x.ticks(1));
        Bench.due(22, "CAME", 26, () -> b.x.count(7));
    }

    private static void wouldCome() {
        Bench b = Bench.of("every 4 at 0 group 0 priority 0 cost 1 each;every 10 at 3 group 1 priority 0 cost 1;"
            + "every 10 at 5 group 2 priority 0 cost 1 grace 2");
        int[][] due = {{0, 0, 0}, {3, 1, 1}, {4, 2, 2}, {5, 3, 3}, {13, 6, 4}, {16, 8, 6}, {60, 24, 6}};
        for (int[] d : due) {
            Bench.due(35, d[0] + " ticks", d[1], () -> b.x.would(d[0], false));
            Bench.due(35, "a jump of " + d[0], d[2], () -> b.x.would(d[0], true));
        }
        Bench.due(35, "nothing happens by that", "0 0 0 0", () -> b.x.count(4) + " " + b.x.count(5) + " " + b.x.count(0) + " " + b.x.plan(0, 4));
        Bench.due(22, "as it was said", 6, () -> b.x.ticks(13));
    }
}
