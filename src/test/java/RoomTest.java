import com.sun.management.ThreadMXBean;
import java.lang.management.ManagementFactory;
import java.util.NoSuchElementException;
import support.Texts;

/** 512 calls of each of the dearest kinds on a great HUT: all are answered, and make next to nothing anew. */
public final class RoomTest {
    private static final int CALLS = 512;
    private static final String HUT = "pen 6 99 98;".repeat(8) + "wire 0 1;wire 1 2;wire 2 3;wire 3 4;wire 4 5;wire 5 6;"
        + "wire 6 7;wire 0 2;wire 1 3;wire 2 4;wire 3 5;wire 4 6;wire 5 7;wire 0 3;wire 1 4;wire 2 5;sheet 24;";
    private static final String LAW = "in+".repeat(49) + "9";
    private static final String WORK = "again 60[again 60[read 0 9;day;];];";
    private static final int[][] HUT_FEEDS = Texts.feeds(HUT);
    private static final int[][] LAW_FEEDS = Texts.feeds(LAW);
    private static final int[][] WORK_FEEDS = Texts.feeds(WORK);
    private static final int MOST_BYTES = 1_000_000;

    private static int wrong;

    private interface Call {
        void on(UnlikePens pens, int i);
    }

    private RoomTest() { }

    public static void main(String[] args) {
        run("span", (pens, i) -> pens.span(i, 20, 96, 16, 1, 7));
        run("season", (pens, i) -> pens.season(i, 96, 16, 2));
        run("best", (pens, i) -> pens.best(0, 7, i, 0));
        run("hop", (pens, i) -> pens.hop(0, 7, i, 3));
        run("tuning", (pens, i) -> pens.tuning(i % 8, i, -5));
        run("ring", (pens, i) -> pens.ring(i % 8, i, 1));
        run("look", (pens, i) -> pens.look(1));
        run("kept", (pens, i) -> pens.kept(i, 1000));
        run("worst", (pens, i) -> pens.worst(i, 1000, 1));
        run("work", RoomTest::workOrUndo);
        run("images", RoomTest::imageOrRestore);
        run("hut", RoomTest::hutAgain);
        run("refused", RoomTest::refused);
        System.out.println(wrong == 0 ? "RoomTest: all runs stay in their room" : "RoomTest: " + wrong + " runs do not");
        System.exit(wrong == 0 ? 0 : 1);
    }

    private static void run(String name, Call call) {
        long before = bytesMade();
        UnlikePens pens = new UnlikePens();
        feed(pens, HUT_FEEDS);
        need(pens.hut(HUT.length()) == 8, "hut");
        feed(pens, LAW_FEEDS);
        need(pens.law(LAW.length()) == 1, "law");
        for (int i = HUT_FEEDS.length + LAW_FEEDS.length + 2; i < CALLS; i++) {
            call.on(pens, i);
        }
        long made = bytesMade() - before;
        need(made <= MOST_BYTES, name + " made " + made + " bytes");
    }

    private static void need(boolean right, String what) {
        if (!right) {
            wrong++;
            System.out.println("RoomTest: " + what);
        }
    }

    /** 0 on a machine that does not count them. */
    private static long bytesMade() {
        return ManagementFactory.getThreadMXBean() instanceof ThreadMXBean bean
            ? bean.getThreadAllocatedBytes(Thread.currentThread().getId()) : 0;
    }

    private static void feed(UnlikePens pens, int[][] feeds) {
        for (int[] five : feeds) {
            feed(pens, five);
        }
    }

    private static void feed(UnlikePens pens, int[] five) {
        pens.feed(five[0], five[1], five[2], five[3], five[4]);
    }

    private static void workOrUndo(UnlikePens pens, int i) {
        int turn = i % (WORK_FEEDS.length + 2);
        if (turn < WORK_FEEDS.length) {
            feed(pens, WORK_FEEDS[turn]);
        } else if (turn == WORK_FEEDS.length) {
            pens.work(Math.min(pens.count(1), WORK.length()));
        } else {
            pens.undo();
        }
    }

    private static void imageOrRestore(UnlikePens pens, int i) {
        if (i % 32 < 16) {
            pens.work(0);
        } else if (i % 32 < 24) {
            pens.image();
        } else {
            pens.restore();
        }
    }

    private static void hutAgain(UnlikePens pens, int i) {
        int turn = i % (HUT_FEEDS.length + 1);
        if (turn < HUT_FEEDS.length) {
            feed(pens, HUT_FEEDS[turn]);
        } else {
            pens.hut(Math.min(pens.count(1), HUT.length()));
        }
    }

    private static void refused(UnlikePens pens, int i) {
        try {
            pens.out(8, i);
        } catch (NoSuchElementException e) {
            return;
        }
        need(false, "out(8, " + i + ") is not refused");
    }
}
