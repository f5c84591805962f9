import java.lang.management.ManagementFactory;

/** All calls live in one room, so a call makes next to nothing; and the dearest calls end soon. */
public final class RoomTest {
    private static final String[] LAWS = {"pass 1=2;", "pass from#to;", "pass from+to+figure+beat*beat/3>3;",
        "may beat*7/3*3#beat*7 or figure+who#3;pass from<to or beat/5*5=beat;"};

    private RoomTest() { }

    public static void main(String[] args) {
        com.sun.management.ThreadMXBean meter = (com.sun.management.ThreadMXBean) ManagementFactory.getThreadMXBean();
        long thread = Thread.currentThread().getId();
        dearRun(full());
        SixHands x = full();
        long before = meter.getThreadAllocatedBytes(thread);
        long start = System.nanoTime();
        dearRun(x);
        long bytes = meter.getThreadAllocatedBytes(thread) - before;
        long seconds = (System.nanoTime() - start) / 1000000000L;
        System.out.println(bytes + " bytes made, " + seconds + " s");
        Due.yes("few bytes are made by calls", bytes < 100000);
        before = meter.getThreadAllocatedBytes(thread);
        SixHands y = new SixHands(8);
        bytes = meter.getThreadAllocatedBytes(thread) - before;
        Due.is("a new one", 8, y.about(0));
        Due.yes("a new object is small: " + bytes, bytes < 200000);
        Due.close();
    }

    /** Six figures at one place for 24 beats, by three who reach it: as many plans as there can be. */
    private static SixHands full() {
        SixHands x = new SixHands(8);
        for (int i = 0; i < 3; i++) {
            x.puppeteer(3, 7);
        }
        StringBuilder text = new StringBuilder();
        for (int i = 0; i < 6; i++) {
            x.figure(i % 2, 1 + i);
            text.append("enter ").append(i).append(" at 3;");
        }
        Due.play(x, text + "beat;".repeat(24));
        Due.is("beats", 24, x.about(7));
        x.image();
        return x;
    }

    private static void dearRun(SixHands x) {
        int[] w = {0x70617373, 0x20313D32, 0x3B202020, 0x20202020, 0x20202020};
        for (int i = 0; i < 60; i++) {
            x.back();
            x.feed(w[0], w[1], w[2], w[3], w[4]);
            x.by(x.text());
            x.fewest(7);
            x.strike(7 - i % 3, 0);
            x.least();
            x.ill(i % 3, i % 24);
            x.judge(1);
        }
        for (String law : LAWS) {
            x.back();
            Due.rule(x, law);
            x.take(7);
            x.strike(3, 1);
        }
    }
}
