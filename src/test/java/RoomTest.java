import java.lang.management.ManagementFactory;

/** All calls of a run live in one room: an object is small, and no call makes anything once it stands. */
public final class RoomTest {
    private static final Check CHECK = new Check("RoomTest");
    private static final int CALLS = 512;

    public static void main(String[] args) {
        com.sun.management.ThreadMXBean bean = (com.sun.management.ThreadMXBean) ManagementFactory.getThreadMXBean();
        String text = "c4,3,2,1,0;k0 3;k1 2;s0 1;";
        allCalls(new FarEnds(), text);
        bean.getCurrentThreadAllocatedBytes();
        long ahead = bean.getCurrentThreadAllocatedBytes();
        FarEnds x = new FarEnds();
        long made = bean.getCurrentThreadAllocatedBytes();
        for (int i = 0; i < 8; i++) {
            allCalls(x, text);
        }
        long behind = bean.getCurrentThreadAllocatedBytes();
        CHECK.holds("an object takes " + (made - ahead) + " bytes", made - ahead < 12000);
        CHECK.holds("its calls take " + (behind - made) + " bytes", behind - made < 1000);
        dearestCalls();
        CHECK.end();
    }

    /** The dearest calls, as often as an object may be called: they end, and soon. */
    private static void dearestCalls() {
        FarEnds x = Check.cable("c4,3,2,1,0;");
        x.tie(0, 1);
        x.tie(1, 1);
        for (int i = 0; i < 8; i++) {
            x.see(0, 1, true);
        }
        for (int i = 0; i < CALLS / 4; i++) {
            CHECK.due("told(8)", x.told(8), 120);
            CHECK.due("told(9)", x.told(9), -1);
            CHECK.due("ties(NONE)", x.ties(-1), 8);
            CHECK.due("told(10)", x.told(10), 120);
        }
    }

    private static int allCalls(FarEnds x, String text) {
        int sum = 0;
        for (int i = 0; i < text.length(); i++) {
            sum += x.feed(text.charAt(i));
        }
        sum += x.cable() + x.fault();
        for (int i = -1; i <= 14; i++) {
            sum += x.told(i) + x.wire(i, i) + x.end(i, i) + x.net(i, i) + x.rings(i, i - 1) + x.touches(i, i + 1);
            sum += x.tie(i, 1) + x.test(i, -1) + x.rest(i) + x.mend(i, i) + x.touch(i, i + 1, true) + x.see(i, i + 1, true);
            sum += x.end(1, i) + x.wire(1, i) + x.cut(i, i + 1) + x.ties(i) + x.dry(i, 50) + x.write(i, i) + x.told(8) + x.told(9);
            sum += x.cross() + x.drift(20) + x.undo() + x.judge() + x.seed(i) + x.keep(i) + x.goBack(i);
        }
        return sum + x.tear();
    }
}
