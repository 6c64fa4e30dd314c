import com.sun.management.ThreadMXBean;
import java.lang.management.ManagementFactory;

/** What an object and 512 calls of it make stays small: all calls of a run live in one room. */
public final class Room {
    private static final long MOST = 400_000;

    private Room() { }

    public static void main(String[] args) {
        ThreadMXBean bean = (ThreadMXBean) ManagementFactory.getThreadMXBean();
        work();
        long before = bean.getCurrentThreadAllocatedBytes();
        work();
        long bytes = bean.getCurrentThreadAllocatedBytes() - before;
        System.out.println("room: " + bytes + " bytes for a run");
        if (bytes > MOST) {
            System.out.println("that is more than " + MOST);
            System.exit(1);
        }
    }

    private static void feed(GlassSpindle x, String text) {
        for (int i = 0; i < text.length(); i += 8) {
            long l = 0;
            for (int j = 0; j < 8; j++) {
                l = l << 8 | (i + j < text.length() ? text.charAt(i + j) : 0);
            }
            x.feed(l, 0, 0);
        }
    }

    private static void work() {
        GlassSpindle x = new GlassSpindle();
        feed(x, "bowl a tone 90 size 3 wall 9;bowl b tone 95 size 4 wall 9;bowl c tone 99 size 1 wall 1 spare;pair a 1 b 1 within 2;speak 9<speed+heat;set fingers 3;");
        x.spindle();
        for (int i = 0; i < 24; i++) {
            x.note(i & 1, i, 3, 1, i & 3);
            for (int m = 0; m < 4; m++) {
                x.mark(m, i % 3 == 2);
            }
            x.fewest();
            x.far();
            x.ground();
            x.groundOf(0);
            x.best(0);
            x.order();
            x.silence(0, 2);
            x.along(i);
            x.exchange(i & 1, 2);
            x.finger(i, 5);
            feed(x, "set dry 5;not");
        }
    }
}
