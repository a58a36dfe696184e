import com.sun.management.ThreadMXBean;
import java.lang.management.ManagementFactory;

/** All calls of a run live in one room: none makes an object, but for the constructor. */
public final class RoomTest {
    private static final int ROUNDS = 200;
    private static final long SLACK = 4096;
    private static final Due due = new Due("RoomTest");

    public static void main(String[] args) {
        ThreadMXBean threads = (ThreadMXBean) ManagementFactory.getThreadMXBean();
        long thread = Thread.currentThread().getId();
        FootLights x = new FootLights();
        allCalls(x);
        long before = threads.getThreadAllocatedBytes(thread);
        for (int i = 0; i < ROUNDS; i++) {
            allCalls(x);
        }
        long made = threads.getThreadAllocatedBytes(thread) - before;
        due.holds("calls made " + made + " bytes", made <= SLACK);
        due.close();
    }

    private static void allCalls(FootLights x) {
        String text = "t1;f20;f9;f20;f5;f7;f9;f19;f20;z0;z7;l0,0;a1,0;c2,1;r3,1;w7,1;l6,1;";
        for (int i = 0; i < text.length(); i++) {
            x.feed(text.charAt(i));
        }
        x.town();
        x.row(0, 0, 12);
        x.set(0, 0, 1);
        x.copy(0, 0, 0, 1, 2);
        x.image(0);
        for (int player = 0; player < 6; player++) {
            x.player(player, 3);
            x.ahead(player, 60);
            x.crossing(player);
            x.hold(player, 1, 30);
            x.wind(player, 30, 5, 0);
            x.fits(player, 0, 0, 12, 0);
            x.fits(player, 0, 0, 12, 1);
            x.ask(player, 0);
            x.ask(player, 1);
            x.as(player, 1);
            x.turn(player);
        }
        x.later(60, 1);
        x.out(0);
        x.oil(0, 60);
        x.gap(0);
        x.fill(5, 1);
        x.lure(30, 0);
        x.sits(0, 0, 12);
        x.drawn(60, 7, 0);
        x.evenings(24);
        x.undo();
        x.move(1, 0);
        x.pour(0, 5);
        x.quench(0);
        x.restore(0);
        x.drop(0);
        x.count(6);
    }
}
