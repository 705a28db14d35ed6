import com.sun.management.ThreadMXBean;
import java.lang.management.ManagementFactory;

/** The calls of a run make next to nothing: rows are made with the object and used again. */
public final class RoomTest {
    static final int CALLS = 480;
    static final long CALLS_MAY = 64 * 1024, OBJECT_MAY = 200 * 1024;
    static int sink = 0;

    public static void main(String[] args) {
        ThreadMXBean room = (ThreadMXBean) ManagementFactory.getThreadMXBean();
        playOn(new HomingNets());
        long id = Thread.currentThread().getId();
        long ahead = room.getThreadAllocatedBytes(id);
        HomingNets x = new HomingNets();
        long made = room.getThreadAllocatedBytes(id);
        playOn(x);
        long behind = room.getThreadAllocatedBytes(id);
        System.out.println("the object took " + (made - ahead) + " bytes, the calls " + (behind - made) + " (" + (sink == 7 ? "-" : "+") + ")");
        boolean small = made - ahead <= OBJECT_MAY && behind - made <= CALLS_MAY;
        System.exit(small ? 0 : 1);
    }

    static void playOn(HomingNets x) {
        String text = "g164;x01;x12;x23;";
        for (int k = 0; k < text.length(); k++) {
            x.write(text.charAt(k));
        }
        for (int k = text.length(); k < CALLS; k += 12) {
            sink += x.lay() + x.all(2) + x.state(k, 0) + x.run(4, k, 300) + x.undo() + x.loop(4, 1);
            sink += x.loop(2, 0) + x.storm(1, k, 200, 0) + x.within(2, 0) + x.run(3, k, 300) + x.next(4) + x.fault();
        }
    }
}
