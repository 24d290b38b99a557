import com.sun.management.ThreadMXBean;
import java.lang.management.ManagementFactory;

/** What a run makes is never given back: a new object is small, and no call makes anything. */
public final class RoomTest {
    private static final String FULL = "size 8 by 8;wall 3 0 3 1 3 2 3 3 3 4 3 5 3 6 3 7;door a at 2 0 high 1;door b at 2 1 high 2;door c at 2 2 high 3;"
            + "door d at 2 3 high 4;door e at 2 4 high 5;door f at 2 5 high 6;door g at 2 6 high 7;door h at 2 7 high 9;lamp k at 0 0 lit 0 to 9;"
            + "lamp l at 0 1 lit 0 to 9;lamp m at 0 2 lit 0 to 9;lamp n at 0 3 lit 0 to 9;person p at 0 0;person q at 7 7;person r at 0 0;person s at 4 4;"
            + "shade (date*hour+height*7)%9-4+(hour>5 and not hour<7 or date=3)*(1-1)+(2*3-6)*height/(hour+1)%7;cloud 37;";

    private static long sum;

    private static void feed(ShadowDoors x, int[] n) {
        for (int i = 0; i + 4 < n.length; i += 5) {
            sum += x.feed(n[i], n[i + 1], n[i + 2], n[i + 3], n[i + 4]);
        }
    }

    private static void callAll(ShadowDoors x, int[] numbers, int length, int i) {
        feed(x, numbers);
        sum += x.end(length) + x.quarter() + x.fault(0) + x.door(1, 2) + x.lamp(1, 1) + x.person(0, 0) + x.shade(1, i % 49);
        sum += x.go(0, 1) + x.hour() + x.shut(i % 8) + x.out(i % 4) + x.image(i % 3) + x.later(1) + x.look(i % 24, i % 3, i % 2 == 0);
        sum += x.shadow(3, i % 49) + x.shades(i % 49, true) + x.moves(i % 64, 3) + x.soonest(0, 63) + x.lies(3) + x.reach(0, 48) + x.meet(0, 1, 0);
        sum += x.barred(0, 48) + x.longest(2, 1) + x.cross(0, 1, 0) + x.rooms(4) + x.hears(0, 63, 3) + x.keep(0, 63, 24, 1) + x.free(0, 63, 24, 1);
        sum += x.surest(0, 63, 8, 0) + x.dates(0, 63, 24, 0) + x.fit(9) + x.places(9) + x.heights(9) + x.ask(0, 9) + x.about(3);
        sum += (x.eclipse() ? 1 : 0) + (x.undo() ? 1 : 0) + (x.redo() ? 1 : 0) + (x.untell(0) ? 1 : 0) + x.back(i % 3);
    }

    public static void main(String[] args) {
        ThreadMXBean threads = (ThreadMXBean) ManagementFactory.getThreadMXBean();
        long thread = Thread.currentThread().getId();
        int[] numbers = Texts.numbersOf(FULL);
        ShadowDoors x = new ShadowDoors();
        for (int i = 0; i < 20; i++) {
            callAll(x, numbers, FULL.length(), i);
        }
        if (x.about(0) != 8) {
            System.out.println("the quarter has a fault " + x.fault(0) + " at " + x.fault(1));
            System.exit(1);
        }
        long start = threads.getThreadAllocatedBytes(thread);
        threads.getThreadAllocatedBytes(thread);
        long before = threads.getThreadAllocatedBytes(thread);
        for (int i = 0; i < 100; i++) {
            callAll(x, numbers, FULL.length(), i);
        }
        long calls = threads.getThreadAllocatedBytes(thread) - before - (before - start);
        before = threads.getThreadAllocatedBytes(thread);
        ShadowDoors[] many = new ShadowDoors[100];
        for (int i = 0; i < 100; i++) {
            many[i] = new ShadowDoors();
        }
        long each = (threads.getThreadAllocatedBytes(thread) - before) / 100;
        System.out.println("calls made " + calls + " bytes, a new object takes " + each + " (" + many.length + ", " + sum + ")");
        if (calls > 2000 || each > 20000) {
            System.exit(1);
        }
    }
}
