import com.sun.management.ThreadMXBean;
import java.lang.management.ManagementFactory;

/** All calls of a run live in one room: what an object and its calls may take of it. */
public final class RoomTest {
    /** 7.3 million elements are 14,000 for each of 512 objects; an element takes 8 bytes at most. */
    private static final long MOST_OF_AN_OBJECT = 8 * 14000;
    /** What asking for the bytes takes itself. */
    private static final long MOST_OF_ALL_CALLS = 1000;

    private static long sum = 0;

    private static void callAll(StruckJury x) {
        for (int sort = 0; sort < 6; sort++) {
            sum += x.sort(sort, 10 * sort, 90 - 17 * sort) + x.person(sort) + x.person(sort);
        }
        sum += x.takeBack() + x.person(2) + x.set(0, 6) + x.set(1, 3) + x.set(2, 3) + x.feed(4, 0x3B31306EL) + x.court();
        sum += x.chance(63) + x.right(63) + x.best(4095, 33, 1) + x.strike(4095, 33, 1) + x.turns() + x.order(5);
        sum += x.unput() + x.lawful();
        for (int i = 0; i < 6; i++) {
            sum += x.put(i);
        }
        sum += x.slip(true) + x.seldom(0, 0) + x.second() + x.rests() + x.rest(0) + x.paper(7, 56) + x.coming();
        sum += x.come(0) + x.finest() + x.lot(0) + x.trade() + x.wrongly(0, 99, 1) + x.asked(0, 20);
        sum += x.set(2, 2) + x.more(1) + x.image() + x.restore() + x.count(1) + x.chance(-1);
    }

    public static void main(String[] args) {
        ThreadMXBean room = (ThreadMXBean) ManagementFactory.getThreadMXBean();
        callAll(new StruckJury());
        room.getCurrentThreadAllocatedBytes();
        long before = room.getCurrentThreadAllocatedBytes();
        StruckJury x = new StruckJury();
        long made = room.getCurrentThreadAllocatedBytes();
        callAll(x);
        long called = room.getCurrentThreadAllocatedBytes();
        Due.due("an object takes too much: " + (made - before), made - before > MOST_OF_AN_OBJECT ? 1 : 0, 0);
        Due.due("calls take too much: " + (called - made), called - made > MOST_OF_ALL_CALLS ? 1 : 0, 0);
        System.out.println("an object takes " + (made - before) + " bytes, its calls " + (called - made));
        Due.end();
    }
}
