import java.lang.management.ManagementFactory;

/** All calls of a run live in one room: once an object is made, no call makes another one. */
public final class RoomTest {
    public static void main(String[] args) {
        com.sun.management.ThreadMXBean threads =
                (com.sun.management.ThreadMXBean) ManagementFactory.getThreadMXBean();
        long self = Thread.currentThread().getId();
        BellTongue warm = new BellTongue();
        calls(warm);
        calls(warm);
        BellTongue x = new BellTongue();
        threads.getThreadAllocatedBytes(self);
        long before = threads.getThreadAllocatedBytes(self);
        calls(x);
        long made = threads.getThreadAllocatedBytes(self) - before;
        System.out.println("RoomTest: " + made + " bytes made by all kinds of calls");
        // asking for the count makes a little itself
        if (made > 1000) {
            System.exit(1);
        }
    }

    private static void calls(BellTongue x) {
        for (int i = 0; i < 6; i++) {
            x.bell(9 - i, i, 1 + i);
        }
        for (int i = 0; i < 10; i++) {
            x.word(i % 6, i < 3 ? -1 : i % 3, i < 6 ? -1 : 0, i < 9 ? -1 : 1, i % 4, i);
            x.weight(i, i);
            x.hears(i, 9 - i);
        }
        x.hands(9);
        // over wind<9;follows place<=9^2;
        x.feed(0x6F766572, 0x2077696E, 0x643C393B, 0x666F6C6C, 0x6F777320);
        x.feed(0x706C6163, 0x653C3D39, 0x5E323B20, 0x20202020, 0x20202020);
        x.end(40);
        x.text();
        x.fault(0);
        x.fault(1);
        x.by(0);
        x.played(0);
        x.feed(1, 2, 3, 4, 5);
        x.text();
        for (int i = 0; i < 10; i++) {
            x.ring(i);
            x.speak(i);
            x.set(i % 2 == 0, i);
            x.hour(1 + i);
            x.ofBell(i, 3);
            x.ofWord(i, i);
            x.is(i);
            x.rung(i);
            x.heard(i);
            x.readings(true);
            x.readings(false);
            x.reading(true, i);
            x.reading(false, i);
            x.meant(i, i, true);
            x.shortest(i);
            x.atWorst(i);
            x.away(i, 9 - i);
            x.apart(i);
            x.nearest();
            x.settles(i, i % 3);
            x.line(i, i);
            x.whose();
            x.pairs();
            x.tower(i % 2, i);
            x.lies(i % 2 == 0);
            x.newBell(i);
            x.farthest();
            x.ropes();
            x.changes(5, 1234, 43210, i % 2 == 0);
            x.takes(i);
            x.about(i);
        }
        x.image();
        x.sunday();
        x.book(0, 3);
        x.centuries(77, 40);
        x.undo();
        x.back();
    }
}
