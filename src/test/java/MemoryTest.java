import java.lang.management.ManagementFactory;

/** No call makes an object: all stand from the constructor on, few enough for many objects in one room. */
public final class MemoryTest {
    public static void main(String[] args) {
        com.sun.management.ThreadMXBean threads = (com.sun.management.ThreadMXBean) ManagementFactory.getThreadMXBean();
        long id = Thread.currentThread().getId();
        allCalls(new LostPlaces());
        LostPlaces x = new LostPlaces();
        threads.getThreadAllocatedBytes(id);
        long before = threads.getThreadAllocatedBytes(id);
        allCalls(x);
        long made = threads.getThreadAllocatedBytes(id) - before;
        LostPlaces[] kept = new LostPlaces[1];
        before = threads.getThreadAllocatedBytes(id);
        kept[0] = new LostPlaces();
        long one = threads.getThreadAllocatedBytes(id) - before;
        // the room holds 7.3 million fields and elements: some hundred objects of this class, of four bytes each
        boolean fine = made == 0 && one < 250000 && kept[0].count(0) == 0;
        if (!fine) System.out.println("calls made " + made + " bytes, an object has " + one);
        if (!fine) System.exit(1);
    }

    private static void allCalls(LostPlaces x) {
        // "s;s;s;ps0;ps1;ps2k3;gm9;" and "y:w+m/3" by their bytes
        x.feed(0x733b733b, 0x733b7073, 0x303b7073, 0x313b7073, 0x326b333b);
        x.feed(0x676d3900, 0, 0, 0, 0);
        x.text(0);
        x.feed(0x793a772b, 0x6d2f3300, 0, 0, 0);
        x.fault(1);
        x.text(1);
        x.taste(0);
        x.restless(40);
        x.up(0, 2);
        x.keeps(1, 2);
        x.swap(1, 2);
        x.go(3);
        x.winter(9, 5L);
        x.image();
        x.tells(0, 0);
        for (int i = 0; i < 2; i++) {
            for (int p = 0; p < 3; p++) look(x, p);
            x.undo();
            x.back();
        }
    }

    private static void look(LostPlaces x, int p) {
        for (int what = 0; what < 2; what++) {
            x.seat(p, what);
            x.sitter(p, what);
            x.going(0, what);
            x.log(0, what);
            x.ahead(p, 9, what);
            x.chain(p, what);
            x.when(p, 2, 9, what);
            x.best(p, what);
            x.fair(2, what);
            x.rule(what);
            x.count(what);
        }
        x.likes(p, p);
        x.keeping(p, 3);
        x.sure(p);
        x.call(0, 3, p);
        x.rests(3, p);
        x.broken(p);
        x.been(p);
        x.ladder(p);
        x.envy();
        x.warm();
        x.often(p);
        x.even();
    }
}
