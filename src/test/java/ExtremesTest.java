import java.util.NoSuchElementException;
import java.util.Random;

/** Calls with numbers of every size in every state: nothing but what the document names is ever thrown. */
public final class ExtremesTest {
    private static final int[] NUMBERS = {Integer.MIN_VALUE, Integer.MIN_VALUE + 1, -1000001, -1000000, -4444, -10, -3, -2,
        -1, 0, 1, 2, 3, 4, 5, 7, 8, 9, 10, 11, 12, 13, 30, 31, 39, 40, 59, 60, 61, 99, 100, 444, 1023, 1024, 4444, 44444,
        0x733b7073, 0x303b7073, 1000000, Integer.MAX_VALUE - 1, Integer.MAX_VALUE};
    private static final String[] ROOMS = {"s;p", "s;s;s;ps0k9;ps1;ps2q9;p;g;gp1m0;gp2m3d9;et9",
        "s;s;s;s;s;s;s;s;ps0;ps1;ps2;ps3;ps4;ps5;ps6;ps7;g;g;g;g;g;g;g;g;g;gp7;et99",
        "sw99f99x19;p;p;p;p;p;p;p;p;et1f0", "s;ps0;et1"};
    private static final String[] TASTES = {"y:w*9999*9999/[m-3]+q", "y:[[[[[[w]]]]]]-m/m", "y:!!!!!!w=m?999",
        "y:m*9999*x-9999*9999*9999"};

    private static Random r;

    public static void main(String[] args) {
        for (int run = 0; run < 1500; run++) {
            r = new Random(run);
            LostPlaces x = new LostPlaces();
            for (int i = 0; i < 512; i++) {
                int call = r.nextInt(40);
                int[] a = {number(), number(), number(), number(), number()};
                try {
                    call(x, call, a);
                } catch (RuntimeException e) {
                    boolean named = call == 5 && e instanceof NoSuchElementException;
                    if (named) continue;
                    System.out.println("run " + run + ", call " + i + " (" + call + ", " + java.util.Arrays.toString(a) + ")");
                    e.printStackTrace(System.out);
                    System.exit(1);
                }
            }
        }
    }

    private static int number() {
        return r.nextInt(3) == 0 ? NUMBERS[r.nextInt(NUMBERS.length)] : r.nextInt(4);
    }

    private static void call(LostPlaces x, int call, int[] a) {
        switch (call) {
            case 0: x.feed(a[0], a[1], a[2], a[3], a[4]); break;
            case 1: x.end(a[0]); break;
            case 2: x.fault(a[0]); break;
            case 3: x.text(a[0]); break;
            case 4: x.seat(a[0], a[1]); break;
            case 5: x.sitter(a[0], a[1]); break;
            case 6: x.going(a[0], a[1]); break;
            case 7: x.taste(a[0]); break;
            case 8: x.restless(a[0]); break;
            case 9: x.likes(a[0], a[1]); break;
            case 10: x.up(a[0], a[1]); break;
            case 11: x.keeps(a[0], a[1]); break;
            case 12: x.swap(a[0], a[1]); break;
            case 13: x.go(a[0]); break;
            case 14: x.winter(a[0], (long) a[1] << 32 ^ a[2]); break;
            case 15: x.undo(); break;
            case 16: x.log(a[0], a[1]); break;
            case 17: x.ahead(a[0], a[1], a[2]); break;
            case 18: x.chain(a[0], a[1]); break;
            case 19: x.when(a[0], a[1], a[2], a[3]); break;
            default: ask(x, call, a);
        }
    }

    private static void ask(LostPlaces x, int call, int[] a) {
        switch (call) {
            case 20: x.keeping(a[0], a[1]); break;
            case 21: x.best(a[0], a[1]); break;
            case 22: x.sure(a[0]); break;
            case 23: x.call(a[0], a[1], a[2]); break;
            case 24: x.rests(a[0], a[1]); break;
            case 25: x.broken(a[0]); break;
            case 26: x.fair(a[0], a[1]); break;
            case 27: x.rule(a[0]); break;
            case 28: x.tells(a[0], a[1]); break;
            case 29: x.been(a[0]); break;
            case 30: x.ladder(a[0]); break;
            case 31: x.envy(); break;
            case 32: x.warm(); break;
            case 33: x.often(a[0]); break;
            case 34: x.even(); break;
            case 35: x.image(); break;
            case 36: x.back(); break;
            case 37: x.count(a[0]); break;
            case 38: if (r.nextInt(6) == 0) take(x, ROOMS[r.nextInt(ROOMS.length)], 0); break;
            default: if (r.nextInt(6) == 0) take(x, TASTES[r.nextInt(TASTES.length)], 1);
        }
    }

    private static void take(LostPlaces x, String text, int sort) {
        x.end(0);
        Check.feed(x, text);
        x.text(sort);
    }
}
