/** Promises 12 to 18, 37 and 38: acts, minutes, what is undone, the log, images. */
public final class ActsTest {
    // one sitter that likes the other of two seats better each minute: a move in every minute but the first
    private static final String TO_AND_FRO = "y:m/2*2=m&x=0|m/2*2<m&x=1?9;y:1";

    public static void main(String[] args) {
        promise12();
        promise12Kept();
        promise13();
        promise14();
        promise15();
        minuteGoings();
        minuteBack();
        minuteMovingUp();
        minuteNearest();
        minuteJoy();
        promise16();
        promise17();
        promise17Forty();
        promise18();
        promise37And38();
        Check.close();
    }

    private static void due(String call, long got, long want) {
        Check.due(call, got, want);
    }

    private static void promise12() {
        LostPlaces x = Check.room("s;s;ps0;ps1;p;et5");
        due("up(0, 0)", x.up(0, 0), -1);
        due("up(0, 10)", x.up(0, 10), -1);
        due("up(3, 1)", x.up(3, 1), -1);
        due("up(-1, 1)", x.up(-1, 1), -1);
        due("no act yet", x.count(11), 0);
        due("up(0, 2)", x.up(0, 2), 2);
        due("up(0, 1), away", x.up(0, 1), -1);
        due("up(2, 9) from the floor", x.up(2, 9), 9);
        due("acts", x.count(11), 2);
        x.go(1);
        due("up(1, 1)", x.up(1, 1), 2);
        Check.places(x, -2, -2, -2);
        x.go(3);
        due("up(0, 1), a minute left", x.up(0, 1), 5);
        x.undo();
        x.go(1);
        due("up(0, 1) at the end", x.up(0, 1), -1);
        Check.places(x, 0, 1, -2);
    }

    private static void promise12Kept() {
        LostPlaces x = Check.room("sw9;sw5;ps0k1;ps1;et9");
        x.up(0, 2);
        due("kept for", x.seat(0, 4), 0);
        due("kept till", x.seat(0, 5), 1);
        x.go(1);
        Check.places(x, -2, 1);
        x.go(1);
        Check.places(x, -2, 0);
        due("kept for none", x.seat(0, 4), -1);
        x.go(1);
        Check.places(x, 1, 0);
        due("moves", x.count(10), 1);
        Check.move(x, 0, 1, 1, 0, 1);
        LostPlaces floor = Check.room("s;pk5;et9");
        floor.up(0, 1);
        due("no seat was left", floor.seat(0, 4), -1);
    }

    private static void promise13() {
        LostPlaces x = Check.room("sw9;sw5;ps0k3;ps1;et3");
        due("keeps(0, 3), as it does", x.keeps(0, 3), -1);
        due("keeps(0, 10)", x.keeps(0, 10), -1);
        due("keeps(0, -1)", x.keeps(0, -1), -1);
        due("keeps(2, 1)", x.keeps(2, 1), -1);
        due("keeps(0, 0)", x.keeps(0, 0), 1);
        due("keeps(1, 9)", x.keeps(1, 9), 2);
        due("sitter(1, 4)", x.sitter(1, 4), 9);
        x.up(0, 1);
        due("nothing is kept", x.seat(0, 4), -1);
        due("keeps(0, 2), away", x.keeps(0, 2), 4);
        x.go(3);
        due("keeps(0, 1) at the end", x.keeps(0, 1), 8);
    }

    private static void promise14() {
        LostPlaces x = Check.room("sw9;sw5;ps0b50;ps1b50;pb50;pb50;et3");
        due("swap(0, 0)", x.swap(0, 0), -1);
        due("swap(2, 3), both on the floor", x.swap(2, 3), -1);
        due("swap(0, 4)", x.swap(0, 4), -1);
        due("swap(-1, 0)", x.swap(-1, 0), -1);
        due("swap(0, 1)", x.swap(0, 1), 1);
        Check.places(x, 1, 0, -1, -1);
        due("seat(0, 3)", x.seat(0, 3), 1);
        due("swap(2, 1), one on the floor", x.swap(2, 1), 2);
        Check.places(x, 1, -1, 0, -1);
        due("a swap is no move", x.count(10), 0);
        x.up(0, 1);
        due("swap(0, 2), one away", x.swap(0, 2), -1);
        due("swap(2, 0), one away", x.swap(2, 0), -1);
        x.undo();
        x.go(3);
        due("swap(2, 1) at the end", x.swap(2, 1), 6);
        Check.places(x, 1, 0, -1, -1);
    }

    private static void promise15() {
        LostPlaces x = Check.room("s;p;et99");
        due("go(0)", x.go(0), -1);
        due("go(61)", x.go(61), -1);
        due("go(-1)", x.go(-1), -1);
        due("go(60)", x.go(60), 60);
        due("go(40), more than are left", x.go(40), -1);
        due("the minute", x.count(6), 60);
        due("go(39)", x.go(39), 99);
        due("go(1) at the end", x.go(1), -1);
    }

    private static void minuteGoings() {
        LostPlaces x = Check.room("s;ps0;gm1d3;gm2d9;et9");
        x.go(2);
        due("away till", x.sitter(0, 1), 4);
        x.go(3);
        Check.places(x, 0);
        LostPlaces late = Check.room("s;ps0;gm1d1;gm2d5;et9");
        late.go(3);
        Check.places(late, 0);
        LostPlaces twice = Check.room("s;ps0;gm0d2;gm0d5;et9");
        twice.go(1);
        due("the going told first is gone", twice.sitter(0, 1), 2);
        LostPlaces kept = Check.room("sw9;sw5;ps0k2;ps1;gm1d2;et9");
        kept.go(2);
        due("kept for", kept.seat(0, 4), 0);
        due("kept till", kept.seat(0, 5), 3);
    }

    private static void minuteBack() {
        LostPlaces x = Check.room("sw9;sw5;ps0q1;ps1q7;et9");
        x.up(0, 1);
        x.up(1, 1);
        x.go(2);
        Check.places(x, 1, 0);
        due("coming back is no move", x.count(10), 0);
        LostPlaces alike = Check.room("sw5;sw5;ps1;ps0;et9");
        alike.up(0, 1);
        alike.up(1, 1);
        alike.go(2);
        Check.places(alike, 0, 1);
        LostPlaces worthless = Check.room("sw0;ps0;et9");
        worthless.up(0, 1);
        worthless.go(2);
        Check.places(worthless, -1);
        // the seat liked best, not that of the greatest worth
        LostPlaces liking = Check.room("sw5;sw9;ps1b99;et9", "y:50-w");
        liking.up(0, 1);
        liking.go(2);
        Check.places(liking, 0);
        // its own seat, even where another one would be liked better
        LostPlaces own = Check.room("sw9;sw5;ps1k5b50;et9");
        own.up(0, 2);
        own.go(3);
        Check.places(own, 1);
        due("not kept any more", own.seat(1, 4), -1);
        due("till no minute", own.seat(1, 5), -1);
        // nobody else comes back to a kept seat
        LostPlaces others = Check.room("sw9;sw5;ps0k9;pq9;et9");
        others.up(0, 5);
        others.up(1, 1);
        others.go(2);
        Check.places(others, -2, 1);
    }

    private static void minuteMovingUp() {
        // to the seat of the greatest worth as told first, though the other one is liked better
        LostPlaces worth = Check.room("sw5;sw9;p;et9", "y:100-w");
        worth.go(1);
        due("moves", worth.count(10), 2);
        Check.move(worth, 1, 0, -1, 1, 0);
        Check.move(worth, 0, 0, 1, 0, 0);
        LostPlaces five = Check.room("sw10;sw14;ps0b5;et9");
        five.go(9);
        Check.places(five, 0);
        LostPlaces four = Check.room("sw10;sw14;ps0b4;et9");
        four.go(1);
        Check.places(four, 1);
        // the worth of the film does not count for which seat is first, but for who would
        LostPlaces film = Check.room("sw5f9;sw9;p;ef0t9");
        film.go(1);
        due("moves", film.count(10), 2);
        Check.move(film, 1, 0, -1, 1, 0);
        Check.move(film, 0, 0, 1, 0, 0);
        LostPlaces quick = Check.room("sw9;pq3;pq4;pq4;et9");
        quick.go(1);
        Check.places(quick, -1, 0, -1);
        LostPlaces alike = Check.room("sw9;sw9;p;et9");
        alike.go(1);
        Check.places(alike, 0);
        LostPlaces gone = Check.room("sw9;p;p;et9");
        gone.up(0, 1);
        gone.go(1);
        Check.places(gone, -2, 0);
    }

    private static void minuteNearest() {
        LostPlaces x = Check.room("sw20x5;sw1x0;sw1x9;ps1;ps2;et9");
        x.go(1);
        Check.places(x, 1, 0);
        LostPlaces alike = Check.room("sw20x5;sw1x0;sw1x10;ps2;ps1;et9");
        alike.go(1);
        Check.places(alike, 0, 1);
        LostPlaces floor = Check.room("sw20x19;sw1x0;p;ps1;et9");
        floor.go(1);
        Check.places(floor, 1, 0);
        LostPlaces quick = Check.room("sw20x5;sw1x0;sw1x6;ps1q6;ps2;et9");
        quick.go(1);
        Check.places(quick, 0, 2);
    }

    private static void minuteJoy() {
        LostPlaces x = Check.room("sw10f5;ps0;p;gm3d1;ef2t6");
        x.go(2);
        Check.joys(x, 20, 0);
        x.go(2);
        Check.joys(x, 35, 15);
        x.go(2);
        Check.joys(x, 35, 45);
    }

    private static void promise16() {
        LostPlaces x = Check.room("s;s;ps0;ps1;et9");
        x.restless(30);
        due("winter(0, 0)", x.winter(0, 0L), -1);
        due("winter(61, 0)", x.winter(61, 0L), -1);
        due("winter(10, 0)", x.winter(10, 0L), -1);
        // draws of seed 0: 7 (up) 0, 37 (stays); 36 (stays); 25 (up) 2, 84 (stays)
        due("winter(3, 0)", x.winter(3, 0L), 3);
        Check.places(x, -2, 1);
        due("away till", x.sitter(0, 1), 5);
        Check.joys(x, 10, 30);
        due("acts", x.count(11), 3);
        x.go(6);
        due("winter(1, 0) at the end", x.winter(1, 0L), -1);
        LostPlaces calm = Check.room("s;ps0k5;et9");
        calm.restless(7);
        calm.winter(1, 0L);
        Check.places(calm, 0);
        calm.undo();
        calm.restless(8);
        calm.winter(1, 0L);
        Check.places(calm, -2);
        due("kept for", calm.seat(0, 4), 0);
        due("kept till", calm.seat(0, 5), 5);
        // ahead of the goings of the minute
        LostPlaces ahead = Check.room("s;ps0;gm0d9;et9");
        ahead.restless(8);
        ahead.winter(1, 0L);
        due("away till", ahead.sitter(0, 1), 1);
        LostPlaces never = Check.room("s;ps0;et60");
        due("winter(60, -1), restless 0", never.winter(60, -1L), 60);
        Check.joys(never, 600);
    }

    private static void promise17() {
        LostPlaces x = Check.room("sw9;sw5;ps0k1;ps1;et9");
        due("undo() of nothing", x.undo(), -1);
        x.keeps(1, 3);
        x.up(0, 1);
        x.go(2);
        x.swap(0, 1);
        Check.places(x, 1, 0);
        due("undo() of a swap", x.undo(), 4);
        Check.places(x, 0, 1);
        due("undo() of a minute", x.undo(), 3);
        due("the minute", x.count(6), 1);
        due("undo() of a minute", x.undo(), 2);
        Check.joys(x, 0, 0);
        due("away till", x.sitter(0, 1), 1);
        due("kept for", x.seat(0, 4), 0);
        due("undo() of getting up", x.undo(), 1);
        Check.places(x, 0, 1);
        due("kept for none", x.seat(0, 4), -1);
        due("away till none", x.sitter(0, 1), -1);
        due("undo() of keeping", x.undo(), 0);
        due("keeps", x.sitter(1, 4), 0);
        due("undo() of nothing", x.undo(), -1);
        x.go(3);
        due("acts", x.count(11), 3);
        due("undo()", x.undo(), 2);
    }

    private static void promise17Forty() {
        LostPlaces x = Check.room("s;ps0;et99");
        x.go(45);
        due("acts", x.count(11), 40);
        due("keeps tells so many", x.keeps(0, 1), 40);
        for (int left = 39; left >= 0; left--) due("undo()", x.undo(), left);
        due("undo() of a 41st", x.undo(), -1);
        due("the minute", x.count(6), 6);
        Check.joys(x, 60);
        x.go(50);
        due("the minute", x.count(6), 56);
        due("acts", x.count(11), 40);
    }

    private static void promise18() {
        LostPlaces x = Check.room("sx0;sx1;ps0;et99", TO_AND_FRO);
        due("log(0, 0) of none", x.log(0, 0), -1000000);
        x.go(2);
        Check.move(x, 0, 0, 0, 1, 1);
        due("log(1, 0)", x.log(1, 0), -1000000);
        x.go(1);
        Check.move(x, 0, 0, 1, 0, 2);
        Check.move(x, 1, 0, 0, 1, 1);
        due("log(0, 4)", x.log(0, 4), -1000000);
        due("log(0, -1)", x.log(0, -1), -1000000);
        due("log(-1, 0)", x.log(-1, 0), -1000000);
        x.go(57);
        x.go(10);
        due("how long", x.count(10), 60);
        due("the latest", x.log(0, 3), 69);
        due("the 60th", x.log(59, 3), 10);
        due("the 61st", x.log(60, 3), -1000000);
        for (int i = 0; i < 60; i++) {
            int odd = (69 - i) % 2;
            Check.move(x, i, 0, 1 - odd, odd, 69 - i);
        }
        x.undo();
        due("the latest behind undo()", x.log(0, 3), 68);
        due("the 60th behind undo()", x.log(59, 3), 9);
        LostPlaces floor = Check.room("s;p;et9");
        floor.go(1);
        Check.move(floor, 0, 0, -1, 0, 0);
    }

    private static void promise37And38() {
        LostPlaces x = new LostPlaces();
        due("image() without a room", x.image(), -1);
        x = Check.room("sw9;sw5;ps0k3;ps1;p;et30");
        due("back() without an image", x.back(), -1);
        x.up(0, 2);
        x.go(1);
        x.keeps(1, 7);
        due("image()", x.image(), 1);
        due("an image is no act", x.count(11), 3);
        x.go(9);
        x.keeps(1, 2);
        x.swap(0, 1);
        x.up(2, 4);
        due("back()", x.back(), 1);
        Check.places(x, -2, 1, -1);
        Check.joys(x, 0, 5, 0);
        due("away till", x.sitter(0, 1), 2);
        due("kept for", x.seat(0, 4), 0);
        due("kept till", x.seat(0, 5), 3);
        due("keeps", x.sitter(1, 4), 7);
        due("the log", x.count(10), 0);
        due("undo() behind back()", x.undo(), -1);
        x.go(5);
        due("back() again", x.back(), 1);
        due("the minute", x.count(6), 1);
        x.go(2);
        due("another image()", x.image(), 3);
        x.go(1);
        due("undo()", x.undo(), 2);
        due("back()", x.back(), 3);
        LostPlaces log = Check.room("sx0;sx1;ps0;et99", TO_AND_FRO);
        log.go(5);
        log.image();
        log.go(60);
        log.back();
        due("the log of the image", log.count(10), 4);
        Check.move(log, 0, 0, 1, 0, 4);
        Check.move(log, 3, 0, 0, 1, 1);
    }
}
