import java.math.BigInteger;
import java.util.function.Consumer;

/** Boundary cases of what is done by hand, of RESTLESS, of ACTS, of the LOG and of an IMAGE (sections 2 and 4). */
public final class ActEdgesTest {
    // one sitter that likes the other of two seats better each minute: a move in every minute but the first
    private static final String TO_AND_FRO = "y:m/2*2=m&x=0|m/2*2<m&x=1?9;y:1";

    public static void main(String[] args) {
        Edge.runAll(ActEdgesTest.class);
    }

    private static void due(String call, long got, long want) {
        Check.due(call, got, want);
    }

    // ---- by hand

    // Section 2, by hand: "a SITTER gets UP for 1 .. 9 minutes (as in (2), now)"; promise 12: "till which MINUTE"
    private static void upForOneToNineMinutes() {
        for (int minutes = 1; minutes <= 9; minutes++) {
            LostPlaces x = Check.room("s;ps0;et30");
            x.go(4);
            due("up(0, " + minutes + ")", x.up(0, minutes), 4 + minutes);
            due("away till", x.sitter(0, 1), 4 + minutes);
            x.go(minutes);
            Check.places(x, -2);
            x.go(1);
            Check.places(x, 0);
        }
    }

    // Section 2, by hand: "gets UP .. (as in (2), now)": away beyond the END
    private static void upBeyondTheEnd() {
        LostPlaces x = Check.room("s;ps0k9;et2");
        x.go(1);
        due("up(0, 9)", x.up(0, 9), 10);
        due("kept till", x.seat(0, 5), 10);
        x.go(1);
        Check.places(x, -2);
    }

    // Section 2, by hand: "(as in (2), now)": what it KEEPS is kept at once: 0 keeps nothing, the FLOOR is not kept
    private static void upKeepsAtOnce() {
        LostPlaces x = Check.room("s;s;s;ps0k1;ps1k9;ps2k0;pk9b99;et30");
        x.go(4);
        for (int p = 0; p < 4; p++) x.up(p, 3);
        int[] keptFor = {0, 1, -1};
        int[] keptTill = {5, 13, -1};
        for (int s = 0; s < 3; s++) {
            due("seat(" + s + ", 3)", x.seat(s, 3), -1);
            due("seat(" + s + ", 4)", x.seat(s, 4), keptFor[s]);
            due("seat(" + s + ", 5)", x.seat(s, 5), keptTill[s]);
        }
    }

    // Section 2, by hand: "now": ahead of this MINUTE's GOINGS, of which those of one that is AWAY then do not happen
    private static void upIsAheadOfTheGoings() {
        LostPlaces x = Check.room("s;ps0;gm0d9;et30");
        x.up(0, 1);
        x.go(2);
        Check.places(x, 0);
    }

    // Section 2, by hand: "it KEEPS another number of minutes from now on": what is kept by now stays so
    private static void keepsFromNowOn() {
        LostPlaces x = Check.room("s;s;ps0k3;ps1;et30");
        x.up(0, 2);
        due("keeps(0, 9)", x.keeps(0, 9), 2);
        due("kept till", x.seat(0, 5), 3);
        x.go(3);
        x.up(0, 2);
        due("kept till, from now on", x.seat(0, 5), 12);
        x.up(1, 2);
        x.keeps(1, 9);
        due("nothing was kept", x.seat(1, 4), -1);
        x.keeps(0, 0);
        due("kept yet", x.seat(0, 4), 0);
    }

    // Section 2, by hand: "it KEEPS another number of minutes": 0 and 9; promise 13: one that is AWAY, and at the END, too
    private static void keepsNoneToNine() {
        LostPlaces x = Check.room("s;ps0k5;et2");
        due("keeps(0, 0)", x.keeps(0, 0), 1);
        due("keeps(0, 9)", x.keeps(0, 9), 2);
        due("sitter(0, 4)", x.sitter(0, 4), 9);
        x.up(0, 9);
        due("keeps(0, 1), away", x.keeps(0, 1), 4);
        x.go(2);
        due("keeps(0, 2) at the end", x.keeps(0, 2), 7);
    }

    // Section 2, by hand: "two that are not AWAY SWAP": from SEAT to SEAT, to the FLOOR and back; nothing is kept, no MOVE
    private static void swapOfTwo() {
        LostPlaces x = Check.room("sw9;sw5;ps0b50k9;ps1b50k9;pb50;et5");
        due("swap(0, 1)", x.swap(0, 1), 1);
        Check.places(x, 1, 0, -1);
        due("swap(1, 2), to the floor", x.swap(1, 2), 2);
        Check.places(x, 1, -1, 0);
        due("swap(1, 0), from the floor", x.swap(1, 0), 3);
        Check.places(x, -1, 1, 0);
        int[] on = {2, 1};
        for (int s = 0; s < 2; s++) {
            due("seat(" + s + ", 3)", x.seat(s, 3), on[s]);
            due("seat(" + s + ", 4)", x.seat(s, 4), -1);
        }
        due("count(10)", x.count(10), 0);
        x.go(1);
        Check.places(x, -1, 1, 0);
        Check.joys(x, 0, 5, 9);
    }

    // Section 2, by hand: "two that are not AWAY SWAP"; promise 14: at the END, too
    private static void swapAtTheEnd() {
        LostPlaces x = Check.room("s;s;ps0;ps1;et1");
        x.go(1);
        due("swap(0, 1)", x.swap(0, 1), 2);
        Check.places(x, 1, 0);
    }

    // Promise 15: "MINUTES (1 .. 60, as many as are left at most ..): the MINUTE": 1, 60, and all that are left
    private static void goOneToSixty() {
        LostPlaces x = Check.room("s;ps0;et62");
        due("go(1)", x.go(1), 1);
        due("go(60)", x.go(60), 61);
        due("go(1), all that are left", x.go(1), 62);
        Check.joys(x, 620);
    }

    // Promise 16: "RESTLESS ones: likewise": 1, 60, and all that are left
    private static void winterOneToSixty() {
        LostPlaces x = Check.room("s;ps0;et62");
        due("winter(1, 0)", x.winter(1, 0L), 1);
        due("winter(60, 0)", x.winter(60, 0L), 61);
        due("winter(1, 0), all that are left", x.winter(1, 0L), 62);
        Check.joys(x, 620);
    }

    // ---- restless

    private static final BigInteger ROUND = BigInteger.ONE.shiftLeft(64);

    /** The draws told once more: numbers without sign, going round at 2 to the 64. */
    private static final class Draws {
        private BigInteger x;

        Draws(long seed) {
            x = BigInteger.valueOf(seed).mod(ROUND);
        }

        int draw(int m) {
            x = x.multiply(new BigInteger("6364136223846793005")).add(new BigInteger("1442695040888963407")).mod(ROUND);
            return x.shiftRight(33).mod(BigInteger.valueOf(m)).intValue();
        }
    }

    private static final long[] SEEDS = {0, 1, 2, 3, 4, 5, -1, -2, 77, 1L << 32, 1L << 63, Long.MAX_VALUE, 6364136223846793005L,
        -1442695040888963407L, 0x123456789abcdefL, -0x123456789abcdefL};

    private static int firstDraw(long seed) {
        return new Draws(seed).draw(100);
    }

    /** Where the one sitter is behind a minute by this seed. */
    private static LostPlaces wintered(int restless, long seed) {
        LostPlaces x = Check.room("s;ps0k5;et9");
        x.restless(restless);
        x.winter(1, seed);
        return x;
    }

    // Section 2: "draws of 100: below RESTLESS .. it gets UP": the draw itself is not below, one more is
    private static void belowRestless() {
        for (long seed : SEEDS) {
            int drawn = firstDraw(seed);
            due("restless as drawn, seed " + seed, wintered(drawn, seed).sitter(0, 0), 0);
            if (drawn < 99) due("restless one more, seed " + seed, wintered(drawn + 1, seed).sitter(0, 0), -2);
        }
    }

    // Section 2: "RESTLESS (0 .. 99; 0 at first)": nobody gets UP by 0, whatever is drawn
    private static void restlessAtFirst() {
        long seed = 0;
        while (firstDraw(seed) != 0) seed++;
        LostPlaces x = Check.room("s;ps0;et9");
        due("count(9)", x.count(9), 0);
        x.winter(1, seed);
        Check.places(x, 0);
        due("by restless 1 it gets up", wintered(1, seed).sitter(0, 0), -2);
    }

    // Section 2: "RESTLESS (0 .. 99 ..)": by 99 one stays that draws 99, all others get UP
    private static void mostRestless() {
        long seed = 0;
        while (firstDraw(seed) != 99) seed++;
        due("it draws 99", wintered(99, seed).sitter(0, 0), 0);
        seed = 0;
        while (firstDraw(seed) != 98) seed++;
        due("it draws 98", wintered(99, seed).sitter(0, 0), -2);
    }

    // Section 2: "it gets UP for 1 and a draw of 3 minutes": 1, 2 and 3; what it KEEPS is kept
    private static void oneAndADrawOfThree() {
        int seen = 0;
        for (long seed = 0; seed < 40; seed++) {
            Draws draws = new Draws(seed);
            if (draws.draw(100) >= 99) continue;
            int minutes = 1 + draws.draw(3);
            seen |= 1 << minutes;
            LostPlaces x = wintered(99, seed);
            due("away till, seed " + seed, x.sitter(0, 1), minutes);
            due("kept till, seed " + seed, x.seat(0, 5), 5);
        }
        due("1, 2 and 3 are seen", seen, 14);
    }

    // Section 2: "ahead of (1) each SITTER that is not AWAY, by numbers": who is AWAY draws nothing, who comes back neither
    // in that MINUTE; "x, at first the seed": it goes on from MINUTE to MINUTE, and begins again with each call
    private static void drawsOfAllMinutes() {
        for (long seed : SEEDS) {
            for (int restless : new int[] {5, 40, 99}) {
                LostPlaces x = Check.room("sw0;p;p;p;p;et60");
                x.restless(restless);
                int[] till = {-1, -1, -1, -1};
                int minute = 0;
                for (int n : new int[] {1, 7, 1, 12}) {
                    due("winter", x.winter(n, seed), minute + n);
                    Draws draws = new Draws(seed);
                    for (int i = 0; i < n; i++, minute++) {
                        for (int p = 0; p < till.length; p++) {
                            if (till[p] < 0 && draws.draw(100) < restless) till[p] = minute + 1 + draws.draw(3);
                            else if (till[p] == minute) till[p] = -1;
                        }
                    }
                    for (int p = 0; p < till.length; p++) due("away till, seed " + seed, x.sitter(p, 1), till[p]);
                }
            }
        }
    }

    // Section 2: "ahead of (1)": a GOING of this MINUTE does not happen to one that got UP so
    private static void restlessAheadOfTheGoings() {
        LostPlaces x = Check.room("s;ps0;gm0d9;et9");
        long seed = 0;
        while (firstDraw(seed) >= 50) seed++;
        x.restless(50);
        x.winter(1, seed);
        Draws draws = new Draws(seed);
        draws.draw(100);
        due("away till", x.sitter(0, 1), 1 + draws.draw(3));
    }

    // ---- acts

    // Section 2: "All these (each MINUTE) are ACTS": one each; a MINUTE of many is one by itself, RESTLESS or not
    private static void whatIsAnAct() {
        LostPlaces x = Check.room("s;s;ps0;ps1;p;et60");
        int acts = 0;
        x.up(2, 1);
        due("behind up", x.count(11), ++acts);
        x.keeps(0, 3);
        due("behind keeps", x.count(11), ++acts);
        x.swap(0, 1);
        due("behind swap", x.count(11), ++acts);
        x.go(4);
        due("behind go(4)", x.count(11), acts += 4);
        x.winter(5, 1L);
        due("behind winter(5, 1)", x.count(11), acts += 5);
        x.undo();
        due("behind undo", x.count(11), acts - 1);
    }

    // Section 2: "All these .. are ACTS": nothing else is: what is told, held, pictured or asked cannot be UNDONE
    private static void whatIsNoAct() {
        LostPlaces x = Check.room("s;ps0;g;et60", "y:7");
        x.taste(-1);
        x.taste(0);
        x.restless(9);
        x.tells(0, 0);
        x.image();
        x.when(0, 1, 1, 0);
        x.been(-1);
        due("count(11)", x.count(11), 0);
        due("undo()", x.undo(), -1);
        x.go(1);
        x.taste(-1);
        x.restless(8);
        x.tells(0, 0);
        Check.feed(x, "abc");
        x.undo();
        due("the taste that holds", x.count(5), -1);
        due("restless", x.count(9), 8);
        due("told", x.count(12), 2);
        due("tape", x.count(4), 3);
        x.go(1);
        x.image();
        x.undo();
        due("the image", x.back(), 1);
    }

    // Section 2: "the latest 40 can be UNDONE one by one": 39, 40, 41 of them
    private static void fortyActs() {
        for (int many = 39; many <= 41; many++) {
            LostPlaces x = Check.room("s;ps0;et60");
            x.go(many);
            int left = Math.min(many, 40);
            due("count(11) of " + many, x.count(11), left);
            for (int minute = many - 1; left > 0; minute--) {
                due("undo() of " + many, x.undo(), --left);
                due("the minute", x.count(6), minute);
                Check.joys(x, 10 * minute);
            }
            due("one more undo() of " + many, x.undo(), -1);
            due("the minute", x.count(6), Math.max(0, many - 40));
            Check.joys(x, 10 * Math.max(0, many - 40));
        }
    }

    // Section 2: "the latest 40": of ACTS of all kinds, and "one by one": what was UNDONE makes room for as many
    private static void latestForty() {
        LostPlaces x = Check.room("s;ps0;et99");
        x.keeps(0, 1);
        x.go(39);
        due("40 acts", x.count(11), 40);
        due("keeps(0, 2) is the 41st", x.keeps(0, 2), 40);
        for (int i = 0; i < 40; i++) x.undo();
        due("the first one is not undone", x.sitter(0, 4), 1);
        due("the minute", x.count(6), 0);
        x.go(30);
        for (int i = 0; i < 20; i++) x.undo();
        x.go(50);
        for (int i = 0; i < 40; i++) x.undo();
        due("undo() of none", x.undo(), -1);
        due("the minute", x.count(6), 20);
    }

    private static void undone(String what, Consumer<LostPlaces> act) {
        LostPlaces x = Edge.busy();
        act.accept(x);
        due("undo() of " + what, x.undo() < 0 ? 0 : 1, 1);
        Edge.same("undone " + what, x, Edge.busy());
    }

    // Promise 17: "The latest ACT is UNDONE (the LOG, too)": all is as ahead of each kind of ACT
    private static void eachKindOfActUndone() {
        undone("up", x -> x.up(1, 3));
        undone("keeps", x -> x.keeps(0, 9));
        undone("swap", x -> x.swap(1, 2));
        undone("go", x -> x.go(1));
        undone("winter", x -> x.winter(1, 5L));
    }

    // Promise 17: "how many still can be", "NONE: none": at once, behind the last one, and of a new ROOM
    private static void undoOfNone() {
        LostPlaces x = Check.room("s;ps0;et60");
        due("undo()", x.undo(), -1);
        x.go(2);
        due("undo()", x.undo(), 1);
        due("undo()", x.undo(), 0);
        due("undo()", x.undo(), -1);
        x.go(3);
        Check.addRoom(x, "s;ps0;et60");
        due("undo() of the room ahead", x.undo(), -1);
        due("the minute", x.count(6), 0);
    }

    // ---- the log

    private static LostPlaces moved(int moves) {
        LostPlaces x = Check.room("sx0;sx1;ps0;et99", TO_AND_FRO);
        x.go(1);
        for (int left = moves; left > 0; left -= 60) x.go(Math.min(60, left));
        return x;
    }

    // Section 2: "LOG: the latest 60 MOVES": 59, 60, 61 and more of them; the latest is 0
    private static void sixtyMoves() {
        for (int many : new int[] {0, 1, 59, 60, 61, 62, 98}) {
            LostPlaces x = moved(many);
            int logged = Math.min(many, 60);
            due("count(10) of " + many, x.count(10), logged);
            for (int i = 0; i < logged; i++) {
                int minute = many - i;
                Check.move(x, i, 0, 1 - minute % 2, minute % 2, minute);
            }
            due("log(" + logged + ", 0) of " + many, x.log(logged, 0), Edge.HIDDEN);
            due("often(0) of " + many, x.often(0), logged);
        }
    }

    // Promise 17: "(the LOG, too)": what was beyond 60 is there again behind as many UNDONE
    private static void undoneMovesBeyondSixty() {
        LostPlaces x = moved(70);
        for (int i = 0; i < 15; i++) x.undo();
        due("count(10)", x.count(10), 55);
        Check.move(x, 0, 0, 0, 1, 55);
        Check.move(x, 54, 0, 0, 1, 1);
        LostPlaces all = moved(98);
        for (int i = 0; i < 40; i++) all.undo();
        due("count(10)", all.count(10), 58);
        for (int i = 0; i < 58; i++) due("log(" + i + ", 3)", all.log(i, 3), 58 - i);
        LostPlaces fewer = moved(70);
        for (int i = 0; i < 5; i++) fewer.undo();
        due("count(10)", fewer.count(10), 60);
        Check.move(fewer, 59, 0, 1, 0, 6);
    }

    // Section 2: LOG: "from where (NONE: the FLOOR)"
    private static void movedFromTheFloor() {
        LostPlaces x = Check.room("s;s;p;ps0;et9");
        x.go(1);
        Check.move(x, 0, 0, -1, 1, 0);
    }

    // Section 2: LOG: "MOVES" alone: getting UP, coming back, to SWAP are none
    private static void whatIsNoMove() {
        LostPlaces x = Check.room("sw9;sw5;ps0k3;ps1b9;p;et9");
        x.up(0, 1);
        x.swap(1, 2);
        x.swap(1, 2);
        x.go(2);
        Check.places(x, 0, 1, -1);
        due("count(10)", x.count(10), 0);
    }

    // ---- images

    // Section 4: "An IMAGE keeps where all are, what is kept, KEEPS, JOY, the MINUTE, the LOG; BACK: they are so again"
    private static void imageKeepsAll() {
        LostPlaces x = Check.room("sw9;sw5;ps0k3;ps1;p;et30");
        x.up(0, 5);
        x.up(1, 1);
        x.go(1);
        x.keeps(1, 7);
        Check.move(x, 0, 2, -1, 1, 0);
        due("image()", x.image(), 1);
        x.go(20);
        x.keeps(1, 2);
        x.keeps(0, 2);
        x.up(2, 9);
        due("back()", x.back(), 1);
        Check.places(x, -2, -2, 1);
        Check.joys(x, 0, 0, 5);
        due("sitter(0, 1)", x.sitter(0, 1), 5);
        due("sitter(1, 1)", x.sitter(1, 1), 1);
        due("sitter(2, 1)", x.sitter(2, 1), -1);
        due("seat(0, 4)", x.seat(0, 4), 0);
        due("seat(0, 5)", x.seat(0, 5), 3);
        due("seat(1, 3)", x.seat(1, 3), 2);
        due("sitter(0, 4)", x.sitter(0, 4), 3);
        due("sitter(1, 4)", x.sitter(1, 4), 7);
        due("count(6)", x.count(6), 1);
        due("count(10)", x.count(10), 1);
        Check.move(x, 0, 2, -1, 1, 0);
    }

    // Section 4: "An IMAGE keeps .. the LOG": all 60 MOVES of it, whatever comes behind
    private static void imageKeepsTheWholeLog() {
        for (int many : new int[] {0, 1, 58, 60}) {
            LostPlaces x = moved(many);
            x.image();
            x.go(38);
            x.back();
            due("count(10)", x.count(10), many);
            for (int i = 0; i < many; i++) due("log(" + i + ", 3) of " + many, x.log(i, 3), many - i);
            due("log(" + many + ", 3)", x.log(many, 3), Edge.HIDDEN);
        }
    }

    // Section 4: "An IMAGE keeps ..": not the TASTE, RESTLESS, what is TOLD, the TAPE: these stay as they are
    private static void whatAnImageDoesNotKeep() {
        LostPlaces x = Check.room("s;ps0;et30", "y:7");
        x.restless(5);
        x.image();
        x.taste(-1);
        x.restless(6);
        x.tells(0, 0);
        Check.feed(x, "ab");
        x.back();
        due("count(5)", x.count(5), -1);
        due("count(9)", x.count(9), 6);
        due("count(12)", x.count(12), 1);
        due("count(4)", x.count(4), 2);
    }

    // Section 4: "(no ACT can be UNDONE then)": but those that come behind it can
    private static void noActUndoneBehindBack() {
        LostPlaces x = Check.room("s;ps0;et30");
        x.go(3);
        x.image();
        x.go(4);
        due("back()", x.back(), 3);
        due("count(11)", x.count(11), 0);
        due("undo()", x.undo(), -1);
        due("the minute", x.count(6), 3);
        x.go(2);
        due("undo()", x.undo(), 1);
        due("undo()", x.undo(), 0);
        due("the minute", x.count(6), 3);
        due("undo()", x.undo(), -1);
    }

    // Promise 37: "An IMAGE (instead of the one ahead): the MINUTE"; promise 38: "BACK: the MINUTE", more than once
    private static void imageInsteadOfTheOneAhead() {
        LostPlaces x = Check.room("s;ps0;et30");
        due("image() at once", x.image(), 0);
        x.go(2);
        due("another image()", x.image(), 2);
        x.go(28);
        due("back()", x.back(), 2);
        x.go(28);
        due("back() again", x.back(), 2);
        x.go(28);
        due("image() at the end", x.image(), 30);
        x.undo();
        due("back()", x.back(), 30);
        Check.joys(x, 300);
    }

    // Promise 38: "NONE: no IMAGE of this ROOM": none yet, or one of another ROOM
    private static void noImageOfThisRoom() {
        LostPlaces x = Check.room("s;ps0;et30");
        due("back()", x.back(), -1);
        x.go(4);
        x.image();
        Check.addRoom(x, "s;ps0;et30");
        x.go(1);
        due("back(), another room", x.back(), -1);
        due("the minute", x.count(6), 1);
        due("undo()", x.undo(), 0);
        // a text that is refused makes no other room
        x.image();
        Check.feed(x, "s;q");
        x.text(0);
        due("back(), a text refused", x.back(), 0);
    }

    // "An object is used for at most 512 calls after it has been made": the 512th call still answers as promised
    private static void fiveHundredAndTwelveCalls() {
        LostPlaces x = new LostPlaces();
        // "s;s;ps0;ps1;et99"
        x.feed(0x733b733b, 0x7073303b, 0x7073313b, 0x65743939, 0);
        due("text(0)", x.text(0), 2);
        for (int calls = 2; calls < 510; calls += 2) {
            due("go(1)", x.go(1), 1);
            due("undo()", x.undo(), 0);
        }
        due("the 511th call: go(60)", x.go(60), 60);
        due("the 512th call: sitter(1, 5)", x.sitter(1, 5), 600);
    }
}
