import java.util.function.Supplier;

/**
 * "What is refused answers as told and changes nothing" (section 4): of each promise each reason to refuse, one test each.
 * Behind a refused call all other calls have to answer as on an object on which it was not made (Edge.refused).
 */
public final class RefusalEdgesTest {
    private static final int NONE = -1;
    private static final int AWAY = -2;
    private static final int HIDDEN = -1000000;
    private static final int LEAST = Integer.MIN_VALUE;
    private static final int MOST = Integer.MAX_VALUE;
    // the busy evening has sitters 0 (away), 1 and 2, seats 0 (kept), 1 and 2, goings 0 and 1
    private static final int[] NO_SITTERS = {-1, -2, 3, 8, HIDDEN, LEAST, MOST};
    private static final int[] NO_SEATS = {-2, -3, 3, 8, HIDDEN, LEAST, MOST};
    private static final int[] NO_CHOICES = {-1, 2, 9, LEAST, MOST};
    private static final Supplier<LostPlaces> NEW = LostPlaces::new;
    private static final Supplier<LostPlaces> ROOMLESS = Edge::roomless;
    private static final Supplier<LostPlaces> BUSY = Edge::busy;
    private static final Supplier<LostPlaces> ENDED = Edge::ended;

    public static void main(String[] args) {
        Edge.runAll(RefusalEdgesTest.class);
    }

    private static void due(String call, long got, long want) {
        Check.due(call, got, want);
    }

    /** A call with one number. */
    private interface Numbered {
        long ask(LostPlaces x, int n);
    }

    private static void refuse(Supplier<LostPlaces> start, long want, String call, Numbered numbered, int... numbers) {
        for (int n : numbers) Edge.refused(start, want, call + " by " + n, x -> numbered.ask(x, n));
    }

    private static long bit(boolean b) {
        return b ? 1 : 0;
    }

    // "What is refused answers as told and changes nothing": what most of the tests below start from
    private static void theBusyEvening() {
        LostPlaces x = Edge.busy();
        Check.places(x, -2, 1, 2);
        due("kept for", x.seat(0, 4), 0);
        due("acts", x.count(11), 4);
        due("log", x.count(10), 2);
        due("told", x.count(12), 1);
        due("tape", x.count(4), 5);
        due("minutes left", x.count(7) - x.count(6), 8);
        LostPlaces end = Edge.ended();
        due("at its end", end.count(6), 9);
        Check.places(end, 0, 1, 2);
    }

    // ---- promise 1

    // Promise 1: "No ROOM": all counts but those of the TAPE, TASTES and RESTLESS; each call answers as without a ROOM
    private static void aNewObject() {
        LostPlaces x = new LostPlaces();
        int[] counts = {0, 0, 0, 0, 0, -1, 0, 0, 0, 0, 0, 0, 0};
        for (int what = 0; what < counts.length; what++) due("count(" + what + ")", x.count(what), counts[what]);
        due("fault(0)", x.fault(0), 0);
        due("fault(1)", x.fault(1), 0);
        due("text(0)", x.text(0), NONE);
        due("text(1)", x.text(1), NONE);
        due("end(0)", bit(x.end(0)), 1);
        due("taste(-1)", bit(x.taste(-1)), 1);
        due("restless(0)", bit(x.restless(0)), 0);
    }

    // ---- promise 2

    // Promise 2: "Twenty bytes more .. (.. bytes of 0 are left out): how many it has": none and twenty of a call
    private static void feedOfNoneToTwenty() {
        LostPlaces x = new LostPlaces();
        due("feed of zeros", x.feed(0, 0, 0, 0, 0), 0);
        due("feed of one", x.feed(0, 0, 0, 0, 's'), 1);
        due("feed of twenty", x.feed(0x3b702020, 0x20202020, 0x20202020, 0x20202020, 0x20202020), 21);
        due("feed of zeros again", x.feed(0, 0, 0, 0, 0), 21);
        due("fault(0)", x.fault(0), NONE);
    }

    // Promise 2: "(of each number the highest first ..)": in order, with zeros anywhere, and bytes above 127
    private static void feedTheHighestFirst() {
        LostPlaces x = new LostPlaces();
        due("feed", x.feed(0x73003b00, 0x00700073, 0, 0x3b000000, 0x00003071), 7);
        // "s;ps;0q": the item s has no number
        due("fault(0)", x.fault(0), 4);
        x.end(0);
        due("feed", x.feed(0x7377393b, 0x70733071, 0x37, 0, 0), 9);
        due("text(0)", x.text(0), 1);
        due("sw9", x.seat(0, 0), 9);
        due("q7", x.sitter(0, 2), 7);
        due("feed of 255 and 128", x.feed(0xff800000, -1, 0, 0, 0), 6);
        due("fault(0)", x.fault(0), 0);
    }

    // Promise 2: "NONE: more than 240": 240 are taken, also by less than twenty at last
    private static void feedUpTo240() {
        LostPlaces x = new LostPlaces();
        for (int n = 20; n <= 240; n += 20) due("feed", x.feed(0x73737373, 0x73737373, 0x73737373, 0x73737373, 0x73737373), n);
        due("feed of zeros", x.feed(0, 0, 0, 0, 0), 240);
        x.end(235);
        due("feed of five", x.feed(0x73000000, 0x73, 0x73000073, 0, 0x73), 240);
    }

    private static LostPlaces tapeOf(int bytes) {
        LostPlaces x = Edge.busy();
        x.end(0);
        Check.feed(x, "s;ps0" + Edge.times(" ", bytes - 5));
        return x;
    }

    // Promise 2: "NONE: more than 240": by one byte, by twenty: nothing of them comes to the TAPE
    private static void feedBeyond240() {
        for (int bytes : new int[] {221, 239, 240}) {
            Supplier<LostPlaces> full = () -> tapeOf(bytes);
            Edge.refused(full, NONE, "feed of twenty", x -> x.feed(0x71717171, 0x71717171, 0x71717171, 0x71717171, 0x71717171));
        }
        Edge.refused(() -> tapeOf(240), NONE, "feed of one", x -> x.feed(0, 0, 0, 0, 'q'));
        Edge.refused(() -> tapeOf(239), NONE, "feed of two", x -> x.feed('q', 0, 0, 0, 'q'));
        due("feed of one to 239", tapeOf(239).feed(0, 0, 'q', 0, 0), 240);
        due("feed of twenty to 220", tapeOf(220).feed(-1, -1, -1, -1, -1), 240);
    }

    // ---- promise 3

    // Promise 3: "The TAPE has its first n bytes alone": none, some, all
    private static void endOfNoneToAll() {
        LostPlaces x = new LostPlaces();
        Check.feed(x, "s;p;q");
        due("end(5)", bit(x.end(5)), 1);
        due("count(4)", x.count(4), 5);
        due("end(3)", bit(x.end(3)), 1);
        due("fault(0)", x.fault(0), NONE);
        due("end(0)", bit(x.end(0)), 1);
        due("count(4)", x.count(4), 0);
        Check.feed(x, "p;s");
        due("fault(0) of what is fed behind it", x.fault(0), NONE);
    }

    // Promise 3: "False: n": below 0, more than it has: even bytes it had once
    private static void endOutOfBounds() {
        refuse(BUSY, 0, "end", (x, n) -> bit(x.end(n)), -1, 6, 240, 241, LEAST, MOST);
        Supplier<LostPlaces> cut = () -> {
            LostPlaces x = Edge.busy();
            x.end(3);
            return x;
        };
        refuse(cut, 0, "end, cut to 3", (x, n) -> bit(x.end(n)), 4, 5);
    }

    // ---- promise 4

    // Promise 4: "NONE: none"
    private static void faultOfNone() {
        due("fault(0)", Check.fault("s;p", 0), NONE);
        due("fault(1)", Check.fault("y:1", 1), NONE);
    }

    // Promise 4: "-2: no such sort"
    private static void faultOfNoSuchSort() {
        refuse(BUSY, -2, "fault", (x, n) -> x.fault(n), -1, 2, 3, LEAST, MOST);
        refuse(NEW, -2, "fault", (x, n) -> x.fault(n), -1, 2);
    }

    // Promise 4: "The FAULT of the TAPE": to ask for it, of a whole text or not, changes nothing
    private static void faultChangesNothing() {
        refuse(BUSY, NONE, "fault", (x, n) -> x.fault(n), 0);
        refuse(BUSY, 0, "fault", (x, n) -> x.fault(n), 1);
        Supplier<LostPlaces> taste = () -> {
            LostPlaces x = Edge.busy();
            x.end(0);
            Check.feed(x, "y:5;y:6");
            return x;
        };
        refuse(taste, NONE, "fault", (x, n) -> x.fault(n), 1);
    }

    // Promise 4: "The FAULT of the TAPE as .. a TASTE": that text, with one or without, leaves nothing in the one taken next
    private static void faultOfATasteLeavesNothing() {
        for (String text : new String[] {"y:3", "y:w=1?4;y:5", "y:w=20?6;y:", "y:!(w=1|w=2", ""}) {
            LostPlaces x = Check.room("sw20;p");
            Check.feed(x, text);
            x.fault(1);
            x.text(2);
            x.end(0);
            Check.taste(x, "y:w<20?1;y:2");
            due("likes behind a fault of \"" + text + "\"", x.likes(0, 0), 2);
            Check.feed(x, text);
            x.fault(1);
            due("likes by the one that holds", x.likes(0, 0), 2);
        }
    }

    // Promise 4: "The FAULT of the TAPE as a ROOM": that text leaves nothing in the one taken next
    private static void faultOfARoomLeavesNothing() {
        LostPlaces x = new LostPlaces();
        Check.feed(x, "sw1f2x3;s;ps1q9b8k7;p;gp1m4d5;g;ef6t7");
        due("fault(0)", x.fault(0), NONE);
        x.end(0);
        Check.feed(x, "s;p");
        due("text(0)", x.text(0), 1);
        int[] counts = {1, 1, 0, 0, 0, NONE, 0, 60, 20, 0, 0, 0, 0};
        for (int what = 0; what < counts.length; what++) due("count(" + what + ")", x.count(what), counts[what]);
        due("seat(0, 0)", x.seat(0, 0), 10);
        Check.places(x, -1);
    }

    // ---- promise 5

    private static Supplier<LostPlaces> busyWith(String text) {
        return () -> {
            LostPlaces x = Edge.busy();
            x.end(0);
            Check.feed(x, text);
            return x;
        };
    }

    // Promise 5: "(.. if refused it stays)", "NONE: a FAULT": of a ROOM
    private static void roomWithAFault() {
        for (String text : new String[] {"", "s;ps0;ps0", "s;s;s;s;p;p;p;e;e", "sw1;sw2;sw3;p;gp1", "y:1", "e;s;p;;", "s;p;et0"}) {
            refuse(busyWith(text), NONE, "text of \"" + text + "\"", (x, n) -> x.text(n), 0);
        }
    }

    // Promise 5: "(.. if refused it stays)", "NONE: a FAULT": of a TASTE
    private static void tasteWithAFault() {
        for (String text : new String[] {"", "y:1;y:", "y:w=1", "s;p", "y:12345", "y:[[[[[[[1]]]]]]]"}) {
            refuse(busyWith(text), NONE, "text of \"" + text + "\"", (x, n) -> x.text(n), 1);
        }
    }

    // Promise 5: "NONE: .. no such sort"
    private static void textOfNoSuchSort() {
        refuse(BUSY, NONE, "text", (x, n) -> x.text(n), -1, 2, -2, LEAST, MOST);
        refuse(busyWith("y:1"), NONE, "text", (x, n) -> x.text(n), -1, 2);
    }

    // Promise 5: "NONE: .. there are four"
    private static void fifthTaste() {
        Supplier<LostPlaces> four = () -> {
            LostPlaces x = Edge.busy();
            for (String taste : new String[] {"y:3", "y:4"}) {
                x.end(0);
                Check.feed(x, taste);
                x.text(1);
            }
            Check.feed(x, "y:5");
            return x;
        };
        due("tastes", four.get().count(3), 4);
        refuse(four, NONE, "text, a fifth taste", (x, n) -> x.text(n), 1);
    }

    // Promise 5: "The TAPE (empty then ..) is the ROOM (MINUTE 0; all that was of another one is gone ..)"
    private static void nothingOfAnotherRoom() {
        LostPlaces x = Edge.busy();
        x.end(0);
        Check.feed(x, "sw4;sw3;p;et9");
        due("text(0)", x.text(0), 1);
        int[] counts = {2, 1, 0, 2, 0, 1, 0, 9, 20, 20, 0, 0, 0};
        for (int what = 0; what < counts.length; what++) due("count(" + what + ")", x.count(what), counts[what]);
        due("seat(0, 3)", x.seat(0, 3), NONE);
        due("seat(0, 4)", x.seat(0, 4), NONE);
        due("seat(0, 5)", x.seat(0, 5), NONE);
        due("seat(2, 0)", x.seat(2, 0), NONE);
        due("sitter(0, 1)", x.sitter(0, 1), NONE);
        due("sitter(0, 4)", x.sitter(0, 4), 0);
        Check.places(x, -1);
        Check.joys(x, 0);
        Check.throwsNoSuch(x, 1, 0);
        due("going(0, 0)", x.going(0, 0), NONE);
        due("log(0, 0)", x.log(0, 0), HIDDEN);
        due("warm()", x.warm(), NONE);
        due("undo()", x.undo(), NONE);
        due("back()", x.back(), NONE);
        due("been(-1)", x.been(-1), 1);
    }

    // Promise 5: "all that was of another one is gone": behind the largest ROOM the smallest one has no more than its own
    private static void smallestRoomBehindTheLargest() {
        String most = "sw99f99x19" + Edge.times(";sw99f99x19", 7) + Edge.times(";pq9b99k9", 8) + Edge.times(";gm0d9", 10);
        LostPlaces x = Check.room(most + ";ef0t99");
        x.go(20);
        for (int p = 0; p < 7; p++) x.up(p, 9);
        Check.addRoom(x, "sw9;p;p;et9");
        x.go(1);
        Check.places(x, 0, -1);
        x.up(0, 1);
        x.up(1, 1);
        x.go(2);
        Check.places(x, 0, -1);
        Check.joys(x, 18, 0);
        due("count(10)", x.count(10), 1);
        due("best(1, 0)", x.best(1, 0), NONE);
        due("sure(0)", x.sure(0), 1);
        due("envy()", x.envy(), 2);
        due("even()", x.even(), 18);
        due("ladder(1)", x.ladder(1), NONE);
        due("rests(0, -1) of two", x.rests(0, -1) > 0 ? 1 : 0, 1);
        due("fair(1, 1)", x.fair(1, 1) >= 0 ? 1 : 0, 1);
        due("been(-1)", x.been(-1), 1);
        due("going(0, 0)", x.going(0, 0), NONE);
    }

    // Promise 5: "(.. is gone but TASTES, which holds, RESTLESS)"
    private static void whatAnotherRoomLeaves() {
        LostPlaces x = Edge.busy();
        x.end(0);
        Check.feed(x, "sw4f3;p;ef0");
        x.text(0);
        due("the taste that holds", x.count(5), 1);
        due("likes by it", x.likes(0, 0), 7);
        due("restless", x.count(9), 20);
        due("taste(0)", bit(x.taste(0)), 1);
        x.taste(-1);
        Check.feed(x, "sw5;p");
        x.text(0);
        due("none holds", x.count(5), NONE);
        due("likes by none", x.likes(0, 0), 5);
    }

    // Promise 5: "a TASTE: its number": it does not hold by that, and the ROOM stays as it is
    private static void tasteTakenAlone() {
        LostPlaces x = busyWith("y:5").get();
        due("text(1)", x.text(1), 2);
        due("the tape is empty", x.count(4), 0);
        due("the taste that holds", x.count(5), 1);
        Check.feed(x, "sw3;p");
        LostPlaces y = Edge.busy();
        y.end(0);
        Check.feed(y, "y:5");
        y.text(1);
        Check.feed(y, "sw3;p");
        due("minute", x.count(6), 1);
        due("acts", x.count(11), 4);
        Edge.same("behind a taste taken", x, y);
    }

    // ---- promises 6 to 11

    // Promise 6: "3 who is on it (NONE), 4 for whom it is kept (NONE), 5 till which MINUTE (NONE)"
    private static void seatOfNobody() {
        LostPlaces x = Check.room("s;s;ps0k9;et9");
        int[] taken = {0, NONE, NONE};
        int[] free = {NONE, NONE, NONE};
        for (int what = 3; what <= 5; what++) {
            due("seat(0, " + what + ")", x.seat(0, what), taken[what - 3]);
            due("seat(1, " + what + ")", x.seat(1, what), free[what - 3]);
        }
        x.up(0, 1);
        int[] kept = {NONE, 0, 9};
        for (int what = 3; what <= 5; what++) due("seat(0, " + what + "), kept", x.seat(0, what), kept[what - 3]);
    }

    // Promise 6: "NONE: no such ones": no such SEAT
    private static void seatOfNoSuchSeat() {
        for (int what = 0; what <= 5; what++) {
            int of = what;
            refuse(BUSY, NONE, "seat, " + what, (x, n) -> x.seat(n, of), -1, 3, 8);
        }
        refuse(BUSY, NONE, "seat", (x, n) -> x.seat(n, 0), NO_SEATS);
        refuse(ROOMLESS, NONE, "seat without a room", (x, n) -> x.seat(n, 0), -1, 0, 1);
    }

    // Promise 6: "NONE: no such ones": nothing told by that number
    private static void seatOfNoSuchWhat() {
        refuse(BUSY, NONE, "seat(0, ..)", (x, n) -> x.seat(0, n), -1, 6, LEAST, MOST);
    }

    // Promise 7: "0 its SEAT (NONE: the FLOOR; AWAY), 1 till which MINUTE it is AWAY (NONE: it is not)"
    private static void sitterOnTheFloorOrAway() {
        LostPlaces x = Check.room("s;ps0;p;p;et9");
        x.up(2, 4);
        Check.places(x, 0, NONE, AWAY);
        due("sitter(0, 1)", x.sitter(0, 1), NONE);
        due("sitter(1, 1)", x.sitter(1, 1), NONE);
        due("sitter(2, 1)", x.sitter(2, 1), 4);
    }

    // Promise 7: "NoSuchElementException: no such ones": no such SITTER
    private static void sitterOfNoSuchSitter() {
        for (int what = 0; what <= 5; what++) {
            int of = what;
            refuse(BUSY, Edge.THROWN, "sitter, " + what, (x, n) -> Edge.thrown(x, n, of), -1, 3, 8);
        }
        refuse(BUSY, Edge.THROWN, "sitter", (x, n) -> Edge.thrown(x, n, 0), NO_SITTERS);
        refuse(ROOMLESS, Edge.THROWN, "sitter without a room", (x, n) -> Edge.thrown(x, n, 0), -1, 0, 1);
    }

    // Promise 7: "NoSuchElementException: no such ones": nothing told by that number
    private static void sitterOfNoSuchWhat() {
        refuse(BUSY, Edge.THROWN, "sitter(0, ..)", (x, n) -> Edge.thrown(x, 0, n), -1, 6, LEAST, MOST);
        for (int what = 0; what <= 5; what++) due("sitter(2, " + what + ") throws", Edge.thrown(Edge.busy(), 2, what), 0);
    }

    // Promise 8: "NONE: no such ones": no such GOING
    private static void goingOfNoSuchGoing() {
        for (int what = 0; what <= 2; what++) {
            int of = what;
            refuse(BUSY, NONE, "going, " + what, (x, n) -> x.going(n, of), -1, 2, 9, 10, LEAST, MOST);
        }
        refuse(ROOMLESS, NONE, "going without a room", (x, n) -> x.going(n, 0), 0);
        due("going(1, 2)", Edge.busy().going(1, 2), 2);
    }

    // Promise 8: "NONE: no such ones": nothing told by that number
    private static void goingOfNoSuchWhat() {
        refuse(BUSY, NONE, "going(1, ..)", (x, n) -> x.going(1, n), -1, 3, LEAST, MOST);
    }

    // Promise 9: "False: no such one": as many as there are, below NONE; none of all
    private static void tasteOfNoSuchTaste() {
        refuse(BUSY, 0, "taste", (x, n) -> bit(x.taste(n)), -2, 2, 3, 4, LEAST, MOST);
        refuse(NEW, 0, "taste of none", (x, n) -> bit(x.taste(n)), 0, -2);
    }

    // Promise 9: "(NONE: none)": also if none held; one that holds may be told to hold again
    private static void tasteNoneOrAgain() {
        LostPlaces x = new LostPlaces();
        due("taste(-1) of none", bit(x.taste(-1)), 1);
        x = Edge.busy();
        due("taste(1) again", bit(x.taste(1)), 1);
        due("taste(0)", bit(x.taste(0)), 1);
        due("count(5)", x.count(5), 0);
        due("taste(-1)", bit(x.taste(-1)), 1);
        due("count(5)", x.count(5), NONE);
        due("likes by none", x.likes(1, 0), 9);
    }

    // Promise 10: "False: out of bounds"
    private static void restlessOutOfBounds() {
        refuse(BUSY, 0, "restless", (x, n) -> bit(x.restless(n)), -1, 100, LEAST, MOST);
    }

    // Promise 10: "False: .. it is so"
    private static void restlessAsItIs() {
        refuse(BUSY, 0, "restless", (x, n) -> bit(x.restless(n)), 20);
        refuse(NEW, 0, "restless at first", (x, n) -> bit(x.restless(n)), 0);
    }

    // Promise 10: "RESTLESS (0 .. 99)"
    private static void restlessNoneToMost() {
        LostPlaces x = new LostPlaces();
        due("restless(99)", bit(x.restless(99)), 1);
        due("count(9)", x.count(9), 99);
        due("restless(0)", bit(x.restless(0)), 1);
        due("count(9)", x.count(9), 0);
    }

    // Promise 11: "a SEAT (NONE: the FLOOR)", "HIDDEN: no such ones": no such SITTER
    private static void likesOfNoSuchSitter() {
        refuse(BUSY, HIDDEN, "likes", (x, n) -> x.likes(n, 0), NO_SITTERS);
        refuse(BUSY, HIDDEN, "likes the floor", (x, n) -> x.likes(n, -1), NO_SITTERS);
        refuse(ROOMLESS, HIDDEN, "likes without a room", (x, n) -> x.likes(0, n), -1, 0);
    }

    // Promise 11: "HIDDEN: no such ones": no such SEAT (AWAY is none)
    private static void likesOfNoSuchSeat() {
        refuse(BUSY, HIDDEN, "likes", (x, n) -> x.likes(0, n), NO_SEATS);
        due("likes(0, -1)", Edge.busy().likes(0, -1), 0);
        due("likes(2, 2)", Edge.busy().likes(2, 2), 7);
    }

    // ---- promises 12 to 17

    // Promise 12: "NONE: no such one"
    private static void upOfNoSuchSitter() {
        refuse(BUSY, NONE, "up", (x, n) -> x.up(n, 1), NO_SITTERS);
        refuse(ROOMLESS, NONE, "up without a room", (x, n) -> x.up(n, 1), 0);
    }

    // Promise 12: "NONE: .. AWAY"
    private static void upOfOneAway() {
        refuse(BUSY, NONE, "up(0, ..)", (x, n) -> x.up(0, n), 1, 9);
    }

    // Promise 12: "NONE: .. out of bounds": minutes 1 .. 9
    private static void upOutOfBounds() {
        refuse(BUSY, NONE, "up(1, ..)", (x, n) -> x.up(1, n), 0, 10, -1, LEAST, MOST);
    }

    // Promise 12: "NONE: .. the END": in the last MINUTE it gets UP
    private static void upAtTheEnd() {
        refuse(ENDED, NONE, "up(1, ..)", (x, n) -> x.up(1, n), 1, 9);
        LostPlaces x = Edge.busy();
        x.go(7);
        due("up(1, 9) in the last minute", x.up(1, 9), 17);
    }

    // Promise 13: "NONE: no such one"
    private static void keepsOfNoSuchSitter() {
        refuse(BUSY, NONE, "keeps", (x, n) -> x.keeps(n, 1), NO_SITTERS);
        refuse(ROOMLESS, NONE, "keeps without a room", (x, n) -> x.keeps(n, 1), 0);
    }

    // Promise 13: "NONE: .. out of bounds": minutes (0 .. 9)
    private static void keepsOutOfBounds() {
        refuse(BUSY, NONE, "keeps(1, ..)", (x, n) -> x.keeps(1, n), -1, 10, LEAST, MOST);
    }

    // Promise 13: "NONE: .. it does": as told, and as by another call
    private static void keepsAsItDoes() {
        refuse(BUSY, NONE, "keeps(0, ..)", (x, n) -> x.keeps(0, n), 3);
        refuse(BUSY, NONE, "keeps(1, ..)", (x, n) -> x.keeps(1, n), 4);
        refuse(BUSY, NONE, "keeps(2, ..)", (x, n) -> x.keeps(2, n), 0);
    }

    // Promise 14: "NONE: no such ones": the one, or the other
    private static void swapOfNoSuchSitters() {
        refuse(BUSY, NONE, "swap(1, ..)", (x, n) -> x.swap(1, n), NO_SITTERS);
        refuse(BUSY, NONE, "swap(.., 1)", (x, n) -> x.swap(n, 1), NO_SITTERS);
        refuse(ROOMLESS, NONE, "swap without a room", (x, n) -> x.swap(n, 1 - n), 0, 1);
    }

    // Promise 14: "NONE: .. AWAY": the one, or the other
    private static void swapOfOneAway() {
        refuse(BUSY, NONE, "swap(0, ..)", (x, n) -> x.swap(0, n), 1, 2);
        refuse(BUSY, NONE, "swap(.., 0)", (x, n) -> x.swap(n, 0), 1, 2);
    }

    // Promise 14: "NONE: .. both on the FLOOR": one of them may be
    private static void swapOfBothOnTheFloor() {
        Supplier<LostPlaces> floor = () -> Check.room("s;ps0;p;p;et9");
        refuse(floor, NONE, "swap(1, ..)", (x, n) -> x.swap(1, n), 2);
        refuse(floor, NONE, "swap(2, ..)", (x, n) -> x.swap(2, n), 1);
        due("swap(0, 1)", floor.get().swap(0, 1), 1);
        due("swap(2, 0)", floor.get().swap(2, 0), 1);
    }

    // Promise 14: "NONE: .. alike"
    private static void swapOfOneWithItself() {
        refuse(BUSY, NONE, "swap alike", (x, n) -> x.swap(n, n), 0, 1, 2);
    }

    // Promise 15: "NONE: no ROOM"
    private static void goWithoutARoom() {
        refuse(ROOMLESS, NONE, "go", (x, n) -> x.go(n), 0, 1, 60);
        refuse(NEW, NONE, "go", (x, n) -> x.go(n), 0, 1, 60);
    }

    // Promise 15: "MINUTES (1 .. 60 ..)", "NONE: .. out of bounds"
    private static void goOutOfBounds() {
        Supplier<LostPlaces> longest = () -> Check.room("s;p;et99");
        refuse(longest, NONE, "go", (x, n) -> x.go(n), 0, -1, 61, 99, LEAST, MOST);
    }

    // Promise 15: "(.., as many as are left at most, else out of bounds)"
    private static void goMoreThanAreLeft() {
        refuse(BUSY, NONE, "go, 8 are left", (x, n) -> x.go(n), 9, 10, 60);
        refuse(ENDED, NONE, "go at the end", (x, n) -> x.go(n), 1, 60, 0);
        due("go(8)", Edge.busy().go(8), 9);
    }

    // Promise 16: "NONE likewise": no ROOM
    private static void winterWithoutARoom() {
        refuse(ROOMLESS, NONE, "winter", (x, n) -> x.winter(n, 7L), 0, 1, 60);
        refuse(NEW, NONE, "winter", (x, n) -> x.winter(n, 7L), 0, 1, 60);
    }

    // Promise 16: "NONE likewise": out of bounds (1 .. 60)
    private static void winterOutOfBounds() {
        Supplier<LostPlaces> longest = () -> Check.room("s;p;et99");
        refuse(longest, NONE, "winter", (x, n) -> x.winter(n, 7L), 0, -1, 61, 99, LEAST, MOST);
    }

    // Promise 16: "NONE likewise": more than are left
    private static void winterMoreThanAreLeft() {
        refuse(BUSY, NONE, "winter, 8 are left", (x, n) -> x.winter(n, 7L), 9, 10, 60);
        refuse(ENDED, NONE, "winter at the end", (x, n) -> x.winter(n, 7L), 1, 60, 0);
        due("winter(8, 7)", Edge.busy().winter(8, 7L), 9);
    }

    // Promise 17: "NONE: none"
    private static void undoOfNone() {
        Edge.refused(NEW, NONE, "undo of a new object", x -> x.undo());
        Edge.refused(ROOMLESS, NONE, "undo without a room", x -> x.undo());
        Supplier<LostPlaces> undone = () -> {
            LostPlaces x = Edge.busy();
            for (int i = 0; i < 4; i++) x.undo();
            return x;
        };
        Edge.refused(undone, NONE, "undo of none more", x -> x.undo());
    }

    // ---- promise 18

    // Promise 18: "LOG, the latest (i 0), the one ahead of it (1) ..", "HIDDEN: no such ones": no such MOVE
    private static void logOfNoSuchMove() {
        for (int what = 0; what <= 3; what++) {
            int of = what;
            refuse(BUSY, HIDDEN, "log, " + what, (x, n) -> x.log(n, of), -1, 2, 59, 60, LEAST, MOST);
        }
        refuse(ROOMLESS, HIDDEN, "log without a room", (x, n) -> x.log(n, 0), 0);
        Check.move(Edge.busy(), 0, 2, -1, 1, 0);
        Check.move(Edge.busy(), 1, 1, 1, 2, 0);
    }

    // Promise 18: "HIDDEN: no such ones": nothing told by that number
    private static void logOfNoSuchWhat() {
        refuse(BUSY, HIDDEN, "log(0, ..)", (x, n) -> x.log(0, n), -1, 4, LEAST, MOST);
        refuse(BUSY, HIDDEN, "log(1, ..)", (x, n) -> x.log(1, n), -1, 4);
    }

    // ---- promises 19 to 24

    // Promise 19: "HIDDEN: no such ones": no such SITTER, no such what
    private static void aheadOfNoSuchOnes() {
        refuse(BUSY, HIDDEN, "ahead", (x, n) -> x.ahead(n, 1, 0), NO_SITTERS);
        refuse(BUSY, HIDDEN, "ahead(0, 1, ..)", (x, n) -> x.ahead(0, 1, n), NO_CHOICES);
        refuse(ROOMLESS, HIDDEN, "ahead without a room", (x, n) -> x.ahead(n, 0, 0), 0);
    }

    // Promise 19: "HIDDEN: .. n out of bounds (0 .. as many as are left)"
    private static void aheadOutOfBounds() {
        refuse(BUSY, HIDDEN, "ahead(1, .., 0)", (x, n) -> x.ahead(1, n, 0), -1, 9, 99, LEAST, MOST);
        refuse(ENDED, HIDDEN, "ahead(1, .., 0) at the end", (x, n) -> x.ahead(1, n, 0), -1, 1, 60);
        due("ahead(1, 0, 0) at the end", Edge.ended().ahead(1, 0, 0), 1);
        due("ahead(1, 8, 0)", Edge.busy().ahead(1, 8, 0), 1);
    }

    // Promise 20: "HIDDEN: no such ones": no such SITTER, no such what
    private static void chainOfNoSuchOnes() {
        refuse(BUSY, HIDDEN, "chain", (x, n) -> x.chain(n, 0), NO_SITTERS);
        refuse(BUSY, HIDDEN, "chain(1, ..)", (x, n) -> x.chain(1, n), NO_CHOICES);
        refuse(ROOMLESS, HIDDEN, "chain without a room", (x, n) -> x.chain(n, 0), 0);
    }

    // Promise 20: "HIDDEN: .. AWAY"
    private static void chainOfOneAway() {
        refuse(BUSY, HIDDEN, "chain(0, ..)", (x, n) -> x.chain(0, n), 0, 1);
    }

    // Promise 20: "HIDDEN: .. on the FLOOR"
    private static void chainOnTheFloor() {
        refuse(() -> Check.room("s;ps0;p;et9"), HIDDEN, "chain(1, ..)", (x, n) -> x.chain(1, n), 0, 1);
    }

    // Promise 20: "HIDDEN: .. the END"
    private static void chainAtTheEnd() {
        refuse(ENDED, HIDDEN, "chain(1, ..) at the end", (x, n) -> x.chain(1, n), 0, 1);
    }

    // Promise 21: "HIDDEN: no such ones": no such SITTER, no such what
    private static void whenOfNoSuchOnes() {
        refuse(BUSY, HIDDEN, "when", (x, n) -> x.when(n, 1, 1, 0), NO_SITTERS);
        refuse(BUSY, HIDDEN, "when(1, 1, 1, ..)", (x, n) -> x.when(1, 1, 1, n), NO_CHOICES);
        refuse(ROOMLESS, HIDDEN, "when without a room", (x, n) -> x.when(n, 1, 1, 0), 0);
    }

    // Promise 21: "HIDDEN: .. out of bounds": d (1 .. 9)
    private static void whenForOutOfBounds() {
        refuse(BUSY, HIDDEN, "when(1, .., 1, 0)", (x, n) -> x.when(1, n, 1, 0), 0, 10, -1, LEAST, MOST);
        due("when(1, 9, 1, 0)", Edge.busy().when(1, 9, 1, 0), 1);
    }

    // Promise 21: "HIDDEN: .. out of bounds": n (1 .. 30)
    private static void whenOfOutOfBounds() {
        refuse(BUSY, HIDDEN, "when(1, 1, .., 0)", (x, n) -> x.when(1, 1, n, 0), 0, 31, -1, LEAST, MOST);
        due("when(1, 9, 30, 0) is told", Edge.busy().when(1, 9, 30, 0) >= 1 ? 1 : 0, 1);
    }

    // Promise 21: "HIDDEN: .. the END"
    private static void whenAtTheEnd() {
        refuse(ENDED, HIDDEN, "when(1, 1, 1, ..) at the end", (x, n) -> x.when(1, 1, 1, n), 0, 1);
    }

    // Promise 22: "HIDDEN: no such one"
    private static void keepingOfNoSuchSitter() {
        refuse(BUSY, HIDDEN, "keeping", (x, n) -> x.keeping(n, 1), NO_SITTERS);
        refuse(ROOMLESS, HIDDEN, "keeping without a room", (x, n) -> x.keeping(n, 0), 0);
    }

    // Promise 22: "HIDDEN: .. out of bounds (0 .. 9)"
    private static void keepingOutOfBounds() {
        refuse(BUSY, HIDDEN, "keeping(1, ..)", (x, n) -> x.keeping(1, n), -1, 10, LEAST, MOST);
        due("keeping(1, 0)", Edge.busy().keeping(1, 0), 0);
        due("keeping(1, 9) is told", Edge.busy().keeping(1, 9) > HIDDEN ? 1 : 0, 1);
    }

    // Promise 23: "HIDDEN: no such ones": no such SITTER, no such what
    private static void bestOfNoSuchOnes() {
        refuse(BUSY, HIDDEN, "best", (x, n) -> x.best(n, 0), NO_SITTERS);
        refuse(BUSY, HIDDEN, "best(1, ..)", (x, n) -> x.best(1, n), NO_CHOICES);
        refuse(ROOMLESS, HIDDEN, "best without a room", (x, n) -> x.best(n, 0), 0);
    }

    // Promise 23: "HIDDEN: .. AWAY"
    private static void bestOfOneAway() {
        refuse(BUSY, HIDDEN, "best(0, ..)", (x, n) -> x.best(0, n), 0, 1);
    }

    // Promise 24: "NONE: no such one": who is AWAY is one
    private static void sureOfNoSuchSitter() {
        refuse(BUSY, NONE, "sure", (x, n) -> x.sure(n), NO_SITTERS);
        refuse(ROOMLESS, NONE, "sure without a room", (x, n) -> x.sure(n), 0);
        due("sure(0), away", Edge.busy().sure(0), 0);
    }

    // ---- promises 25 and 26

    // Promise 25: "HIDDEN: no such row": too long, below 0, with a digit above 4
    private static void callOfNoSuchRow() {
        refuse(BUSY, HIDDEN, "call of a row of two", (x, n) -> x.call(n, 1, 1), -1, 5, 9, 15, 45, 50, 54, 99, 100, 444, 1000, -10, -44,
                LEAST, MOST);
        due("call(44, 0, 1) is told", Edge.busy().call(44, 0, 1) > 0 ? 1 : 0, 1);
        Supplier<LostPlaces> four = () -> Check.room("s;s;s;s;ps0;ps1;ps2;ps3;et9");
        refuse(four, HIDDEN, "call of a row of four", (x, n) -> x.call(n, 1, 1), 5, 50, 500, 5000, 4445, 10000, 11111, 1000000000);
        due("call(4444, 0, 1)", four.get().call(4444, 0, 1), 90);
    }

    // Promise 25: "HIDDEN: .. no such one of those": no such SITTER, or one that is AWAY
    private static void callOfNoSuchSitter() {
        refuse(BUSY, HIDDEN, "call(0, 1, ..)", (x, n) -> x.call(0, 1, n), NO_SITTERS);
        refuse(BUSY, HIDDEN, "call(0, 1, ..), away", (x, n) -> x.call(0, 1, n), 0);
    }

    // Promise 25: "HIDDEN: .. out of bounds": c (0 .. 99)
    private static void callOutOfBounds() {
        refuse(BUSY, HIDDEN, "call(0, .., 1)", (x, n) -> x.call(0, n, 1), -1, 100, LEAST, MOST);
        due("call(0, 99, 1) is told", Edge.busy().call(0, 99, 1) > 0 ? 1 : 0, 1);
    }

    private static LostPlaces nobodyHere() {
        LostPlaces x = Edge.busy();
        x.up(1, 9);
        x.up(2, 9);
        return x;
    }

    private static LostPlaces fiveHere() {
        LostPlaces x = Check.room("s;s;ps0;ps1;p;p;p;p;et9");
        x.up(5, 9);
        return x;
    }

    // Promise 25: "HIDDEN: .. nobody .. here"
    private static void callOfNobody() {
        refuse(RefusalEdgesTest::nobodyHere, HIDDEN, "call of nobody", (x, n) -> x.call(0, 1, n), 0, 1, 2);
    }

    // Promise 25: "HIDDEN: .. more than four are here"
    private static void callOfFive() {
        refuse(RefusalEdgesTest::fiveHere, HIDDEN, "call of five", (x, n) -> x.call(n, 1, 0), 0, 1, 11111);
        LostPlaces four = fiveHere();
        four.up(4, 9);
        due("call(4444, 1, 0) of four", four.call(4444, 1, 0), 86);
    }

    // Promise 25: "HIDDEN: .. the END"; no ROOM has its END at once
    private static void callAtTheEnd() {
        refuse(ENDED, HIDDEN, "call at the end", (x, n) -> x.call(n, 1, 1), 0, 444);
        refuse(ROOMLESS, HIDDEN, "call without a room", (x, n) -> x.call(0, 1, n), 0);
    }

    // Promise 26: "HIDDEN: out of bounds": c, whatever i is
    private static void restsOutOfBounds() {
        refuse(BUSY, HIDDEN, "rests(.., -1)", (x, n) -> x.rests(n, -1), -1, 100, LEAST, MOST);
        refuse(BUSY, HIDDEN, "rests(.., 999)", (x, n) -> x.rests(n, 999), -1, 100);
        due("rests(99, -1) is told", Edge.busy().rests(99, -1) >= 0 ? 1 : 0, 1);
        due("rests(0, -1) is told", Edge.busy().rests(0, -1) >= 0 ? 1 : 0, 1);
    }

    // Promise 26: "HIDDEN: .. nobody or more than four are here", whatever i is
    private static void restsOfNobodyOrFive() {
        refuse(RefusalEdgesTest::nobodyHere, HIDDEN, "rests of nobody", (x, n) -> x.rests(1, n), -1, 0, 999);
        refuse(RefusalEdgesTest::fiveHere, HIDDEN, "rests of five", (x, n) -> x.rests(1, n), -1, 0, 999);
    }

    // Promise 26: "HIDDEN: .. the END", whatever i is
    private static void restsAtTheEnd() {
        refuse(ENDED, HIDDEN, "rests at the end", (x, n) -> x.rests(1, n), -1, 0, 999);
        refuse(ROOMLESS, HIDDEN, "rests without a room", (x, n) -> x.rests(1, n), -1, 0);
    }

    // Promise 26: "else NONE: no such one"
    private static void restsOfNoSuchRow() {
        refuse(BUSY, NONE, "rests(1, ..)", (x, n) -> x.rests(1, n), -2, 25, 625, LEAST, MOST);
    }

    // ---- promises 27 to 31

    // Promise 27: "HIDDEN: no such one"; "(AWAY: AWAY)"
    private static void brokenOfNoSuchSitter() {
        refuse(BUSY, HIDDEN, "broken", (x, n) -> x.broken(n), NO_SITTERS);
        refuse(ROOMLESS, HIDDEN, "broken without a room", (x, n) -> x.broken(n), 0);
        due("broken(0), away for longer", longAway().broken(0), AWAY);
    }

    private static LostPlaces longAway() {
        LostPlaces x = Check.room("s;s;ps0;ps1;et9");
        x.up(0, 5);
        return x;
    }

    // Promise 27: "HIDDEN: .. the END is this MINUTE or the next"
    private static void brokenAtTheEnd() {
        refuse(ENDED, HIDDEN, "broken at the end", (x, n) -> x.broken(n), 0, 1, 2);
        Supplier<LostPlaces> next = () -> {
            LostPlaces x = Edge.busy();
            x.go(7);
            return x;
        };
        refuse(next, HIDDEN, "broken, the end is the next minute", (x, n) -> x.broken(n), 0, 1, 2);
        LostPlaces x = Edge.busy();
        x.go(6);
        due("broken(1) is told, two minutes left", x.broken(1) >= AWAY ? 1 : 0, 1);
    }

    // Promise 28: "HIDDEN: no ROOM"
    private static void fairWithoutARoom() {
        refuse(ROOMLESS, HIDDEN, "fair", (x, n) -> x.fair(1, n), 0, 1);
        refuse(NEW, HIDDEN, "fair", (x, n) -> x.fair(1, n), 0, 1);
    }

    // Promise 28: "HIDDEN: .. out of bounds": d (1 .. 3), no such what
    private static void fairOutOfBounds() {
        refuse(BUSY, HIDDEN, "fair(.., 0)", (x, n) -> x.fair(n, 0), 0, 4, -1, LEAST, MOST);
        refuse(BUSY, HIDDEN, "fair(1, ..)", (x, n) -> x.fair(1, n), NO_CHOICES);
        due("fair(3, 1) is told", Edge.busy().fair(3, 1) >= 0 ? 1 : 0, 1);
    }

    // Promise 28: "HIDDEN: .. more than five"
    private static void fairOfSix() {
        refuse(() -> Check.room("s;p;p;p;p;p;p;et9"), HIDDEN, "fair of six", (x, n) -> x.fair(1, n), 0, 1);
        due("fair(1, 0) of five", Check.room("s;p;p;p;p;p;et9").fair(1, 0) >= 0 ? 1 : 0, 1);
    }

    // Promise 28: "HIDDEN: .. fewer MINUTES are left than SITTERS"
    private static void fairOfFewerMinutes() {
        Supplier<LostPlaces> two = () -> {
            LostPlaces x = Edge.busy();
            x.go(6);
            return x;
        };
        refuse(two, HIDDEN, "fair of three in two minutes", (x, n) -> x.fair(1, n), 0, 1);
        refuse(ENDED, HIDDEN, "fair at the end", (x, n) -> x.fair(1, n), 0, 1);
        LostPlaces x = Edge.busy();
        x.go(5);
        due("fair(1, 0) of three in three minutes", x.fair(1, 0) >= 0 ? 1 : 0, 1);
    }

    // Promise 29: "NONE: no ROOM"
    private static void ruleWithoutARoom() {
        refuse(ROOMLESS, NONE, "rule", (x, n) -> x.rule(n), 0, 1);
        refuse(NEW, NONE, "rule", (x, n) -> x.rule(n), 0, 1);
    }

    // Promise 29: "NONE: .. no such what"
    private static void ruleOfNoSuchWhat() {
        refuse(BUSY, NONE, "rule", (x, n) -> x.rule(n), NO_CHOICES);
    }

    // Promise 30: "NONE: no such SITTER"
    private static void tellsOfNoSuchSitter() {
        refuse(BUSY, NONE, "tells", (x, n) -> x.tells(n, 0), NO_SITTERS);
        refuse(ROOMLESS, NONE, "tells without a room", (x, n) -> x.tells(0, n), 0, -1, -2);
    }

    // Promise 30: "NONE: .. no such SEAT (NONE the FLOOR, AWAY)"
    private static void tellsOfNoSuchSeat() {
        refuse(BUSY, NONE, "tells(1, ..)", (x, n) -> x.tells(1, n), -3, 3, 8, HIDDEN, LEAST, MOST);
        for (int seat = -2; seat <= 2; seat++) due("tells(2, " + seat + ")", Edge.busy().tells(2, seat), 2);
    }

    // Promise 30: "NONE: .. there are eight"
    private static void tellsOfANinth() {
        Supplier<LostPlaces> eight = () -> {
            LostPlaces x = Edge.busy();
            for (int i = 0; i < 7; i++) x.tells(0, 0);
            return x;
        };
        due("count(12)", eight.get().count(12), 8);
        refuse(eight, NONE, "a ninth tells(0, ..)", (x, n) -> x.tells(0, n), 0, 1, -1, -2);
    }

    // Promise 31: "NONE: no such one": behind the last of them, below NONE
    private static void beenOfNoSuchSet() {
        refuse(BUSY, NONE, "been", (x, n) -> x.been(n), -2, 4, 1023, 1024, LEAST, MOST);
        due("been(-1)", Edge.busy().been(-1), 4);
        due("been(3)", Edge.busy().been(3), 3);
    }

    // Promise 31: "NONE: .. no ROOM"
    private static void beenWithoutARoom() {
        refuse(ROOMLESS, NONE, "been", (x, n) -> x.been(n), -1, 0, 1);
        refuse(NEW, NONE, "been", (x, n) -> x.been(n), -1, 0, 1);
    }

    // ---- promises 32 to 39

    // Promise 32: "NONE: no such one"
    private static void ladderOfNoSuchOne() {
        refuse(BUSY, NONE, "ladder", (x, n) -> x.ladder(n), -1, 3, 8, LEAST, MOST);
        refuse(ROOMLESS, NONE, "ladder without a room", (x, n) -> x.ladder(n), -1, 0);
    }

    // Promise 33: "NONE: no ROOM"
    private static void envyWithoutARoom() {
        Edge.refused(ROOMLESS, NONE, "envy", x -> x.envy());
        Edge.refused(NEW, NONE, "envy", x -> x.envy());
        due("envy() of nobody", Check.room("s;ps0").envy(), 0);
    }

    // Promise 34: "NONE: none"
    private static void warmOfNone() {
        Edge.refused(() -> Check.room("s;ps0;p"), NONE, "warm", x -> x.warm());
        due("warm()", Edge.busy().warm(), 1);
    }

    // Promise 34: "NONE: .. no ROOM": none, too, of the ROOM ahead
    private static void warmWithoutARoom() {
        Edge.refused(ROOMLESS, NONE, "warm", x -> x.warm());
        Edge.refused(NEW, NONE, "warm", x -> x.warm());
    }

    // Promise 35: "NONE: no such SITTER"
    private static void oftenOfNoSuchSitter() {
        refuse(BUSY, NONE, "often", (x, n) -> x.often(n), NO_SITTERS);
        refuse(ROOMLESS, NONE, "often without a room", (x, n) -> x.often(n), 0);
        due("often(0)", Edge.busy().often(0), 0);
    }

    // Promise 36: "NONE: no ROOM"
    private static void evenWithoutARoom() {
        Edge.refused(ROOMLESS, NONE, "even", x -> x.even());
        Edge.refused(NEW, NONE, "even", x -> x.even());
    }

    // Promise 37: "NONE: no ROOM": there is no IMAGE then
    private static void imageWithoutARoom() {
        Edge.refused(ROOMLESS, NONE, "image", x -> x.image());
        LostPlaces x = Edge.roomless();
        x.image();
        due("back()", x.back(), NONE);
        due("text(0)", x.text(0), 1);
        due("back() in the room", x.back(), NONE);
    }

    // Promise 38: "NONE: no IMAGE of this ROOM"
    private static void backWithoutAnImage() {
        Edge.refused(NEW, NONE, "back of a new object", x -> x.back());
        Edge.refused(ROOMLESS, NONE, "back without a room", x -> x.back());
        Supplier<LostPlaces> other = () -> {
            LostPlaces x = Edge.busy();
            x.text(0);
            x.go(3);
            Check.feed(x, "sw3;p");
            return x;
        };
        Edge.refused(other, NONE, "back in another room", x -> x.back());
    }

    // Promise 39: "HIDDEN for others"
    private static void countOfOthers() {
        refuse(BUSY, HIDDEN, "count", (x, n) -> x.count(n), -1, 13, 99, LEAST, MOST);
        refuse(NEW, HIDDEN, "count", (x, n) -> x.count(n), -1, 13);
    }

    // Promise 39: "(without a ROOM 0 of all but 3, 4, 5, 9, as they are)"
    private static void countWithoutARoom() {
        LostPlaces x = Edge.roomless();
        int[] counts = {0, 0, 0, 1, 7, 0, 0, 0, 0, 9, 0, 0, 0};
        for (int what = 0; what < counts.length; what++) due("count(" + what + ")", x.count(what), counts[what]);
    }

    // Promise 39: "0 SEATS, 1 SITTERS, 2 GOINGS, 3 TASTES, 4 bytes of the TAPE": each of them in a ROOM
    private static void countInARoom() {
        LostPlaces x = Edge.busy();
        int[] counts = {3, 3, 2, 2, 5, 1, 1, 9, 5, 20, 2, 4, 1};
        for (int what = 0; what < counts.length; what++) due("count(" + what + ")", x.count(what), counts[what]);
    }

    // "The constants": NONE, AWAY, HIDDEN
    private static void constants() {
        due("NONE", LostPlaces.NONE, -1);
        due("AWAY", LostPlaces.AWAY, -2);
        due("HIDDEN", LostPlaces.HIDDEN, -1000000);
    }
}
