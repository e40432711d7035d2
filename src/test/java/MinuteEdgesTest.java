/** Boundary cases of LIKING, of what is FREE, and of a MINUTE, (1) to (5) (section 2; promises 6, 7, 11, 15, 18). */
public final class MinuteEdgesTest {
    public static void main(String[] args) {
        Edge.runAll(MinuteEdgesTest.class);
    }

    private static void due(String call, long got, long want) {
        Check.due(call, got, want);
    }

    private static LostPlaces after(int minutes, String room) {
        LostPlaces x = Check.room(room);
        x.go(minutes);
        return x;
    }

    private static LostPlaces after(int minutes, String room, String taste) {
        LostPlaces x = Check.room(room, taste);
        x.go(minutes);
        return x;
    }

    private static void moves(LostPlaces x, int many) {
        due("count(10)", x.count(10), many);
    }

    // ---- liking

    // Section 2: "LIKING ..: WORTH by the TASTE that holds (none at first: WORTH ..)": one that was told does not hold yet
    private static void noTasteHoldsAtFirst() {
        LostPlaces x = Check.room("sw20;p");
        due("count(5)", x.count(5), -1);
        due("likes(0, 0)", x.likes(0, 0), 20);
        Check.feed(x, "y:3");
        x.text(1);
        due("likes(0, 0), a taste told", x.likes(0, 0), 20);
        x.taste(0);
        due("likes(0, 0), it holds", x.likes(0, 0), 3);
    }

    // Section 2: "and in the FILM, from its MINUTE on, f more": the minute ahead of it, its first one, the END
    private static void moreFromTheMinuteOfTheFilmOn() {
        LostPlaces x = Check.room("sw20f5;ps0;ef2t4");
        int[] likes = {20, 20, 25, 25, 25};
        int[] joys = {0, 20, 40, 65, 90};
        for (int m = 0; m <= 4; m++) {
            due("likes(0, 0) in minute " + m, x.likes(0, 0), likes[m]);
            due("joy by minute " + m, x.sitter(0, 5), joys[m]);
            x.go(1);
        }
    }

    // Section 2: "in the FILM, from its MINUTE on": a film that begins at once
    private static void filmInTheFirstMinute() {
        due("likes(0, 0)", Check.room("sw20f5;p;ef0t4").likes(0, 0), 25);
        due("joy", after(1, "sw20f5;ps0;ef0t4").sitter(0, 5), 25);
    }

    // Section 2: "in the FILM, from its MINUTE on": a film that begins at the END, or behind it
    private static void filmBehindTheEnd() {
        due("likes(0, 0), the film at the end", after(4, "sw20f5;ps0;ef4t4").likes(0, 0), 25);
        due("joy, the film at the end", after(4, "sw20f5;ps0;ef4t4").sitter(0, 5), 80);
        due("likes(0, 0), the film behind the end", after(4, "sw20f5;ps0;ef5t4").likes(0, 0), 20);
        due("likes(0, 0), the film in minute 99", after(60, "sw20f5;ps0;ef99t60").likes(0, 0), 20);
    }

    // Section 2: "held within 0 .. 999": above
    private static void likingHeldAbove() {
        String[] tastes = {"y:998", "y:999", "y:1000", "y:1000*1000"};
        int[] likes = {998, 999, 999, 999};
        for (int i = 0; i < tastes.length; i++) {
            LostPlaces x = Check.room("s;ps0;et5", tastes[i]);
            due("likes(0, 0) by " + tastes[i], x.likes(0, 0), likes[i]);
            x.go(5);
            due("joy of five minutes by " + tastes[i], x.sitter(0, 5), 5 * likes[i]);
        }
        // both seats are liked alike then: nobody moves up
        LostPlaces alike = after(2, "sx0;sx1;ps0;et5", "y:999+x*500");
        Check.places(alike, 0);
    }

    // Section 2: "held within 0 .. 999": below
    private static void likingHeldBelow() {
        String[] tastes = {"y:1", "y:0", "y:0-1", "y:0-1000*1000"};
        int[] likes = {1, 0, 0, 0};
        for (int i = 0; i < tastes.length; i++) {
            LostPlaces x = Check.room("s;ps0;et5", tastes[i]);
            due("likes(0, 0) by " + tastes[i], x.likes(0, 0), likes[i]);
            x.go(5);
            due("joy of five minutes by " + tastes[i], x.sitter(0, 5), 5 * likes[i]);
        }
        LostPlaces alike = after(2, "sx0;sx1;ps0;et5", "y:x*3-9");
        Check.places(alike, 0);
    }

    // Section 2: "letters: .. f what is more in the FILM (0 ahead of it)"; "w WORTH" has nothing of it
    private static void letterOfTheFilm() {
        LostPlaces x = Check.room("sw20f5;ps0;ef2t4", "y:f*10+1");
        int[] likes = {1, 1, 51, 51, 51};
        for (int m = 0; m <= 4; m++) {
            due("likes(0, 0) in minute " + m, x.likes(0, 0), likes[m]);
            x.go(1);
        }
        due("w in the film", after(3, "sw20f5;ps0;ef2t4", "y:w").likes(0, 0), 20);
    }

    // Section 2: "letters: w WORTH, .. x where it STANDS, q QUICK, m MINUTE, p the SITTER": of two of each
    private static void otherLetters() {
        LostPlaces x = Check.room("sw7x19;sw0x2;ps0q9;ps1q0;et9", "y:w");
        due("w", x.likes(1, 0) * 100 + x.likes(1, 1), 700);
        Check.taste(x, "y:x");
        due("x", x.likes(1, 0) * 100 + x.likes(1, 1), 1902);
        Check.taste(x, "y:q+1");
        due("q", x.likes(0, 0) * 100 + x.likes(1, 0), 1001);
        Check.taste(x, "y:m*2+p");
        for (int m = 0; m <= 9; m++) {
            due("m and p in minute " + m, x.likes(0, 1) * 100 + x.likes(1, 1), 2 * m * 100 + 2 * m + 1);
            x.go(1);
        }
    }

    // Section 2: "The FLOOR: 0": whatever TASTE holds
    private static void floorIsLikedByNobody() {
        LostPlaces x = Check.room("s;pb99;et5", "y:7");
        due("likes(0, -1)", x.likes(0, -1), 0);
        x.go(5);
        Check.places(x, -1);
        Check.joys(x, 0);
    }

    // Section 2: "A SEAT is FREE, if nobody is on it": none moves up to it, comes back to it, or would better be there
    private static void takenSeatIsNotFree() {
        LostPlaces x = Check.room("sw9;sw5;ps0q0;ps1q9;p;et9");
        due("best(2, 0)", x.best(2, 0), -1);
        x.up(1, 1);
        x.go(2);
        Check.places(x, 0, -1, 1);
    }

    // Section 2: "A SEAT is FREE, if .. it is kept for nobody"
    private static void keptSeatIsNotFree() {
        LostPlaces x = Check.room("sw9;sw5;ps0k9;ps1q9;p;et12");
        x.up(0, 9);
        due("best(2, 0)", x.best(2, 0), -1);
        x.up(1, 1);
        x.go(2);
        due("on the kept seat", x.seat(0, 3), -1);
        Check.places(x, -2, -1, 1);
        x.go(7);
        Check.places(x, -2, -1, 1);
    }

    // ---- minutes

    // Section 2: "A MINUTE (from 0, as long as it is below the END)": the least END
    private static void oneMinute() {
        LostPlaces x = Check.room("s;ps0;gm0d1;gm1d9;et1");
        due("count(6)", x.count(6), 0);
        due("go(2)", x.go(2), -1);
        due("go(1)", x.go(1), 1);
        due("go(1) at the end", x.go(1), -1);
        due("away till", x.sitter(0, 1), 1);
        Check.joys(x, 0);
    }

    // Section 2: "A MINUTE (from 0, as long as it is below the END)": the greatest END
    private static void ninetyNineMinutes() {
        LostPlaces x = Check.room("sw99;ps0;gm98d1;gm99d1;et99", "y:999");
        x.go(60);
        due("go(39)", x.go(39), 99);
        due("go(1)", x.go(1), -1);
        due("away since minute 98", x.sitter(0, 1), 99);
        Check.joys(x, 98 * 999);
    }

    // Section 2: "as long as it is below the END": a GOING of the last MINUTE happens, one of the END does not
    private static void goingOfTheLastMinute() {
        Check.places(after(5, "s;ps0;gm4;et5"), -2);
        LostPlaces x = after(5, "s;ps0;gm5;gm6;et5");
        Check.places(x, 0);
        Check.joys(x, 50);
    }

    // ---- (1)

    // Section 2 (1): "SEATS kept till this MINUTE are not any more": in it another one moves up, not in the one ahead of it
    private static void keptTillThisMinute() {
        LostPlaces x = Check.room("sw9;sw5;ps0k2;ps1;et9");
        x.up(0, 5);
        x.go(2);
        moves(x, 0);
        due("kept for, this minute has not gone by", x.seat(0, 4), 0);
        due("kept till", x.seat(0, 5), 2);
        x.go(1);
        Check.move(x, 0, 1, 1, 0, 2);
        due("kept for none", x.seat(0, 4), -1);
        due("kept till none", x.seat(0, 5), -1);
    }

    // Section 2 (1): "kept till this MINUTE": each SEAT till its own MINUTE
    private static void eachSeatTillItsOwnMinute() {
        LostPlaces x = Check.room("sw9;sw5;ps0k2;ps1k3;et9");
        x.up(0, 9);
        x.up(1, 9);
        x.go(3);
        due("seat(0, 4)", x.seat(0, 4), -1);
        due("seat(1, 4)", x.seat(1, 4), 1);
        x.go(1);
        due("seat(1, 4)", x.seat(1, 4), -1);
    }

    // Section 2: "(1) SEATS kept till this MINUTE are not any more" ahead of (3): who comes back in the MINUTE till which
    // its SEAT was kept has lost it to one quicker
    private static void notKeptWhenItComesBack() {
        LostPlaces x = Check.room("sw9;sw5;ps0k2q1;ps1q9;et9");
        x.up(0, 2);
        x.up(1, 2);
        x.go(3);
        Check.places(x, 1, 0);
        LostPlaces longer = Check.room("sw9;sw5;ps0k3q1;ps1q9;et9");
        longer.up(0, 2);
        longer.up(1, 2);
        longer.go(3);
        Check.places(longer, 0, 1);
    }

    // ---- (2)

    // Section 2 (2): "GOINGS of this MINUTE": not the one ahead, not the one behind
    private static void goingsOfThisMinute() {
        String room = "s;ps0;gm3d2;et9";
        int[] where = {0, 0, 0, 0, -2, -2, 0, 0};
        for (int m = 1; m < where.length; m++) Check.places(after(m, room), where[m]);
        due("joy: minutes 3 and 4 away", after(9, room).sitter(0, 5), 70);
    }

    // Section 2 (2): "by numbers": of two of one SITTER the first one told
    private static void goingsByNumbers() {
        due("d2 first", after(1, "s;ps0;gm0d2;gm0d5;et9").sitter(0, 1), 2);
        due("d5 first", after(1, "s;ps0;gm0d5;gm0d2;et9").sitter(0, 1), 5);
    }

    // Section 2 (2): "a SITTER that is not AWAY gets UP": who is AWAY does not, then or later
    private static void goingOfOneThatIsAway() {
        LostPlaces x = after(3, "s;ps0;gm0d3;gm2d5;et9");
        due("away till", x.sitter(0, 1), 3);
        x.go(1);
        Check.places(x, 0);
        x.go(5);
        Check.joys(x, 60);
    }

    // Section 2 (2): "a SITTER that is not AWAY gets UP", ahead of (3): who is AWAY till this MINUTE is AWAY yet when its
    // GOING is due
    private static void goingInTheMinuteOfComingBack() {
        LostPlaces x = after(3, "s;ps0;gm0d2;gm2d5;et9");
        Check.places(x, 0);
        due("away till none", x.sitter(0, 1), -1);
        LostPlaces next = after(4, "s;ps0;gm0d2;gm3d5;et9");
        due("a minute later it goes", next.sitter(0, 1), 8);
    }

    // Section 2 (2): "AWAY till this MINUTE and how LONG it goes": 1 and 9 minutes
    private static void awayForHowLong() {
        LostPlaces one = after(2, "s;ps0;gm1d1;et20");
        due("d1: away till", one.sitter(0, 1), 2);
        one.go(1);
        Check.places(one, 0);
        Check.joys(one, 20);
        LostPlaces nine = after(10, "s;ps0;gm1d9;et20");
        due("d9: away till", nine.sitter(0, 1), 10);
        nine.go(1);
        Check.places(nine, 0);
        Check.joys(nine, 20);
    }

    // Section 2 (2): "if it KEEPS k minutes (above 0)": 0 keeps nothing
    private static void keepsNoMinutes() {
        LostPlaces x = after(1, "sw9;sw5;ps0k0;ps1;gm0d2;et9");
        due("kept for", x.seat(0, 4), -1);
        due("kept till", x.seat(0, 5), -1);
        Check.places(x, -2, 0);
    }

    // Section 2 (2): "kept for it till this MINUTE and k": 1 and 9
    private static void keepsTillThisMinuteAndK() {
        LostPlaces one = after(4, "sw9;sw5;ps0k1;ps1;gm2d9;et20");
        moves(one, 1);
        due("k1: moved up in minute", one.log(0, 3), 3);
        LostPlaces first = after(3, "sw9;sw5;ps0k1;ps1;gm2d9;et20");
        moves(first, 0);
        due("k1: kept till", first.seat(0, 5), 3);
        LostPlaces nine = after(11, "sw9;sw5;ps0k9;ps1;gm2d9;et20");
        moves(nine, 0);
        due("k9: kept till", nine.seat(0, 5), 11);
        nine.go(1);
        Check.places(nine, 0, 1);
    }

    // Section 2 (2): "and was on a SEAT": from the FLOOR nothing is kept
    private static void keepsNothingFromTheFloor() {
        LostPlaces x = after(1, "s;s;pk9b99;gm0d2;et9");
        due("seat(0, 4)", x.seat(0, 4), -1);
        due("seat(1, 4)", x.seat(1, 4), -1);
        Check.places(x, -2);
    }

    // ---- (3)

    // Section 2 (3): "Who is AWAY till this MINUTE comes back": in it, not in the one ahead of it
    private static void comesBackInItsMinute() {
        LostPlaces x = Check.room("sw9;ps0;et9");
        x.up(0, 3);
        x.go(3);
        Check.places(x, -2);
        x.go(1);
        Check.places(x, 0);
        due("away till none", x.sitter(0, 1), -1);
        Check.joys(x, 9);
        moves(x, 0);
    }

    // Section 2 (3): "the quickest first"
    private static void quickestComesBackFirst() {
        LostPlaces x = Check.room("sw9;sw5;sw2;ps0q0;ps1q9;ps2q8;et9");
        for (int p = 0; p < 3; p++) x.up(p, 1);
        x.go(2);
        Check.places(x, 2, 0, 1);
    }

    // Section 2 (3): "(of several the lowest)"
    private static void lowestOfTheQuickestComesBackFirst() {
        LostPlaces x = Check.room("sw9;sw5;sw2;ps2;ps1;ps0;et9");
        for (int p = 2; p >= 0; p--) x.up(p, 1);
        x.go(2);
        Check.places(x, 0, 1, 2);
    }

    // Section 2 (3): "to the SEAT that is kept for it": even if another one is FREE that it LIKES better
    private static void comesBackToTheKeptSeat() {
        LostPlaces x = Check.room("sw9;sw5;ps1k3b50;et9");
        x.up(0, 2);
        x.go(3);
        Check.places(x, 1);
        // even if it does not LIKE it at all
        LostPlaces hated = Check.room("sw9;sw0;ps1k3b50;et9");
        hated.up(0, 2);
        hated.go(3);
        Check.places(hated, 1);
    }

    // Section 2 (3): "(not any more then)": neither for whom nor till when
    private static void notKeptAnyMore() {
        LostPlaces x = Check.room("sw9;sw5;ps1k9b50;pb99;et20");
        x.up(0, 2);
        x.go(3);
        due("seat(1, 4)", x.seat(1, 4), -1);
        due("seat(1, 5)", x.seat(1, 5), -1);
        x.swap(0, 1);
        x.up(1, 1);
        x.go(1);
        due("best(0, 0) of the seat kept once", x.best(0, 0), 0);
        due("seat(1, 4)", x.seat(1, 4), -1);
    }

    // Section 2 (3): "else to the FREE one it LIKES best": not that of the greatest WORTH, nor the one it left
    private static void comesBackToTheOneItLikesBest() {
        LostPlaces x = Check.room("sw5;sw9;sw7;ps1b99;et9", "y:50-w");
        x.up(0, 1);
        x.go(2);
        Check.places(x, 0);
        moves(x, 0);
    }

    // Section 2 (3): "the FREE one": not one on which another one is, or that is kept for another one
    private static void comesBackToAFreeOne() {
        LostPlaces x = Check.room("sw9;sw8;sw2;ps0k9;ps1;ps2;et20");
        x.up(0, 9);
        x.up(2, 1);
        x.go(2);
        Check.places(x, -2, 1, 2);
    }

    // Section 2 (3): "(above 0 ..)": a SEAT it LIKES by 1 is one, by 0 is none: "else to the FLOOR"
    private static void likedAboveNothing() {
        LostPlaces one = Check.room("sw1;ps0;et9");
        one.up(0, 1);
        one.go(2);
        Check.places(one, 0);
        moves(one, 0);
        LostPlaces nothing = Check.room("sw0;ps0;et9");
        nothing.up(0, 1);
        nothing.go(2);
        Check.places(nothing, -1);
    }

    // Section 2 (3): "(..; of several the lowest)": of the SEATS
    private static void lowestOfTheSeatsLikedBest() {
        LostPlaces x = Check.room("sw3;sw9;sw9;ps2;et9");
        x.up(0, 1);
        x.go(2);
        Check.places(x, 1);
        moves(x, 0);
    }

    // Section 2 (3): "else to the FLOOR": if none is FREE
    private static void comesBackToTheFloor() {
        LostPlaces x = Check.room("sw9;ps0;pq9;et9");
        x.up(0, 1);
        x.go(2);
        Check.places(x, -1, 0);
    }

    // Section 2 (3): "Who is AWAY till this MINUTE comes back": all eight at once, to the last SEAT
    private static void eightComeBackAtOnce() {
        LostPlaces x = Check.room("sw8;sw7;sw6;sw5;sw4;sw3;sw2;sw1;pq1;pq2;pq3;pq4;pq5;pq6;pq7;pq8;et9");
        for (int p = 0; p < 8; p++) x.up(p, 1);
        x.go(2);
        Check.places(x, 7, 6, 5, 4, 3, 2, 1, 0);
        Check.joys(x, 1, 2, 3, 4, 5, 6, 7, 8);
        moves(x, 0);
    }

    // Section 2 (3): "Who is AWAY till this MINUTE comes back", behind (2): to a SEAT that another one leaves in it
    private static void seatLeftInThisMinute() {
        LostPlaces x = Check.room("sw9;sw1;ps1;ps0;gp1m1d3;et9");
        x.up(0, 1);
        x.go(2);
        Check.places(x, 0, -2);
        moves(x, 0);
    }

    // ---- (4)

    // Section 2 (4): "of all FREE SEATS to which somebody .. would move, that with the greatest WORTH (as told ..)"
    private static void greatestWorthAsTold() {
        // liked best is the other one, to which it moves up next
        LostPlaces taste = after(1, "sw5;sw9;p;et9", "y:100-w");
        moves(taste, 2);
        Check.move(taste, 1, 0, -1, 1, 0);
        Check.move(taste, 0, 0, 1, 0, 0);
        // what is more in the film does not count
        LostPlaces film = after(1, "sw5f9;sw9;p;ef0t9");
        moves(film, 2);
        Check.move(film, 1, 0, -1, 1, 0);
        Check.move(film, 0, 0, 1, 0, 0);
    }

    // Section 2 (4): "to which somebody .. would move": the greatest WORTH is not looked at, if nobody would
    private static void seatNobodyWouldMoveTo() {
        LostPlaces x = after(1, "sw9;sw5;p;et9", "y:9-w");
        moves(x, 1);
        Check.move(x, 0, 0, -1, 1, 0);
    }

    // Section 2 (4): "that with the greatest WORTH (..; of several the lowest)"
    private static void lowestOfTheSeatsOfTheGreatestWorth() {
        LostPlaces x = after(1, "sw3;sw9;sw9;p;p;et9");
        Check.places(x, 1, 2);
        Check.move(x, 1, 0, -1, 1, 0);
        Check.move(x, 0, 1, -1, 2, 0);
    }

    // Section 2 (4): "one would, if it LIKES it by its STEP, or more, better than where it is"
    private static void byItsStepOrMore() {
        for (int step : new int[] {1, 2, 50, 89}) {
            Check.places(after(1, "sw10;sw" + (10 + step - 1) + ";ps0b" + step + ";et9"), 0);
            Check.places(after(1, "sw10;sw" + (10 + step) + ";ps0b" + step + ";et9"), 1);
        }
        Check.places(after(1, "sw10;sw99;ps0b4;et9"), 1);
    }

    // Section 2 (4): "better than where it is": from the FLOOR by its STEP above 0
    private static void byItsStepFromTheFloor() {
        Check.places(after(1, "sw1;p;et9"), 0);
        Check.places(after(1, "sw0;p;et9"), -1);
        Check.places(after(1, "sw98;pb99;et9"), -1);
        Check.places(after(1, "sw99;pb99;et9"), 0);
    }

    // Section 2 (4): "somebody who is not AWAY"
    private static void awayDoesNotMoveUp() {
        LostPlaces x = Check.room("sw9;pq9;p;et9");
        x.up(0, 2);
        x.go(1);
        Check.places(x, -2, 0);
        LostPlaces alone = Check.room("sw9;p;et9");
        alone.up(0, 2);
        alone.go(2);
        Check.places(alone, -2);
        moves(alone, 0);
    }

    // Section 2 (4): "of those the quickest does": of those that would alone
    private static void quickestMovesUp() {
        Check.places(after(1, "sw9;pq0;pq9;pq8;et9"), -1, 0, -1);
        Check.places(after(1, "sw9;pq0;pq9b50;pq8;et9"), -1, -1, 0);
    }

    // Section 2 (4): "(of several the nearest: by where SEATS STAND ..)": on both sides, ahead of the lowest
    private static void nearestMovesUp() {
        Check.places(after(1, "sw20x5;sw1x0;sw1x9;ps1;ps2;et9"), 1, 0);
        Check.places(after(1, "sw20x5;sw1x1;sw1x10;ps2;ps1;et9"), 2, 0);
        Check.places(after(1, "sw20x0;sw1x2;sw1x1;ps1;ps2;et9"), 1, 0);
        Check.places(after(1, "sw20x19;sw1x17;sw1x18;ps1;ps2;et9"), 1, 0);
        Check.places(after(1, "sw1x4;sw20x5;sw1x9;ps2;ps0;et9"), 2, 1);
    }

    // Section 2 (4): "the quickest does (of several the nearest ..)": who is quicker moves up from farther away
    private static void quickerFromFarther() {
        Check.places(after(1, "sw20x5;sw1x0;sw1x5;ps1q6;ps2;et9"), 0, 2);
        Check.places(after(1, "sw20x5;sw1x5;pq6;ps1;et9"), 0, 1);
    }

    // Section 2 (4): "from the FLOOR 99": farther than any SEAT can be
    private static void floorIsFarther() {
        Check.places(after(1, "sw20x19;sw1x0;pb20;ps1;et9"), -1, 0);
        Check.places(after(1, "sw20x0;sw1x19;pb20;ps1;et9"), -1, 0);
    }

    // Section 2 (4): "(.. ; then the lowest)": of several as near
    private static void lowestOfTheNearestMovesUp() {
        Check.places(after(1, "sw20x5;sw1x0;sw1x10;ps2;ps1;et9"), 0, 1);
        Check.places(after(1, "sw20x5;p;p;et9"), 0, -1);
    }

    // Section 2 (4): "again, till nobody would": one SEAT after the other, and one SITTER more than once
    private static void againTillNobodyWould() {
        LostPlaces x = Check.room("sw9x0;sw7x1;sw5x2;sw3x3;ps0;ps1;ps2;ps3;p;et9");
        x.up(0, 9);
        x.go(1);
        Check.places(x, -2, 0, 1, 2, 3);
        moves(x, 4);
        Check.move(x, 3, 1, 1, 0, 0);
        Check.move(x, 2, 2, 2, 1, 0);
        Check.move(x, 1, 3, 3, 2, 0);
        Check.move(x, 0, 4, -1, 3, 0);
        LostPlaces often = after(1, "sw9x1;sw8x2;sw7x3;p;et9", "y:x");
        Check.places(often, 2);
        due("often(0)", often.often(0), 3);
    }

    // Section 2 (4): "again": a SEAT that was left may be taken by one that would not have moved up to the first
    private static void seatLeftByAMoveIsFree() {
        LostPlaces x = after(1, "sw9;sw6;ps1b3;pb6;et9");
        Check.places(x, 0, 1);
        moves(x, 2);
    }

    // Section 2 (4): "again, till nobody would": eight on the FLOOR, to eight SEATS
    private static void eightMoveUpAtOnce() {
        LostPlaces x = after(1, "sw1;sw2;sw3;sw4;sw5;sw6;sw7;sw8;pq1;pq2;pq3;pq4;pq5;pq6;pq7;pq8;et9");
        Check.places(x, 0, 1, 2, 3, 4, 5, 6, 7);
        Check.joys(x, 1, 2, 3, 4, 5, 6, 7, 8);
        moves(x, 8);
    }

    // Section 2 (4): "one would, if it LIKES it ..": by the TASTE that holds in this MINUTE, however calm it was by now
    private static void anotherTasteMovesThem() {
        LostPlaces x = Check.room("sw9;sw5;ps0;et9");
        x.go(2);
        Check.taste(x, "y:20-w");
        x.go(1);
        Check.places(x, 1);
        x.taste(-1);
        due("ahead(0, 1, 0)", x.ahead(0, 1, 0), 0);
        x.go(1);
        Check.places(x, 0);
        Check.joys(x, 9 + 9 + 15 + 9);
    }

    // Section 2 (4): "Each is a MOVE": nobody would, so there is none
    private static void noMove() {
        LostPlaces x = after(9, "sw9;sw5;ps0;ps1;et9");
        moves(x, 0);
        due("warm()", x.warm(), -1);
    }

    // ---- (5)

    // Section 2 (5): "Whoever is not AWAY has its LIKING for where it is more as JOY": who is AWAY has none
    private static void awayHasNoJoy() {
        LostPlaces x = Check.room("sw9;ps0k9;et9");
        x.up(0, 2);
        x.go(2);
        Check.joys(x, 0);
        x.go(1);
        Check.joys(x, 9);
    }

    // Section 2 (5): "for where it is": behind (4), and by this MINUTE
    private static void joyBehindMovingUp() {
        LostPlaces x = after(1, "sw9;sw5;ps1;et9");
        Check.joys(x, 9);
        LostPlaces minutes = Check.room("s;ps0;et9", "y:m*m");
        for (int m = 0, joy = 0; m < 9; m++) {
            minutes.go(1);
            joy += m * m;
            Check.joys(minutes, joy);
        }
    }

    // Section 2 (5): "its LIKING for where it is": on the FLOOR 0
    private static void noJoyOnTheFloor() {
        Check.joys(after(9, "s;ps0;p;et9"), 90, 0);
    }
}
