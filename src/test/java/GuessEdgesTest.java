/** Boundary cases of AHEAD, CHAIN, WHEN, KEEPING, PLACE, SURE, BREAK and RULE (section 3; promises 19 to 24, 27, 29). */
public final class GuessEdgesTest {
    // each minute is liked less than the one ahead of it
    private static final String LESS = "y:9-m";

    public static void main(String[] args) {
        Edge.runAll(GuessEdgesTest.class);
    }

    private static void due(String call, long got, long want) {
        Check.due(call, got, want);
    }

    // ---- apart, minutes by hand

    // Section 3: "(Apart, from as it is ..)": no question changes what is
    private static void questionsAreApart() {
        Edge.apart(Edge::busy, "ahead", x -> x.ahead(0, 8, 0));
        Edge.apart(Edge::busy, "chain", x -> x.chain(2, 0));
        Edge.apart(Edge::busy, "when", x -> x.when(2, 3, 8, 0));
        Edge.apart(Edge::busy, "keeping", x -> x.keeping(1, 9));
        Edge.apart(Edge::busy, "best", x -> x.best(1, 0));
        Edge.apart(Edge::busy, "sure", x -> x.sure(1));
        Edge.apart(Edge::busy, "call", x -> x.call(12, 3, 1));
        Edge.apart(Edge::busy, "rests", x -> x.rests(3, 0));
        Edge.apart(Edge::busy, "broken", x -> x.broken(1));
        Edge.apart(Edge::busy, "fair", x -> x.fair(2, 0));
        Edge.apart(Edge::busy, "rule", x -> x.rule(0));
        Edge.apart(Edge::busy, "been", x -> x.been(0));
    }

    private static final int QUESTIONS = 14;

    private static int question(LostPlaces x, int which) {
        switch (which) {
            case 0: return x.ahead(0, 8, 1);
            case 1: return x.ahead(2, 8, 0);
            case 2: return x.chain(2, 1);
            case 3: return x.when(2, 3, 8, 1);
            case 4: return x.when(0, 1, 8, 0);
            case 5: return x.keeping(1, 9);
            case 6: return x.best(1, 0);
            case 7: return x.best(2, 1);
            case 8: return x.sure(1);
            case 9: return x.call(12, 3, 1);
            case 10: return x.rests(3, 0);
            case 11: return x.broken(1);
            case 12: return x.fair(2, 0);
            default: return x.rule(0);
        }
    }

    // Section 3: "(Apart ..)": no question leaves anything behind that another one, or the same, would answer by
    private static void questionsAreApartFromOneAnother() {
        for (int first = 0; first < QUESTIONS; first++) {
            for (int second = 0; second < QUESTIONS; second++) {
                LostPlaces x = Edge.busy();
                question(x, first);
                due("question " + second + " behind " + first, question(x, second), question(Edge.busy(), second));
            }
        }
        LostPlaces x = Check.room("sw9;sw1;ps0;ps1b9;et9");
        due("when(0, 1, 1, 1)", x.when(0, 1, 1, 1), 72);
        due("best(1, 0) of one with less joy", x.best(1, 0), 1);
        due("best(1, 1)", x.best(1, 1), 9);
    }

    // Section 3: "from as it is": what was done by now counts: who is away, what is kept, KEEPS, JOY
    private static void fromAsItIs() {
        LostPlaces x = Check.room("sw9;sw5;ps0;ps1;et6");
        due("ahead(0, 6, 1) at first", x.ahead(0, 6, 1), 54);
        x.go(2);
        x.keeps(0, 2);
        x.up(0, 1);
        due("ahead(0, 4, 1)", x.ahead(0, 4, 1), 18 + 27);
        due("ahead(1, 4, 1)", x.ahead(1, 4, 1), 30);
        x.swap(1, 1);
        x.undo();
        x.swap(0, 1);
        due("ahead(0, 4, 1), swapped", x.ahead(0, 4, 1), 18 + 20);
    }

    // Section 3: "MINUTES by hand .., if nothing else is told": not RESTLESS ones, however RESTLESS they are
    private static void notRestless() {
        LostPlaces x = Check.room("sw9;sw5;ps0;ps1;p;gm9d1;et12");
        int[] calm = asked(x);
        x.restless(99);
        int[] restless = asked(x);
        for (int i = 0; i < calm.length; i++) due("question " + i, restless[i], calm[i]);
    }

    private static int[] asked(LostPlaces x) {
        return new int[] {x.ahead(0, 12, 1), x.ahead(2, 12, 0), x.when(0, 1, 12, 1), x.keeping(0, 3), x.best(2, 1), x.sure(0),
            x.call(444, 1, 0), x.rests(1, -1), x.broken(0), x.fair(1, 1), x.rule(1), x.been(-1)};
    }

    // Terms: "s (a SEAT; 1 .. 8), p (a SITTER; 1 .. 8), g (a GOING; none to 10)", "t END (1 .. 99 ..)": the most of all
    private static void fullestRoom() {
        StringBuilder text = new StringBuilder("ef50t99");
        for (int p = 0; p < 8; p++) text.append(";s;ps").append(p).append("b99;gp").append(p).append('m').append(p).append("d1");
        LostPlaces x = Check.room(text + ";gp0m98d1;gp7m98d1");
        for (int p = 0; p < 8; p++) {
            boolean twice = p == 0 || p == 7;
            int joy = twice ? 970 : 980;
            due("ahead(" + p + ", 99, 0)", x.ahead(p, 99, 0), twice ? -2 : p);
            due("ahead(" + p + ", 99, 1)", x.ahead(p, 99, 1), joy);
            due("chain(" + p + ", 0)", x.chain(p, 0), 0);
            due("chain(" + p + ", 1)", x.chain(p, 1), -1);
            // it loses no more by going a minute ahead of its own going: that finds it away yet
            due("when(" + p + ", 1, 30, 0)", x.when(p, 1, 30, 0), Math.max(0, p - 1));
            due("when(" + p + ", 1, 30, 1)", x.when(p, 1, 30, 1), joy);
            due("keeping(" + p + ", 9)", x.keeping(p, 9), 0);
            due("best(" + p + ", 0)", x.best(p, 0), p);
            due("best(" + p + ", 1)", x.best(p, 1), joy);
            due("sure(" + p + ")", x.sure(p), twice ? 0 : 1 << p);
            due("broken(" + p + ")", x.broken(p), p);
            due("ladder(" + p + ")", x.ladder(p), p);
        }
        due("rule(0)", x.rule(0), 0);
        due("rule(1)", x.rule(1), 0);
        due("been(-1)", x.been(-1), 1024);
        x.tells(7, -2);
        due("been(-1)", x.been(-1), 512);
        due("been(0)", x.been(0), 512);
        due("envy()", x.envy(), 0);
        x.go(60);
        x.go(39);
        due("even()", x.even(), 10);
        Check.places(x, -2, 1, 2, 3, 4, 5, 6, -2);
        Check.joys(x, 970, 980, 980, 980, 980, 980, 980, 970);
        due("the last seat", x.seat(7, 3), -1);
    }

    // ---- ahead

    // Section 3: "AHEAD: where a SITTER is behind n MINUTES; its JOY then": behind none, behind all that are left
    private static void aheadOfNoneAndAll() {
        LostPlaces x = Check.room("sw9;sw5;ps0;p;gm2d1;et5");
        x.go(1);
        due("ahead(0, 0, 0)", x.ahead(0, 0, 0), 0);
        due("ahead(0, 0, 1)", x.ahead(0, 0, 1), 9);
        due("ahead(0, 1, 0)", x.ahead(0, 1, 0), 0);
        due("ahead(0, 2, 0)", x.ahead(0, 2, 0), -2);
        due("ahead(1, 2, 0)", x.ahead(1, 2, 0), 0);
        due("ahead(0, 3, 0)", x.ahead(0, 3, 0), 1);
        due("ahead(0, 4, 1)", x.ahead(0, 4, 1), 18 + 10);
        x.go(4);
        due("ahead(0, 0, 1) at the end", x.ahead(0, 0, 1), 28);
    }

    // Promise 19: "n .. (0 .. as many as are left)": one MINUTE, and 99 of them
    private static void aheadOfTheLongestEvening() {
        LostPlaces x = Check.room("s;ps0;et99");
        due("ahead(0, 99, 1)", x.ahead(0, 99, 1), 990);
        due("ahead(0, 100, 1)", x.ahead(0, 100, 1), Edge.HIDDEN);
        LostPlaces one = Check.room("s;ps0;et1");
        due("ahead(0, 1, 1)", one.ahead(0, 1, 1), 10);
        due("ahead(0, 2, 1)", one.ahead(0, 2, 1), Edge.HIDDEN);
    }

    // Section 3: "AHEAD: where a SITTER is": NONE the FLOOR, AWAY
    private static void aheadOnTheFloorOrAway() {
        LostPlaces x = Check.room("s;ps0;pb99;gm0d9;et9");
        due("ahead(1, 9, 0)", x.ahead(1, 9, 0), -1);
        due("ahead(1, 9, 1)", x.ahead(1, 9, 1), 0);
        due("ahead(0, 9, 0)", x.ahead(0, 9, 0), -2);
    }

    // ---- chain

    // Section 3: "CHAIN: MOVES that there would be now ..: how many; who ends on its SEAT": none, and nobody
    private static void chainOfNone() {
        LostPlaces x = Check.room("sw9;sw5;ps0b5;ps1b5;et9");
        due("chain(0, 0)", x.chain(0, 0), 0);
        due("chain(0, 1)", x.chain(0, 1), -1);
        due("chain(1, 0)", x.chain(1, 0), 0);
        due("chain(1, 1)", x.chain(1, 1), -1);
    }

    // Section 3: CHAIN: "(as (2) ..)": a SEAT that is kept is not FREE: KEEPS 0 and 1
    private static void chainOfOneThatKeeps() {
        LostPlaces x = Check.room("sw9;sw5;ps0;ps1;et9");
        due("chain(0, 0), keeps 0", x.chain(0, 0), 1);
        due("chain(0, 1), keeps 0", x.chain(0, 1), 1);
        x.keeps(0, 1);
        due("chain(0, 0), keeps 1", x.chain(0, 0), 0);
        due("chain(0, 1), keeps 1", x.chain(0, 1), -1);
    }

    // Section 3: CHAIN: "and (4) followed at once": not (1), not (3)
    private static void chainIsOfMovingUpAlone() {
        LostPlaces kept = Check.room("sw9;sw5;sw1;ps0k2;ps1;ps2;et9");
        kept.up(0, 5);
        kept.go(2);
        due("chain(1, 0), a seat kept till this minute", kept.chain(1, 0), 1);
        due("chain(1, 1), it is kept yet", kept.chain(1, 1), 2);
        LostPlaces away = Check.room("sw9;sw5;ps0q9;ps1b9;et9");
        away.up(0, 1);
        away.go(1);
        due("chain(1, 0), who would come back this minute does not", away.chain(1, 0), 0);
        due("chain(1, 1)", away.chain(1, 1), -1);
    }

    // Section 3: CHAIN: "MOVES that there would be now": all of them, those there were do not count
    private static void chainOfAllMoves() {
        LostPlaces x = Check.room("sw9x0;sw7x1;sw5x2;ps0;ps1;ps2;p;et9");
        due("chain(0, 0)", x.chain(0, 0), 3);
        due("chain(0, 1)", x.chain(0, 1), 1);
        due("chain(2, 0)", x.chain(2, 0), 1);
        due("chain(2, 1)", x.chain(2, 1), 3);
        x.up(0, 2);
        x.go(1);
        due("count(10)", x.count(10), 3);
        due("chain(1, 0)", x.chain(1, 0), 2);
        // a SEAT that is FREE by now is moved up to as well
        LostPlaces free = Check.room("sw9;sw7;sw5;ps1;ps2;et9");
        due("chain(1, 0)", free.chain(1, 0), 1);
        due("chain(1, 1)", free.chain(1, 1), -1);
    }

    // Promise 20: "HIDDEN: .. the END": in the last MINUTE it is told
    private static void chainInTheLastMinute() {
        LostPlaces x = Check.room("sw9;sw5;ps0;ps1;et2");
        x.go(1);
        due("chain(0, 0)", x.chain(0, 0), 1);
        x.go(1);
        due("chain(0, 0) at the end", x.chain(0, 0), Edge.HIDDEN);
    }

    // ---- when

    // Section 3: "WHEN to go ..: in one of the MINUTES from this one on": this one is one of them
    private static void whenFromThisMinuteOn() {
        LostPlaces x = Check.room("s;ps0;et6", "y:m+1");
        due("when(0, 1, 30, 0)", x.when(0, 1, 30, 0), 0);
        due("when(0, 1, 30, 1)", x.when(0, 1, 30, 1), 20);
        x.go(3);
        due("when(0, 1, 30, 0)", x.when(0, 1, 30, 0), 3);
        due("when(0, 1, 30, 1)", x.when(0, 1, 30, 1), 6 + 5 + 6);
    }

    // Section 3: WHEN: "n (1 .. 30) at most": of one, of as many as told, not of one more
    private static void whenOfAtMostN() {
        LostPlaces x = Check.room("s;ps0;et9", LESS);
        for (int n = 1; n <= 9; n++) {
            due("when(0, 1, " + n + ", 0)", x.when(0, 1, n, 0), n - 1);
            due("when(0, 1, " + n + ", 1)", x.when(0, 1, n, 1), 45 - (10 - n));
        }
        LostPlaces far = Check.room("s;ps0;et99", "y:m=30?0;y:m=29?5;y:9");
        due("when(0, 1, 30, 0)", far.when(0, 1, 30, 0), 29);
        due("when(0, 1, 30, 1)", far.when(0, 1, 30, 1), 97 * 9);
        due("when(0, 1, 29, 0)", far.when(0, 1, 29, 0), 0);
        far.go(1);
        due("when(0, 1, 30, 0)", far.when(0, 1, 30, 0), 30);
        due("when(0, 1, 30, 1)", far.when(0, 1, 30, 1), 97 * 9 + 5);
    }

    // Section 3: WHEN: "in one of the MINUTES": none at the END, or behind it, even if n is more than are left
    private static void whenAheadOfTheEnd() {
        LostPlaces x = Check.room("s;ps0;et4", LESS);
        due("when(0, 1, 30, 0)", x.when(0, 1, 30, 0), 3);
        due("when(0, 1, 30, 1)", x.when(0, 1, 30, 1), 24);
        x.go(3);
        due("when(0, 1, 30, 0), a minute left", x.when(0, 1, 30, 0), 3);
        due("when(0, 1, 30, 1)", x.when(0, 1, 30, 1), 24);
        x.go(1);
        due("when(0, 1, 30, 0) at the end", x.when(0, 1, 30, 0), Edge.HIDDEN);
    }

    // Section 3: WHEN: "for d (1 .. 9) minutes"
    private static void whenForOneToNineMinutes() {
        LostPlaces x = Check.room("s;ps0;et20");
        for (int d = 1; d <= 9; d++) due("when(0, " + d + ", 1, 1)", x.when(0, d, 1, 1), 200 - 10 * d);
    }

    // Section 3: WHEN: "(of several the first)"
    private static void whenOfSeveralTheFirst() {
        LostPlaces x = Check.room("s;ps0;et20");
        x.go(2);
        due("when(0, 1, 9, 0)", x.when(0, 1, 9, 0), 2);
        LostPlaces twice = Check.room("s;ps0;et9", "y:m=3?1;y:m=5?1;y:4");
        due("when(0, 1, 9, 0)", twice.when(0, 1, 9, 0), 3);
    }

    // Section 3: WHEN: "(as one GOING more behind all others)": the one told for that MINUTE is ahead of it
    private static void whenBehindAllOthers() {
        LostPlaces x = Check.room("s;ps0;gm0d1;et5");
        due("when(0, 9, 1, 1)", x.when(0, 9, 1, 1), 40);
        LostPlaces longer = Check.room("s;ps0;gm0d4;et5");
        due("when(0, 1, 1, 1)", longer.when(0, 1, 1, 1), 10);
    }

    // Section 3: WHEN as a GOING, "(2) .. a SITTER that is not AWAY": when it is AWAY it does not go
    private static void whenItIsAway() {
        LostPlaces x = Check.room("s;ps0;et9");
        x.up(0, 3);
        due("when(0, 9, 3, 0)", x.when(0, 9, 3, 0), 0);
        due("when(0, 9, 3, 1)", x.when(0, 9, 3, 1), 60);
        due("when(0, 9, 9, 1)", x.when(0, 9, 9, 1), 60);
    }

    // Section 3: WHEN "(as one GOING more ..)": what it KEEPS is kept
    private static void whenItKeeps() {
        LostPlaces x = Check.room("sw9;sw5;ps0;ps1;et4");
        due("when(0, 1, 1, 1)", x.when(0, 1, 1, 1), 15);
        x.keeps(0, 2);
        due("when(0, 1, 1, 1), it keeps", x.when(0, 1, 1, 1), 27);
    }

    // ---- keeping

    // Section 3: "KEEPING: JOY at the END of one that KEEPS k minutes from now on, less that with 0": with 0 it is 0
    private static void keepingNoneToNine() {
        LostPlaces x = Check.room("sw9;sw5;ps0k5;ps1;gm1d1;gm4d9;et20");
        // from minute 1 on: kept till minute 2 by 1, which is over when it comes back, but nobody was quicker
        int[] gains = {0, 4 * 2, 4 * 2, 4 * 2, 4 * 2, 4 * 2, 4 * 2, 4 * 2, 4 * 2, 4 * 2 + 4 * 7};
        for (int k = 0; k <= 9; k++) due("keeping(0, " + k + ")", x.keeping(0, k), gains[k]);
        due("keeping(1, 9), it never goes", x.keeping(1, 9), 0);
    }

    // Section 3: KEEPING "from now on": what is kept by now stays so; nothing is left at the END
    private static void keepingFromNowOn() {
        LostPlaces x = Check.room("sw9;sw5;ps0k9;ps1;et6");
        x.up(0, 2);
        due("keeping(0, 9)", x.keeping(0, 9), 0);
        due("ahead(0, 6, 1)", x.ahead(0, 6, 1), 36);
        x.go(6);
        due("keeping(0, 9) at the end", x.keeping(0, 9), 0);
    }

    // Section 3: "KEEPING: JOY at the END of one that KEEPS k minutes from now on, less that with 0": it may be below 0
    private static void keepingLoses() {
        // its kept seat is that it comes back to, though by then another one is liked better, and it is too slow to move up
        LostPlaces x = Check.room("sx0;sx1;ps0b50;gm1d1;et9", "y:m>1?10+x*20;y:10");
        due("keeping(0, 2)", x.keeping(0, 2), -20 * 7);
    }

    // ---- place

    // Section 3: PLACE: "(where it is first ..)": of several the one where it is, though it is not the lowest
    private static void placeWhereItIs() {
        LostPlaces x = Check.room("sw9;sw9;ps1;et3");
        due("best(0, 0)", x.best(0, 0), 1);
        due("best(0, 1)", x.best(0, 1), 27);
        LostPlaces floor = Check.room("sw9;p;et3");
        due("best(0, 0) from the floor", floor.best(0, 0), -1);
        due("best(0, 1) from the floor", floor.best(0, 1), 27);
    }

    // Section 3: PLACE: "(.., then the lowest)"
    private static void placeThenTheLowest() {
        LostPlaces x = Check.room("sw5;sw9;sw9;ps0b50;et3");
        due("best(0, 0)", x.best(0, 0), 1);
        due("best(0, 1)", x.best(0, 1), 27);
    }

    // Section 3: PLACE: "the FREE SEAT": none with another one on it, none that is kept
    private static void placeIsFree() {
        LostPlaces x = Check.room("sw5;sw50;sw9;sw70;ps0b99;ps1;ps3k9;et9");
        x.up(2, 9);
        due("best(0, 0)", x.best(0, 0), 2);
        due("best(0, 1)", x.best(0, 1), 81);
    }

    // Section 3: PLACE: "(or where it is)": it cannot choose the FLOOR from a SEAT
    private static void placeIsNotTheFloor() {
        // from the floor the seat that is left in minute 1 is better by its step, from the other seat it is not
        LostPlaces seat = Check.room("sw1;sw5;ps0b5;ps1;gp1m1d9;et5");
        due("best(0, 0)", seat.best(0, 0), 0);
        due("best(0, 1), from the floor it would be more", seat.best(0, 1), 5);
        LostPlaces floor = Check.room("sw1;sw5;pb5;ps1;gp1m1d9;et5");
        due("best(0, 0)", floor.best(0, 0), -1);
        due("best(0, 1)", floor.best(0, 1), 20);
    }

    // Section 3: PLACE: "now": the SEAT it leaves is FREE for others
    private static void placeLeavesItsSeat() {
        LostPlaces x = Check.room("sw8;sw9;sw3;ps0b50;ps2;gm1d1;et6");
        // on seat 1 it comes back to seat 0 only if sitter 1 has not moved up to it
        due("best(0, 0)", x.best(0, 0), 1);
        due("best(0, 1)", x.best(0, 1), 9 + 4 * 8);
    }

    // Promise 23: "HIDDEN: no such ones, AWAY": nothing of the END: there it is best where it is
    private static void placeAtTheEnd() {
        LostPlaces x = Check.room("sw9;sw5;ps1b9;p;et2");
        x.go(2);
        due("best(0, 0)", x.best(0, 0), 1);
        due("best(0, 1)", x.best(0, 1), 10);
    }

    // ---- sure

    // Section 3: "SURE: SEATS (bits) on which one is in each MINUTE of the FILM": the one ahead of it does not count
    private static void sureInTheFilmAlone() {
        due("away ahead of it", Check.room("s;s;ps1;gm1d2;ef3t6").sure(0), 1);
        due("away in its first minute", Check.room("s;s;ps1;gm1d3;ef3t6").sure(0), 0);
        due("away in its last minute", Check.room("s;s;ps1;gm5d1;ef3t6").sure(0), 0);
        due("on its seat", Check.room("s;s;ps1;ef3t6").sure(0), 2);
    }

    // Section 3: SURE: "(behind (4) ..)": who moves up in the first MINUTE of the FILM is on its SEAT in it
    private static void sureBehindMovingUp() {
        due("moves up in its first minute", Check.room("sx0;sx1;ps0;ef2t4", "y:m>1?x+1;y:1").sure(0), 2);
        due("moves up in its second minute", Check.room("sx0;sx1;ps0;ef2t4", "y:m>2?x+1;y:1").sure(0), 0);
        due("comes back in its first minute", Check.room("s;ps0;gm1d1;ef2t4").sure(0), 1);
    }

    // Section 3: SURE: "MINUTES from now on": what was in the FILM by now does not count
    private static void sureFromNowOn() {
        LostPlaces x = Check.room("s;s;ps0;ef0t5", "y:m>0?w");
        x.up(0, 1);
        due("sure(0), away in this minute", x.sure(0), 0);
        x.go(1);
        due("sure(0), it comes back in this one", x.sure(0), 1);
    }

    // Section 3: SURE: "none of them left: all SEATS": at the END, and by a FILM that begins then or later
    private static void sureOfNoMinute() {
        LostPlaces x = Check.room("s;s;s;ps1;p;ef0t3");
        x.go(3);
        due("sure(0) at the end", x.sure(0), 7);
        due("sure(1) at the end", x.sure(1), 7);
        due("the film begins at the end", Check.room("s;s;ps0;ef3t3").sure(0), 3);
        due("the film begins behind the end", Check.room("s;s;ps0;ef4t3").sure(0), 3);
        due("the film has one minute", Check.room("s;s;ps0;ef2t3").sure(0), 1);
        due("eight seats", Check.room("s;s;s;s;s;s;s;s;p;ef4t3").sure(0), 255);
        due("the eighth seat", Check.room("s;s;s;s;s;s;s;s;ps7;ef2t3").sure(0), 128);
    }

    // Section 3: SURE: "SEATS (bits)": on the FLOOR it is on none
    private static void sureOnTheFloor() {
        due("sure(0)", Check.room("s;pb99;ef1t3").sure(0), 0);
        due("sure(0), on the floor in one minute", Check.room("sw9;p;gm1d1;ef0t3").sure(0), 0);
    }

    // ---- break

    // Section 3: "BREAK: all that are not AWAY get UP now for 1 minute .. where one is behind the next MINUTE"
    private static void brokenIsOfTheNextMinute() {
        LostPlaces x = Check.room("sw9;sw5;ps0q1;ps1q7;et3");
        due("broken(0)", x.broken(0), 1);
        due("broken(1)", x.broken(1), 0);
        due("apart: broken(1) again", x.broken(1), 0);
        Check.places(x, 0, 1);
    }

    // Section 3: BREAK: "none of them KEEPS by that"
    private static void brokenKeepsNothing() {
        LostPlaces x = Check.room("sw9;sw5;ps0q1k9;ps1q7k9;et3");
        due("broken(0)", x.broken(0), 1);
        due("broken(1)", x.broken(1), 0);
    }

    // Section 3: BREAK: "all that are not AWAY": who is AWAY comes back when it is due; what is kept for it stays kept
    private static void brokenForThoseAway() {
        LostPlaces x = Check.room("sw9;sw5;sw2;ps0q0k9;ps1q9;p;et9");
        x.up(0, 2);
        due("broken(0), away for longer", x.broken(0), -2);
        due("broken(1), its seat is kept", x.broken(1), 1);
        x.go(1);
        due("broken(0), it comes back with the others", x.broken(0), 0);
        LostPlaces now = Check.room("sw9;sw5;ps0q0;ps1q9;et9");
        now.up(0, 1);
        now.go(1);
        due("broken(0), it comes back in this minute, all seats left", now.broken(0), 0);
        due("broken(1)", now.broken(1), 1);
    }

    // Section 3: BREAK: "((1) to (4) of it)": of the next MINUTE: its GOINGS, its moving up
    private static void brokenWithTheNextMinute() {
        LostPlaces x = Check.room("sw9;sw5;ps0q9;ps1q1;gp0m1d1;gp1m0d9;et9");
        due("broken(0), away when its going is due", x.broken(0), 0);
        due("broken(1), away when its going is due", x.broken(1), 1);
        LostPlaces kept = Check.room("sw9;sw5;ps0k1;ps1;et9");
        kept.up(0, 9);
        due("broken(1): (1) of the next minute", kept.broken(1), 0);
        // by (4): who comes back to the seat kept for it moves up to one that is left free
        LostPlaces up = Check.room("sw9;sw5;ps0;ps1k9;gm1d9;et9");
        up.up(1, 1);
        due("broken(1)", up.broken(1), 1);
        LostPlaces free = Check.room("sw9;sw5;ps1k9;et9");
        free.up(0, 1);
        due("broken(0): (4) of the next minute", free.broken(0), 0);
    }

    // Promise 27: "HIDDEN: .. the END is this MINUTE or the next": told, if two MINUTES are left
    private static void brokenNearTheEnd() {
        LostPlaces x = Check.room("s;ps0;et2");
        due("broken(0), two minutes left", x.broken(0), 0);
        x.go(1);
        due("broken(0), the end is the next", x.broken(0), Edge.HIDDEN);
        x.go(1);
        due("broken(0), the end is this", x.broken(0), Edge.HIDDEN);
        due("broken(0) of one minute", Check.room("s;ps0;et1").broken(0), Edge.HIDDEN);
    }

    // ---- rule

    // Section 3: "RULE: k (0 .. 9) that all KEEP from now on, by which fewest MOVES are made": 0, and 9
    private static void ruleNoneToNine() {
        LostPlaces none = Check.room("sw9;sw5;ps0k5;ps1;et9");
        due("rule(0), nobody goes", none.rule(0), 0);
        due("rule(1), nobody goes", none.rule(1), 0);
        for (int d = 1; d <= 9; d++) {
            LostPlaces x = Check.room("sw9;sw5;ps0;ps1;gm0d" + d + ";et20");
            due("rule(0), away for " + d, x.rule(0), d);
            due("rule(1), away for " + d, x.rule(1), 0);
        }
    }

    // Section 3: RULE: "(of several the least)", "how many"
    private static void ruleOfSeveralTheLeast() {
        // in minute 8 the other one goes too: by 8 and by 9 nobody moves up
        LostPlaces x = Check.room("sw9;sw5;ps0;ps1;gm0d9;gp1m8d9;et10");
        due("rule(0)", x.rule(0), 8);
        due("rule(1)", x.rule(1), 0);
        LostPlaces all = Check.room("sw9;sw5;p;ps1b9;et6");
        due("rule(0), one move by each k", all.rule(0), 0);
        due("rule(1), one move by each k", all.rule(1), 1);
    }

    // Section 3: RULE: "k (0 .. 9)": not one more, even if fewer MOVES would be made by it
    private static void ruleOfNoMoreThanNine() {
        // both come back in minute 9: the quicker one to the seat that is not kept any more, by 10 it would be;
        // the other one moves up to seat 1 in minute 15, for it is on the floor
        LostPlaces x = Check.room("sx0;sx1;ps0q1;pq9;gp0m0d9;gp1m0d9;et20", "y:x=1&p=0&m>14?5;y:x=0?9;y:0");
        due("rule(0)", x.rule(0), 0);
        due("rule(1)", x.rule(1), 1);
    }

    // Section 3: RULE: "that all KEEP": not one alone
    private static void ruleOfAll() {
        LostPlaces x = Check.room("sw9x0;sw5x1;sw1x2;ps0k9;ps1;ps2;gp0m0d2;gp1m9d4;et20");
        due("rule(0)", x.rule(0), 4);
        due("rule(1)", x.rule(1), 0);
    }

    // Section 3: RULE: "from now on": what is kept stays so; MOVES "till the END" there were do not count
    private static void ruleFromNowOn() {
        LostPlaces x = Check.room("sw9;sw5;ps0;ps1;gm0d2;et6");
        due("rule(1)", x.rule(1), 0);
        x.go(1);
        due("count(10)", x.count(10), 1);
        due("rule(0)", x.rule(0), 0);
        due("rule(1)", x.rule(1), 0);
        x.go(5);
        due("rule(0) at the end", x.rule(0), 0);
        due("rule(1) at the end", x.rule(1), 0);
        LostPlaces kept = Check.room("sw9;sw5;ps0k3;ps1;et6");
        kept.up(0, 3);
        due("rule(0), it is kept by now", kept.rule(0), 0);
        due("rule(1)", kept.rule(1), 0);
    }
}
