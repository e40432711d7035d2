/** Boundary cases of CALL, RESTS, FAIR, TOLD, BEEN, LADDER, ENVY, WARM, OFTEN and EVEN (section 3; promises 25 to 36). */
public final class GameEdgesTest {
    private static final String LESS = "y:9-m";

    public static void main(String[] args) {
        Edge.runAll(GameEdgesTest.class);
    }

    private static void due(String call, long got, long want) {
        Check.due(call, got, want);
    }

    private static void call(LostPlaces x, int row, int c, int sitter, int want) {
        due("call(" + row + ", " + c + ", " + sitter + ")", x.call(row, c, sitter), want);
    }

    private static void rests(LostPlaces x, int cost, int... rows) {
        due("rests(" + cost + ", -1)", x.rests(cost, -1), rows.length);
        for (int i = 0; i < rows.length; i++) due("rests(" + cost + ", " + i + ")", x.rests(cost, i), rows[i]);
        due("rests(" + cost + ", " + rows.length + ")", x.rests(cost, rows.length), -1);
    }

    // ---- call

    // Section 3: CALL: "choose a number 0 .. 4": 0 goes now, 3 is the last that goes, 4 does not go
    private static void callNumbers() {
        LostPlaces x = Check.room("sw8;ps0;et9", LESS);
        // 9 + 8 + .. + 1 without going, less what is liked in the minute it goes, less the minutes it rang
        int[] has = {45 - 9, 45 - 8 - 1, 45 - 7 - 2, 45 - 6 - 3, 45 - 4};
        for (int row = 0; row <= 4; row++) call(x, row, 1, 0, has[row]);
        call(x, 5, 1, 0, Edge.HIDDEN);
        call(x, -1, 1, 0, Edge.HIDDEN);
    }

    // Section 3: CALL: "cost c 0 .. 99"
    private static void callCosts() {
        LostPlaces x = Check.room("sw8;ps0;et9");
        call(x, 3, 0, 0, 64);
        call(x, 3, 99, 0, 64 - 297);
        call(x, 4, 99, 0, 72 - 396);
        call(x, 0, 99, 0, 64);
    }

    // Section 3: CALL: "(those that are not AWAY, four at most ..)": one and four; promise 25: "nobody or more than four"
    private static void callOfOneToFour() {
        LostPlaces x = Check.room("s;s;s;s;s;ps0;ps1;ps2;ps3;ps4;et9");
        call(x, 0, 0, 0, Edge.HIDDEN);
        due("rests(0, -1) of five", x.rests(0, -1), Edge.HIDDEN);
        x.up(4, 9);
        call(x, 1111, 0, 0, 80);
        call(x, 1111, 0, 3, 90);
        call(x, 4444, 1, 3, 86);
        due("rests(0, -1) of four", x.rests(0, -1) > 0 ? 1 : 0, 1);
        for (int p = 1; p < 4; p++) x.up(p, 9);
        call(x, 1, 0, 0, 80);
        x.up(0, 9);
        call(x, 0, 0, 0, Edge.HIDDEN);
        due("rests(0, -1) of nobody", x.rests(0, -1), Edge.HIDDEN);
    }

    // Section 3: CALL: "the one with the least number below 4 goes"
    private static void callLeastGoes() {
        LostPlaces x = Check.room("sw8;sw8;sw8;ps0;ps1;ps2;et9");
        int[][] rows = {{12, 0}, {102, 1}, {210, 2}, {344, 0}, {434, 1}, {443, 2}};
        for (int[] row : rows) {
            int least = row[0] >= 300 ? 3 : 0;
            for (int p = 0; p < 3; p++) call(x, row[0], 5, p, (p == row[1] ? 64 : 72) - 5 * least);
        }
    }

    // Section 3: CALL: "(of several the quickest, then the lowest)"
    private static void callQuickestOfTheLeast() {
        LostPlaces x = Check.room("sw8;sw8;sw8;ps0q4;ps1q7;ps2q7;et9");
        call(x, 111, 0, 0, 72);
        call(x, 111, 0, 1, 64);
        call(x, 111, 0, 2, 72);
        call(x, 121, 0, 0, 72);
        call(x, 121, 0, 2, 64);
        // who is quick, but has no least number, does not go
        call(x, 122, 0, 0, 64);
        call(x, 122, 0, 1, 72);
    }

    // Section 3: CALL: "for 1 minute, in the MINUTE that is so many MINUTES on": from this MINUTE
    private static void callSoManyMinutesOn() {
        LostPlaces x = Check.room("sw8;ps0;et9", LESS);
        x.go(2);
        // 9 + 8 by now; then 7, 6, 5, 4, 3, 2, 1, of which it has all but one
        int[] gone = {7, 6, 5, 4, 0};
        for (int row = 0; row <= 4; row++) call(x, row, 0, 0, 45 - gone[row]);
    }

    // Section 3: CALL: "(4 by all: nobody does)", "the least number (4: by all)": all pay for four MINUTES
    private static void callNobodyGoes() {
        LostPlaces x = Check.room("sw8;sw8;ps0;ps1;et9");
        call(x, 44, 7, 0, 72 - 28);
        call(x, 44, 7, 1, 72 - 28);
        call(x, 43, 7, 0, 72 - 21);
        call(x, 43, 7, 1, 64 - 21);
    }

    // Section 3: CALL: "each pays c for each MINUTE it rang: the least number": at once nobody pays
    private static void callAtOnce() {
        LostPlaces x = Check.room("sw8;sw8;ps0;ps1;et9");
        call(x, 4, 99, 0, 64);
        call(x, 4, 99, 1, 72);
    }

    // Section 3: CALL: "(A MINUTE behind the END: it rang, nobody goes.)": the END itself and behind it; the last MINUTE
    private static void callBehindTheEnd() {
        LostPlaces x = Check.room("sw8;ps0;et2");
        int[] has = {8, 8 - 1, 16 - 2, 16 - 3, 16 - 4};
        for (int row = 0; row <= 4; row++) call(x, row, 1, 0, has[row]);
        x.go(1);
        int[] last = {8, 16 - 1, 16 - 2, 16 - 3, 16 - 4};
        for (int row = 0; row <= 4; row++) call(x, row, 1, 0, last[row]);
        x.go(1);
        call(x, 0, 1, 0, Edge.HIDDEN);
    }

    // Section 3: CALL: the one "goes" as (2): not if it is AWAY by then, and what it KEEPS is kept
    private static void callGoesAsAGoing() {
        LostPlaces away = Check.room("sw8;ps0;gm0d3;et9");
        call(away, 1, 0, 0, 48);
        call(away, 2, 0, 0, 48);
        call(away, 3, 0, 0, 48);
        LostPlaces keeps = Check.room("sw9;sw5;ps0k2q9;ps1;et4");
        call(keeps, 0, 0, 0, 27);
        call(keeps, 0, 0, 1, 20);
        keeps.keeps(0, 0);
        call(keeps, 0, 0, 0, 15);
        call(keeps, 0, 0, 1, 36);
    }

    // Section 3: CALL: "What one has: its JOY at the END less that": JOY there was counts
    private static void callJoyThereWas() {
        LostPlaces x = Check.room("sw8;ps0;et9");
        x.go(8);
        call(x, 0, 5, 0, 64);
        call(x, 4, 5, 0, 72 - 20);
    }

    // Section 3: "rows of numbers (digits, the lowest of them the highest)": of those that are not AWAY alone
    private static void callRowsOfThoseHere() {
        LostPlaces x = Check.room("sw8;sw8;sw8;ps0;ps1;ps2;et9");
        x.up(1, 9);
        call(x, 10, 0, 0, 72);
        call(x, 10, 0, 2, 64);
        call(x, 1, 0, 0, 64);
        call(x, 1, 0, 2, 72);
        call(x, 1, 0, 1, Edge.HIDDEN);
    }

    // ---- rests

    // Section 3: "RESTS: rows .. by which nobody has more by another number alone": as much is not more
    private static void restsAsMuchIsNotMore() {
        // away in minute 0 or not: it likes its seat by 0 then, so all numbers are alike for nothing
        LostPlaces x = Check.room("s;ps0;et9", "y:0");
        rests(x, 0, 0, 1, 2, 3, 4);
        rests(x, 1, 0);
    }

    // Section 3: RESTS: "more by another number alone": one more is more
    private static void restsOneMoreIsMore() {
        LostPlaces x = Check.room("sw8;ps0;et5");
        rests(x, 1, 4);
        rests(x, 2, 0, 4);
        rests(x, 3, 0);
    }

    // Section 3: RESTS: "by another number alone": not by two that change theirs at once
    private static void restsByOneAlone() {
        // at 4 a minute one goes at once, if the other would let it ring for two minutes or more
        LostPlaces x = Check.room("sw8;sw8;ps0;ps1q9;et5");
        rests(x, 4, 2, 3, 4, 20, 30, 40);
        rests(x, 0, 44);
    }

    // Section 3: RESTS: "how many, the i-th (rising)"; promise 26: "(i NONE)", "else NONE: no such one"
    private static void restsCounted() {
        LostPlaces x = Check.room("s;ps0;et9", "y:0");
        due("rests(0, -1)", x.rests(0, -1), 5);
        due("rests(0, 0)", x.rests(0, 0), 0);
        due("rests(0, 4)", x.rests(0, 4), 4);
        due("rests(0, 5)", x.rests(0, 5), -1);
        due("rests(0, -2)", x.rests(0, -2), -1);
        due("rests(0, LEAST)", x.rests(0, Edge.LEAST), -1);
        due("rests(0, MOST)", x.rests(0, Edge.MOST), -1);
    }

    // Section 3: RESTS: rows of "four at most": all 625 rows of them
    private static void restsOfFour() {
        LostPlaces x = Check.room("s;p;p;p;p;et9", "y:0");
        due("rests(0, -1)", x.rests(0, -1), 625);
        due("rests(0, 0)", x.rests(0, 0), 0);
        due("rests(0, 5)", x.rests(0, 5), 10);
        due("rests(0, 624)", x.rests(0, 624), 4444);
        due("rests(0, 625)", x.rests(0, 625), -1);
    }

    // Promise 26: "HIDDEN: .. the END": in the last MINUTE it is told
    private static void restsInTheLastMinute() {
        LostPlaces x = Check.room("s;ps0;et1");
        rests(x, 0, 1, 2, 3, 4);
        x.go(1);
        due("rests(0, -1) at the end", x.rests(0, -1), Edge.HIDDEN);
        due("rests(0, 9) at the end", x.rests(0, 9), Edge.HIDDEN);
    }

    // ---- fair

    // Section 3: "FAIR for d (1 .. 3) minutes": each one's JOY less what it is away
    private static void fairForOneToThreeMinutes() {
        LostPlaces x = Check.room("s;s;ps0;ps1;et5", LESS);
        // the first one loses 9, 9 + 8, 9 + 8 + 7, the second one 8, 8 + 7, 8 + 7 + 6
        for (int d = 1; d <= 3; d++) {
            due("fair(" + d + ", 0)", x.fair(d, 0), 1);
            due("fair(" + d + ", 1)", x.fair(d, 1), d);
        }
    }

    // Section 3: FAIR: "all SITTERS (five at most)": one, and five
    private static void fairOfOneToFive() {
        LostPlaces one = Check.room("s;ps0;et9");
        due("fair(3, 0) of one", one.fair(3, 0), 0);
        due("fair(3, 1) of one", one.fair(3, 1), 0);
        LostPlaces five = Check.room("s;s;s;s;s;ps0;ps1;ps2;ps3;ps4;et9", LESS);
        // in some order each loses 9, 8, 7, 6 or 5
        due("fair(1, 0) of five", five.fair(1, 0), 1234);
        due("fair(1, 1) of five", five.fair(1, 1), 4);
        LostPlaces six = Check.room("s;p;p;p;p;p;p;et9");
        due("fair(1, 0) of six", six.fair(1, 0), Edge.HIDDEN);
        due("fair(1, 1) of six", six.fair(1, 1), Edge.HIDDEN);
    }

    // Section 3: FAIR: "one in each of the next MINUTES from this one on"; promise 28: "fewer MINUTES are left than SITTERS"
    private static void fairOfAsManyMinutesAsSitters() {
        LostPlaces x = Check.room("s;s;s;ps0;ps1;ps2;et9", LESS);
        x.go(6);
        // 3, 2 and 1 are lost in minutes 6, 7 and 8
        due("fair(1, 1), three minutes left", x.fair(1, 1), 2);
        x.go(1);
        due("fair(1, 1), two minutes left", x.fair(1, 1), Edge.HIDDEN);
        due("fair(1, 0), two minutes left", x.fair(1, 0), Edge.HIDDEN);
    }

    // Section 3: FAIR: "(digits, the one that goes first the highest ..)"
    private static void fairFirstIsHighest() {
        // who goes in the last minute has lost more already, by going told
        LostPlaces first = Check.room("s;s;ps0;ps1;gp0m4d1;et5", LESS);
        due("fair(1, 0): 1 goes first", first.fair(1, 0), 10);
        due("fair(1, 1)", first.fair(1, 1), 4);
        LostPlaces second = Check.room("s;s;ps0;ps1;gp1m4d1;et5", LESS);
        due("fair(1, 0): 0 goes first", second.fair(1, 0), 1);
    }

    // Section 3: FAIR: "(..; of several the least)"
    private static void fairOfSeveralTheLeast() {
        LostPlaces x = Check.room("s;s;s;ps0;ps1;ps2;et9");
        due("fair(1, 0)", x.fair(1, 0), 12);
        due("fair(1, 1)", x.fair(1, 1), 0);
        // 2 has to be the last of them, the others as they come
        LostPlaces last = Check.room("s;s;s;ps0;ps1;ps2;gp2m8d1;et9", "y:m<2?5;y:m=2?1;y:m=8?2;y:9");
        due("fair(1, 0)", last.fair(1, 0), 12);
    }

    // Section 3: FAIR: "(as GOINGS behind all others)": one told for the same MINUTE is ahead; who is AWAY does not go
    private static void fairBehindAllOthers() {
        // 0 is away for one minute as told, whichever is first: it does not go for three ones
        LostPlaces x = Check.room("s;s;ps0b99;ps1b99;gm0d1;et9");
        due("fair(3, 0)", x.fair(3, 0), 1);
        due("fair(3, 1)", x.fair(3, 1), 80 - 60);
        LostPlaces away = Check.room("s;s;ps0;ps1;gm0d3;et9");
        away.go(1);
        due("fair(1, 0)", away.fair(1, 0), 1);
        due("fair(1, 1)", away.fair(1, 1), 80 - 60);
    }

    // Section 3: FAIR: "the greatest JOY at the END less the least": of all, those that are AWAY too
    private static void fairOfAll() {
        LostPlaces x = Check.room("s;s;ps0;ps1;et9");
        x.up(0, 9);
        due("fair(1, 0)", x.fair(1, 0), 1);
        due("fair(1, 1)", x.fair(1, 1), 80);
    }

    // ---- told, been

    // Section 3: "TOLD (8 at most)"; promise 30: "NONE: .. there are eight"
    private static void toldEightAtMost() {
        LostPlaces x = Check.room("s;s;ps0;p;et9");
        for (int told = 1; told <= 8; told++) due("tells(0, 0)", x.tells(0, 0), told);
        due("a ninth", x.tells(0, 0), -1);
        due("a ninth of another one", x.tells(1, -1), -1);
        due("count(12)", x.count(12), 8);
        due("been(-1)", x.been(-1), 1);
    }

    // Section 3: "at the END a SITTER is on a SEAT (or on the FLOOR, or AWAY)"
    private static void toldOnASeatOnTheFloorOrAway() {
        String room = "s;s;ps1;pb99;p;gp2m2d1;et3";
        int[][] told = {{0, 1}, {1, -1}, {2, -2}};
        for (int[] one : told) {
            LostPlaces x = Check.room(room);
            due("tells", x.tells(one[0], one[1]), 1);
            due("been(-1) as it will be", x.been(-1) > 0 ? 1 : 0, 1);
        }
        LostPlaces floor = Check.room(room);
        floor.tells(2, -2);
        due("been(-1): it has to go", floor.been(-1), 1);
        due("been(0): it has to go", floor.been(0), 1);
        floor.tells(2, -1);
        due("been(-1): it cannot be on the floor, too", floor.been(-1), 0);
    }

    // Section 3: BEEN: "by which all TOLD is so": nothing is told, so all sets are; two are told
    private static void beenByAllThatIsTold() {
        LostPlaces x = Check.room("sw9;sw5;ps0;ps1;gm1d1;gp1m3d2;et4");
        been(x, 0, 1, 2, 3);
        x.tells(0, 0);
        been(x, 0, 2, 3);
        x.tells(1, -2);
        been(x, 2, 3);
        x.tells(1, 1);
        been(x);
    }

    private static void been(LostPlaces x, int... sets) {
        due("been(-1)", x.been(-1), sets.length);
        for (int i = 0; i < sets.length; i++) due("been(" + i + ")", x.been(i), sets[i]);
        due("been(" + sets.length + ")", x.been(sets.length), -1);
    }

    // Section 3: BEEN: "sets of those GOINGS whose MINUTE is this one or a later one"
    private static void beenOfThisMinuteOrALaterOne() {
        LostPlaces x = Check.room("s;s;ps0;ps1;gm1d1;gp1m2d1;gp1m3d1;et4");
        x.go(1);
        been(x, 0, 1, 2, 3, 4, 5, 6, 7);
        x.go(1);
        been(x, 0, 2, 4, 6);
        x.go(1);
        been(x, 0, 4);
        x.go(1);
        been(x, 0);
    }

    // Section 3: BEEN: "or a later one": those at the END or behind it are later ones, though they never happen
    private static void beenBehindTheEnd() {
        LostPlaces x = Check.room("s;ps0;gm1d1;gm4;gm99;et4");
        been(x, 0, 1, 2, 3, 4, 5, 6, 7);
        x.tells(0, -2);
        been(x);
        x.go(4);
        been(x);
        LostPlaces at = Check.room("s;ps0;gm1d1;gm4;gm99;et4");
        at.go(4);
        been(at, 0, 2, 4, 6);
    }

    // Section 3: BEEN: "(bits by their numbers ..)": none of them to ten
    private static void beenOfNoneToTen() {
        LostPlaces none = Check.room("s;ps0;et9");
        been(none, 0);
        none.tells(0, 0);
        been(none, 0);
        none.tells(0, -1);
        been(none);
        LostPlaces ten = Check.room("s;ps0" + Edge.times(";gd1", 9) + ";gm8d9;et9");
        due("been(-1) of ten", ten.been(-1), 1024);
        due("been(1023)", ten.been(1023), 1023);
        due("been(1024)", ten.been(1024), -1);
        ten.tells(0, -2);
        due("been(-1), the tenth has to be", ten.been(-1), 512);
        due("been(0)", ten.been(0), 512);
        due("been(511)", ten.been(511), 1023);
        due("been(512)", ten.been(512), -1);
    }

    // Section 3: BEEN: "those that are not in it do not happen": by the question alone: undone minutes have their GOINGS yet
    private static void beenIsApart() {
        LostPlaces x = Check.room("s;ps0;gm1d1;gm6d1;et9");
        been(x, 0, 1, 2, 3);
        x.go(4);
        been(x, 0, 2);
        for (int i = 0; i < 4; i++) x.undo();
        due("ahead(0, 9, 1)", x.ahead(0, 9, 1), 70);
        x.go(9);
        Check.joys(x, 70);
    }

    // Section 3: "(Apart, from as it is ..)": BEEN asked again behind each change: by who sits where, what is kept, KEEPS
    private static void beenFromAsItIs() {
        LostPlaces x = Check.room("sw9;sw5;ps0b5;ps1b4;gm1d1;gp1m2d1;et4");
        x.tells(0, 0);
        been(x, 0, 2, 3);
        x.swap(0, 1);
        been(x, 3);
        x.undo();
        been(x, 0, 2, 3);
        x.keeps(0, 2);
        been(x, 0, 1, 2, 3);
        x.up(0, 1);
        been(x, 0, 1, 2, 3);
        x.undo();
        x.keeps(0, 0);
        x.up(0, 1);
        been(x);
        x.undo();
        been(x, 0, 2, 3);
        x.image();
        x.go(2);
        been(x, 2);
        x.back();
        been(x, 0, 2, 3);
        Check.taste(x, "y:9-w");
        been(x, 0, 2);
        x.taste(-1);
        been(x, 0, 2, 3);
        x.tells(1, 0);
        been(x);
        Check.addRoom(x, "s;ps0;gm1d1;et4");
        been(x, 0, 1);
        // kept till the end, and kept till minute 1: all else is alike
        LostPlaces kept = Check.room("sw9;sw5;ps0;ps1;et9");
        kept.tells(1, 0);
        for (int k = 9; k > 0; k -= 8) {
            kept.keeps(0, k);
            kept.up(0, 9);
            kept.keeps(0, 0);
            due("been(-1), kept till " + k, kept.been(-1), k == 9 ? 0 : 1);
            for (int i = 0; i < 3; i++) kept.undo();
        }
    }

    // Section 3: BEEN: "those that are not in it do not happen": of two of one MINUTE the first that is in it
    private static void beenOfThoseThatHappen() {
        LostPlaces x = Check.room("s;ps0;gm0d1;gm0d9;et5");
        x.tells(0, -2);
        been(x, 2);
    }

    // Promise 31: "how many (i NONE), the i-th. NONE: no such one"
    private static void beenNoSuchOne() {
        LostPlaces x = Check.room("s;ps0;gm0d1;et5");
        due("been(-1)", x.been(-1), 2);
        for (int i : new int[] {2, -2, Edge.LEAST, Edge.MOST}) due("been(" + i + ")", x.been(i), -1);
    }

    // ---- ladder, envy, warm, often, even

    // Section 3: "LADDER: the i-th SEAT by WORTH (greatest first; of several the lowest)": the first is 0
    private static void ladder() {
        LostPlaces x = Check.room("sw5;sw9;sw5;sw0;sw99;sw9;sw5;s;p");
        int[] seats = {4, 7, 1, 5, 0, 2, 6, 3, -1};
        for (int i = 0; i < seats.length; i++) due("ladder(" + i + ")", x.ladder(i), seats[i]);
        due("ladder(-1)", x.ladder(-1), -1);
    }

    // Section 3: LADDER: "by WORTH": not by what is more in the FILM, nor by a TASTE
    private static void ladderByWorthAlone() {
        LostPlaces x = Check.room("sw5f99;sw9;p;ef0", "y:100-w");
        due("ladder(0)", x.ladder(0), 1);
        due("ladder(1)", x.ladder(1), 0);
        due("ladder(2)", x.ladder(2), -1);
    }

    // Section 3: "ENVY: .. LIKE a SEAT on which another one is better by their STEP, or more, than where they are"
    private static void envyByItsStepOrMore() {
        due("by its step", Check.room("sw9;sw5;ps0;ps1b4").envy(), 2);
        due("by one less", Check.room("sw9;sw5;ps0;ps1b5").envy(), 0);
        due("by one more", Check.room("sw9;sw5;ps0;ps1b3").envy(), 2);
        due("from the floor by its step", Check.room("sw9;ps0;pb9").envy(), 2);
        due("from the floor by one less", Check.room("sw9;ps0;pb10").envy(), 0);
    }

    // Section 3: ENVY: "a SEAT on which another one is": not one that is FREE, not one that is kept
    private static void envyOfTakenSeats() {
        due("free", Check.room("sw9;sw5;ps1").envy(), 0);
        LostPlaces kept = Check.room("sw9;sw5;ps0k9;ps1;et9");
        due("taken", kept.envy(), 2);
        kept.up(0, 5);
        due("kept", kept.envy(), 0);
    }

    // Section 3: ENVY: "SITTERS that are not AWAY (bits)"
    private static void envyOfThoseHere() {
        LostPlaces x = Check.room("sw9;p;p;p;p;p;p;p;ps0;et9");
        due("seven of eight", x.envy(), 127);
        x.up(3, 5);
        due("one is away", x.envy(), 119);
    }

    // Section 3: ENVY: by "LIKING .. in a MINUTE": this one; at the END, too
    private static void envyInThisMinute() {
        LostPlaces x = Check.room("sw9;sw5f5;ps0;ps1;ef1t1");
        due("ahead of the film", x.envy(), 2);
        x.go(1);
        due("in the minute of the film, the end", x.envy(), 1);
    }

    // Section 3: "WARM: the SEAT that was left last by a MOVE in the LOG": not the FLOOR, not by getting UP
    private static void warm() {
        LostPlaces x = Check.room("sw9x0;sw7x1;sw5x2;ps0;ps1;ps2;p;et9");
        x.up(0, 9);
        due("warm(), left by getting up", x.warm(), -1);
        x.go(1);
        // 1 left seat 1, 2 left seat 2, 3 left the floor
        due("count(10)", x.count(10), 3);
        due("warm()", x.warm(), 2);
        x.undo();
        due("warm() behind undo()", x.warm(), -1);
        LostPlaces floor = Check.room("s;p;et9");
        floor.go(1);
        due("warm(), from the floor alone", floor.warm(), -1);
        LostPlaces latest = Check.room("sw9;sw7;sw5;ps1b4;ps2b2;et9");
        latest.up(0, 9);
        latest.go(1);
        due("count(10)", latest.count(10), 1);
        due("warm(), by the latest move", latest.warm(), 2);
    }

    // Section 3: WARM: "in the LOG", OFTEN: "in the LOG": of the latest 60 MOVES alone
    private static void warmInTheLog() {
        // in minute 0 sitter 4 moves up from seat 2; then one and another one move up from the floor again and again
        LostPlaces x = Check.room("sw20;sw20;sw1;sw9;ps0q9b20;pq9b20;ps1q9b20;pq9b20;ps2q0;et99", "y:w<15?p/4*w;y:w");
        x.go(1);
        Check.move(x, 0, 4, 2, 3, 0);
        for (int i = 0; i < 29; i++) {
            changeOver(x, 0);
            changeOver(x, 2);
            x.go(2);
        }
        due("count(10)", x.count(10), 59);
        changeOver(x, 0);
        x.go(2);
        due("count(10)", x.count(10), 60);
        due("warm(), the 60th of the log", x.warm(), 2);
        due("often(4)", x.often(4), 1);
        due("often(0)", x.often(0), 30);
        changeOver(x, 0);
        x.go(2);
        due("count(10)", x.count(10), 60);
        due("warm(), the 61st", x.warm(), -1);
        due("often(4)", x.often(4), 0);
    }

    /** The one on the seat and the next one, on the floor, swap, and that one gets up: the seat is left to the first. */
    private static void changeOver(LostPlaces x, int sitter) {
        x.swap(sitter, sitter + 1);
        x.up(sitter + 1, 1);
    }

    // Section 3: "OFTEN: how often one MOVED in the LOG": 0, and as the LOG has it
    private static void often() {
        LostPlaces x = Check.room("sw9x0;sw7x1;ps0;ps1;p;pq9b99;et9");
        for (int p = 0; p < 4; p++) due("often(" + p + ") at first", x.often(p), 0);
        x.up(0, 9);
        x.go(1);
        int[] often = {0, 1, 1, 0};
        for (int p = 0; p < 4; p++) due("often(" + p + ")", x.often(p), often[p]);
        due("often(4)", x.often(4), -1);
    }

    // Section 3: "EVEN: the greatest JOY of all so far less the least": of one, of none yet, of those AWAY too
    private static void even() {
        LostPlaces one = Check.room("s;ps0;et9");
        one.go(5);
        due("even() of one", one.even(), 0);
        LostPlaces x = Check.room("sw9;sw5;sw7;ps0b9;ps1b9;ps2b9;et9");
        due("even() at first", x.even(), 0);
        x.go(1);
        due("even()", x.even(), 4);
        x.up(1, 9);
        x.go(1);
        due("even(), one away", x.even(), 13);
        x.undo();
        due("even() behind undo()", x.even(), 4);
    }
}
