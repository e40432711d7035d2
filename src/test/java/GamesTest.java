/** Promises 25, 26, 28, 30 to 36 and 39: the telephone, orders, sets of goings, who is better off, counts. */
public final class GamesTest {
    private static final String LESS = "y:9-m";
    private static final int HIDDEN = -1000000;

    public static void main(String[] args) {
        promise25();
        promise25Two();
        promise25Refused();
        promise26();
        promise26Two();
        promise28();
        promise28Refused();
        promise30();
        promise31();
        promise31Later();
        promise32();
        promise33();
        promise34And35();
        promise36();
        promise39();
        Check.close();
    }

    private static void due(String call, long got, long want) {
        Check.due(call, got, want);
    }

    private static void promise25() {
        LostPlaces x = Check.room("sw10;ps0;et5");
        int[] dear = {40, 37, 34, 31, 38};
        int[] free = {40, 40, 40, 40, 50};
        for (int row = 0; row <= 4; row++) {
            due("call(" + row + ", 3, 0)", x.call(row, 3, 0), dear[row]);
            due("call(" + row + ", 0, 0)", x.call(row, 0, 0), free[row]);
        }
        due("call(4, 99, 0)", x.call(4, 99, 0), 50 - 396);
        // behind the end it rings on, but nobody goes
        LostPlaces near = Check.room("sw8;ps0;et2");
        due("call(1, 1, 0)", near.call(1, 1, 0), 7);
        due("call(2, 1, 0)", near.call(2, 1, 0), 14);
        due("call(3, 1, 0)", near.call(3, 1, 0), 13);
        due("call(4, 1, 0)", near.call(4, 1, 0), 12);
        near.go(1);
        due("call(0, 1, 0)", near.call(0, 1, 0), 8);
        due("call(1, 1, 0)", near.call(1, 1, 0), 15);
        // behind the goings told
        LostPlaces told = Check.room("s;ps0;gm0d3;et5", LESS);
        due("call(0, 0, 0)", told.call(0, 0, 0), 6 + 5);
        LostPlaces keeps = Check.room("sw9;sw5;ps0k2q9;ps1;et4");
        due("call(0, 0, 0), it keeps", keeps.call(0, 0, 0), 27);
        due("call(0, 0, 1), it keeps", keeps.call(0, 0, 1), 20);
    }

    private static void promise25Two() {
        LostPlaces x = Check.room("sw8;sw8;ps0;ps1q9;et5");
        due("call(0, 0, 0), the quickest goes", x.call(0, 0, 0), 40);
        due("call(0, 0, 1)", x.call(0, 0, 1), 32);
        due("call(1, 2, 0), the lowest of them first", x.call(1, 2, 0), 32);
        due("call(1, 2, 1)", x.call(1, 2, 1), 40);
        due("call(23, 2, 0)", x.call(23, 2, 0), 28);
        due("call(23, 2, 1)", x.call(23, 2, 1), 36);
        due("call(32, 2, 0)", x.call(32, 2, 0), 36);
        due("call(43, 2, 1)", x.call(43, 2, 1), 26);
        due("call(44, 2, 0)", x.call(44, 2, 0), 32);
        LostPlaces alike = Check.room("sw8;sw8;ps0;ps1;et5");
        due("call(11, 0, 0), the lowest goes", alike.call(11, 0, 0), 32);
        due("call(11, 0, 1)", alike.call(11, 0, 1), 40);
        // those that are not away alone, by their numbers
        LostPlaces here = Check.room("sw8;sw8;sw8;ps0;ps1;ps2;et5");
        here.up(1, 3);
        due("call(10, 0, 2)", here.call(10, 0, 2), 32);
        due("call(10, 0, 0)", here.call(10, 0, 0), 40);
        due("call(10, 0, 1), away", here.call(10, 0, 1), HIDDEN);
        due("call(100, 0, 0), a row of three", here.call(100, 0, 0), HIDDEN);
    }

    private static void promise25Refused() {
        LostPlaces x = Check.room("s;s;s;s;s;ps0;ps1;ps2;ps3;ps4;et5");
        due("call(0, 0, 0), five are here", x.call(0, 0, 0), HIDDEN);
        due("rests(0, -1), five are here", x.rests(0, -1), HIDDEN);
        x.up(4, 9);
        due("call(0, 0, 3), four are here", x.call(0, 0, 3), 50);
        due("call(4444, 1, 3)", x.call(4444, 1, 3), 46);
        due("call(4440, 1, 3)", x.call(4440, 1, 3), 40);
        due("call(40, 1, 0)", x.call(40, 1, 0), 40);
        for (int row : new int[] {-1, 5, 50, 4445, 5000, 10000, 44444, Integer.MIN_VALUE, Integer.MAX_VALUE}) {
            due("call(" + row + ", 0, 0)", x.call(row, 0, 0), HIDDEN);
        }
        due("call(0, -1, 0)", x.call(0, -1, 0), HIDDEN);
        due("call(0, 100, 0)", x.call(0, 100, 0), HIDDEN);
        due("call(0, 0, 4), away", x.call(0, 0, 4), HIDDEN);
        due("call(0, 0, -1)", x.call(0, 0, -1), HIDDEN);
        due("call(0, 0, 9)", x.call(0, 0, 9), HIDDEN);
        for (int p = 0; p < 4; p++) x.up(p, 1);
        due("call(0, 0, 0), nobody is here", x.call(0, 0, 0), HIDDEN);
        due("rests(0, -1), nobody is here", x.rests(0, -1), HIDDEN);
        LostPlaces over = Check.room("s;ps0;et1");
        due("rests(0, -1), a minute left", over.rests(0, -1), 4);
        over.go(1);
        due("call(0, 0, 0) at the end", over.call(0, 0, 0), HIDDEN);
        due("rests(0, -1) at the end", over.rests(0, -1), HIDDEN);
    }

    private static void promise26() {
        LostPlaces x = Check.room("sw8;ps0;et5");
        rests(x, 1, 4);
        rests(x, 2, 0, 4);
        rests(x, 3, 0);
        rests(x, 0, 4);
        due("rests(2, -2)", x.rests(2, -2), -1);
        due("rests(-1, -1)", x.rests(-1, -1), HIDDEN);
        due("rests(100, -1)", x.rests(100, -1), HIDDEN);
        due("rests(100, 9)", x.rests(100, 9), HIDDEN);
        due("rests(99, -1)", x.rests(99, -1), 1);
    }

    /** Sitter 1 goes of two that say the same; each minute it rings costs both. */
    private static void promise26Two() {
        LostPlaces x = Check.room("sw8;sw8;ps0;ps1q9;et5");
        // at 4 a minute one goes at once, if the other would let it ring for two minutes or more
        rests(x, 4, 2, 3, 4, 20, 30, 40);
        // for nothing nobody goes
        rests(x, 0, 44);
    }

    private static void rests(LostPlaces x, int cost, int... rows) {
        due("rests(" + cost + ", -1)", x.rests(cost, -1), rows.length);
        for (int i = 0; i < rows.length; i++) due("rests(" + cost + ", " + i + ")", x.rests(cost, i), rows[i]);
        due("rests(" + cost + ", " + rows.length + ")", x.rests(cost, rows.length), -1);
    }

    private static void promise28() {
        LostPlaces x = Check.room("s;s;ps0;ps1;et5", LESS);
        due("fair(1, 0), the least of several", x.fair(1, 0), 1);
        due("fair(1, 1)", x.fair(1, 1), 1);
        LostPlaces second = Check.room("s;s;ps0;ps1;gp1m4d1;et5", LESS);
        due("fair(1, 0)", second.fair(1, 0), 1);
        due("fair(1, 1)", second.fair(1, 1), 4);
        LostPlaces first = Check.room("s;s;ps0;ps1;gp0m4d1;et5", LESS);
        due("fair(1, 0)", first.fair(1, 0), 10);
        due("fair(1, 1)", first.fair(1, 1), 4);
        LostPlaces longer = Check.room("s;s;ps0;ps1;et5", LESS);
        due("fair(3, 0)", longer.fair(3, 0), 1);
        due("fair(3, 1)", longer.fair(3, 1), 24 - 21);
        LostPlaces alone = Check.room("s;ps0;et1");
        due("fair(1, 0), alone", alone.fair(1, 0), 0);
        due("fair(1, 1), alone", alone.fair(1, 1), 0);
        LostPlaces five = Check.room("s;s;s;s;s;ps0;ps1;ps2;ps3;ps4;et9");
        due("fair(1, 0), five alike", five.fair(1, 0), 1234);
        due("fair(1, 1), five alike", five.fair(1, 1), 0);
        // joy there was counts, and who is away when it would go does not go
        LostPlaces later = Check.room("s;s;ps0;ps1;gm0d3;et9");
        later.go(1);
        due("fair(1, 0)", later.fair(1, 0), 1);
        due("fair(1, 1)", later.fair(1, 1), 80 - 60);
    }

    private static void promise28Refused() {
        LostPlaces x = Check.room("s;s;ps0;ps1;et3");
        due("fair(0, 0)", x.fair(0, 0), HIDDEN);
        due("fair(4, 0)", x.fair(4, 0), HIDDEN);
        due("fair(1, 2)", x.fair(1, 2), HIDDEN);
        due("fair(1, -1)", x.fair(1, -1), HIDDEN);
        x.go(1);
        due("fair(1, 0), two minutes left", x.fair(1, 0), 1);
        x.go(1);
        due("fair(1, 0), one minute left", x.fair(1, 0), HIDDEN);
        due("fair(1, 0) of six", Check.room("s;p;p;p;p;p;p").fair(1, 0), HIDDEN);
        due("fair(1, 0) without a room", new LostPlaces().fair(1, 0), HIDDEN);
    }

    private static void promise30() {
        LostPlaces x = Check.room("s;s;ps0;p;et9");
        due("tells(2, 0)", x.tells(2, 0), -1);
        due("tells(-1, 0)", x.tells(-1, 0), -1);
        due("tells(0, 2)", x.tells(0, 2), -1);
        due("tells(0, -3)", x.tells(0, -3), -1);
        due("tells(0, 1)", x.tells(0, 1), 1);
        due("tells(0, -1)", x.tells(0, -1), 2);
        due("tells(1, -2)", x.tells(1, -2), 3);
        for (int told = 4; told <= 8; told++) due("tells(0, 0)", x.tells(0, 0), told);
        due("tells(0, 0), a ninth", x.tells(0, 0), -1);
        due("told", x.count(12), 8);
        due("told is no act", x.count(11), 0);
    }

    private static void been(LostPlaces x, int... sets) {
        due("been(-1)", x.been(-1), sets.length);
        for (int i = 0; i < sets.length; i++) due("been(" + i + ")", x.been(i), sets[i]);
        due("been(" + sets.length + ")", x.been(sets.length), -1);
        due("been(-2)", x.been(-2), -1);
    }

    private static void promise31() {
        String room = "sw9;sw5;ps0;ps1;gm1d1;gp1m2d1;et4";
        LostPlaces x = Check.room(room);
        been(x, 0, 1, 2, 3);
        x.tells(0, 0);
        been(x, 0, 2, 3);
        x.tells(1, 0);
        been(x);
        x = Check.room(room);
        x.tells(0, 1);
        been(x, 1);
        x.tells(1, 0);
        been(x, 1);
        due("been(-1) without a room", new LostPlaces().been(-1), -1);
        due("been(0) without a room", new LostPlaces().been(0), -1);
    }

    private static void promise31Later() {
        LostPlaces x = Check.room("sw9;sw5;ps0;ps1;gm1d1;gp1m2d1;gp1m3d9;et4");
        x.tells(1, -2);
        been(x, 4, 5);
        x.go(2);
        been(x, 4);
        x.undo();
        been(x, 4, 5);
        x.go(3);
        been(x);
        x.undo();
        been(x);
        x.undo();
        been(x, 4);
        x.up(1, 9);
        been(x, 0, 2, 4, 6);
        due("told of another one", x.tells(0, 0), 2);
        been(x, 0, 2, 4, 6);
        // what is liked otherwise ends otherwise
        Check.taste(x, "y:9-w");
        been(x);
        // what is kept alone tells these two ways apart
        LostPlaces kept = Check.room("sw9;sw5;ps0;ps1;et4");
        kept.tells(1, 0);
        kept.up(0, 2);
        been(kept, 0);
        kept.undo();
        kept.keeps(0, 3);
        kept.up(0, 2);
        kept.keeps(0, 0);
        been(kept);
        // goings behind the end are later ones too
        LostPlaces behind = Check.room("s;ps0;gm1d1;gm9;et4");
        been(behind, 0, 1, 2, 3);
        LostPlaces ten = Check.room("s;ps0;g;g;g;g;g;g;g;g;g;g;et9");
        due("all sets of ten", ten.been(-1), 1024);
        due("the last one", ten.been(1023), 1023);
        due("been(1024)", ten.been(1024), -1);
        LostPlaces floor = Check.room("s;p;ps0q9;gp1m1d2;et3");
        floor.tells(0, -1);
        been(floor, 0);
    }

    private static void promise32() {
        LostPlaces x = Check.room("sw5;sw9f0;sw5f99;sw20;p", "y:100-w");
        int[] seats = {3, 1, 0, 2, -1};
        for (int i = 0; i < seats.length; i++) due("ladder(" + i + ")", x.ladder(i), seats[i]);
        due("ladder(-1)", x.ladder(-1), -1);
    }

    private static void promise33() {
        due("envy()", Check.room("sw9;sw5;ps0;ps1b4;pb10").envy(), 2);
        due("envy(), steps", Check.room("sw9;sw5;ps0;ps1b5;pb9").envy(), 4);
        due("envy() of free seats", Check.room("sw9;sw5;ps1").envy(), 0);
        due("envy() without a room", new LostPlaces().envy(), -1);
        LostPlaces film = Check.room("sw9;sw5f5;ps0;ps1;ef1t2");
        due("envy() ahead of the film", film.envy(), 2);
        film.go(1);
        due("envy() in the film", film.envy(), 1);
        film.up(0, 1);
        due("envy() of one that is away", film.envy(), 0);
        LostPlaces away = Check.room("sw9;sw5;ps0k9;ps1;et9");
        away.up(0, 1);
        due("envy() of a kept seat", away.envy(), 0);
    }

    private static void promise34And35() {
        LostPlaces x = Check.room("sw9;sw5;sw1;ps0;ps1;ps2;p;et9");
        due("warm() without a move", x.warm(), -1);
        x.up(0, 3);
        x.go(1);
        Check.move(x, 0, 3, -1, 2, 0);
        Check.move(x, 1, 2, 2, 1, 0);
        Check.move(x, 2, 1, 1, 0, 0);
        due("warm()", x.warm(), 2);
        due("often(1)", x.often(1), 1);
        due("often(0)", x.often(0), 0);
        due("often(4)", x.often(4), -1);
        due("often(-1)", x.often(-1), -1);
        due("warm() without a room", new LostPlaces().warm(), -1);
        due("often(0) without a room", new LostPlaces().often(0), -1);
        LostPlaces floor = Check.room("s;p;et9");
        floor.go(1);
        due("warm(), the floor is no seat", floor.warm(), -1);
        due("often(0)", floor.often(0), 1);
        LostPlaces fro = Check.room("sx0;sx1;ps0;et99", "y:m/2*2=m&x=0|m/2*2<m&x=1?9;y:1");
        fro.go(60);
        fro.go(30);
        due("often(0) of the latest 60", fro.often(0), 60);
        due("warm()", fro.warm(), 0);
    }

    private static void promise36() {
        LostPlaces x = Check.room("sw9;sw5;ps0;ps1;et9");
        due("even() at first", x.even(), 0);
        x.go(2);
        due("even()", x.even(), 8);
        x.swap(0, 1);
        x.up(1, 9);
        due("even() of one away too", x.even(), 8);
        due("even() of one", Check.room("s;p").even(), 0);
        due("even() without a room", new LostPlaces().even(), -1);
    }

    private static void promise39() {
        LostPlaces x = Check.room("sw9;s;s;ps0;ps1;g;ef7t9", "y:w");
        x.restless(5);
        Check.feed(x, "sss");
        x.up(0, 2);
        x.go(2);
        x.tells(0, 0);
        int[] counts = {3, 2, 1, 1, 3, 0, 2, 9, 7, 5, 0, 3, 1};
        for (int what = 0; what < counts.length; what++) due("count(" + what + ")", x.count(what), counts[what]);
        due("count(13)", x.count(13), HIDDEN);
        due("count(-1)", x.count(-1), HIDDEN);
        LostPlaces none = new LostPlaces();
        Check.taste(none, "y:1");
        none.restless(3);
        Check.feed(none, "s;");
        int[] without = {0, 0, 0, 1, 2, 0, 0, 0, 0, 3, 0, 0, 0};
        for (int what = 0; what < without.length; what++) due("count(" + what + ")", none.count(what), without[what]);
    }
}
