/** Promises 19 to 24, 27 and 29: what would be. */
public final class AheadTest {
    // each minute is liked less than the one ahead of it
    private static final String LESS = "y:9-m";
    private static final int HIDDEN = -1000000;

    public static void main(String[] args) {
        promise19();
        promise20();
        promise21();
        promise22();
        promise23();
        promise24();
        promise27();
        promise29();
        nothingChanges();
        Check.close();
    }

    private static void due(String call, long got, long want) {
        Check.due(call, got, want);
    }

    private static void promise19() {
        LostPlaces x = Check.room("sw9f2;sw5;ps0;ps1;gm1d2;ef3t5");
        int[][] where = {{0, 0, -2, -2, 1, 1}, {1, 1, 0, 0, 0, 0}};
        int[][] joy = {{0, 9, 9, 9, 14, 19}, {0, 5, 14, 23, 34, 45}};
        for (int p = 0; p < 2; p++) {
            for (int n = 0; n <= 5; n++) {
                due("ahead(" + p + ", " + n + ", 0)", x.ahead(p, n, 0), where[p][n]);
                due("ahead(" + p + ", " + n + ", 1)", x.ahead(p, n, 1), joy[p][n]);
            }
        }
        due("ahead(0, 6, 0)", x.ahead(0, 6, 0), HIDDEN);
        due("ahead(0, -1, 0)", x.ahead(0, -1, 0), HIDDEN);
        due("ahead(2, 0, 0)", x.ahead(2, 0, 0), HIDDEN);
        due("ahead(-1, 0, 0)", x.ahead(-1, 0, 0), HIDDEN);
        due("ahead(0, 0, 2)", x.ahead(0, 0, 2), HIDDEN);
        due("ahead(0, 0, -1)", x.ahead(0, 0, -1), HIDDEN);
        x.restless(99);
        due("minutes by hand, not restless ones", x.ahead(1, 5, 1), 45);
        x.go(5);
        due("ahead(0, 0, 1) at the end", x.ahead(0, 0, 1), 19);
        due("ahead(0, 1, 1) at the end", x.ahead(0, 1, 1), HIDDEN);
        LostPlaces far = Check.room("s;ps0;et99");
        due("ahead(0, 99, 1)", far.ahead(0, 99, 1), 990);
    }

    private static void promise20() {
        LostPlaces x = Check.room("sw9;sw5;sw1;ps0;ps1;ps2k1;pq9;et2");
        due("chain(0, 0)", x.chain(0, 0), 1);
        due("chain(0, 1)", x.chain(0, 1), 3);
        LostPlaces near = Check.room("sw9x0;sw5x1;sw1x2;ps0;ps1;ps2k1;p;et2");
        due("chain(0, 0)", near.chain(0, 0), 3);
        due("chain(0, 1)", near.chain(0, 1), 1);
        due("chain(1, 0)", near.chain(1, 0), 2);
        due("chain(1, 1)", near.chain(1, 1), 2);
        due("chain(2, 0), kept", near.chain(2, 0), 0);
        due("chain(2, 1), kept", near.chain(2, 1), -1);
        due("chain(3, 0), on the floor", near.chain(3, 0), HIDDEN);
        due("chain(4, 0)", near.chain(4, 0), HIDDEN);
        due("chain(-1, 0)", near.chain(-1, 0), HIDDEN);
        due("chain(0, 2)", near.chain(0, 2), HIDDEN);
        due("chain(0, -1)", near.chain(0, -1), HIDDEN);
        due("chain(0, 2)", near.chain(0, 2), HIDDEN);
        near.go(1);
        due("chain(1, 0), a minute left", near.chain(1, 0), 2);
        near.up(0, 2);
        due("chain(0, 0), away", near.chain(0, 0), HIDDEN);
        near.go(1);
        due("chain(1, 0) at the end", near.chain(1, 0), HIDDEN);
        LostPlaces moved = Check.room("sw9;sw5;p;ps1;et5");
        moved.go(1);
        due("moves there were do not count", moved.chain(1, 0), 1);
    }

    private static void promise21() {
        LostPlaces x = Check.room("s;ps0;et5", LESS);
        due("when(0, 1, 30, 0)", x.when(0, 1, 30, 0), 4);
        due("when(0, 1, 30, 1)", x.when(0, 1, 30, 1), 30);
        due("when(0, 1, 2, 0)", x.when(0, 1, 2, 0), 1);
        due("when(0, 1, 2, 1)", x.when(0, 1, 2, 1), 27);
        due("when(0, 9, 3, 1)", x.when(0, 9, 3, 1), 17);
        due("when(0, 1, 1, 0)", x.when(0, 1, 1, 0), 0);
        due("when(0, 0, 1, 0)", x.when(0, 0, 1, 0), HIDDEN);
        due("when(0, 10, 1, 0)", x.when(0, 10, 1, 0), HIDDEN);
        due("when(0, 1, 0, 0)", x.when(0, 1, 0, 0), HIDDEN);
        due("when(0, 1, 31, 0)", x.when(0, 1, 31, 0), HIDDEN);
        due("when(1, 1, 1, 0)", x.when(1, 1, 1, 0), HIDDEN);
        due("when(0, 1, 1, 2)", x.when(0, 1, 1, 2), HIDDEN);
        x.go(2);
        due("when(0, 1, 1, 0)", x.when(0, 1, 1, 0), 2);
        due("when(0, 1, 1, 1)", x.when(0, 1, 1, 1), 28);
        x.go(2);
        due("when(0, 1, 9, 0), a minute left", x.when(0, 1, 9, 0), 4);
        x.go(1);
        due("when(0, 1, 1, 0) at the end", x.when(0, 1, 1, 0), HIDDEN);
        LostPlaces alike = Check.room("s;ps0;et5");
        due("the first of several", alike.when(0, 1, 30, 0), 0);
        due("the joy of each", alike.when(0, 1, 30, 1), 40);
        // by going at once it is still away when it would have to go for nine minutes
        LostPlaces told = Check.room("s;ps0;gm1d9;et5", LESS);
        due("when(0, 1, 30, 0)", told.when(0, 1, 30, 0), 0);
        due("when(0, 1, 30, 1)", told.when(0, 1, 30, 1), 26);
        // behind the going told for the same minute, not ahead of it
        LostPlaces behind = Check.room("s;ps0;gm0d1;et5", LESS);
        due("when(0, 9, 1, 1)", behind.when(0, 9, 1, 1), 26);
    }

    private static void promise22() {
        LostPlaces x = Check.room("sw9;sw5;ps0k5;ps1;gm1d1;et4");
        due("keeping(0, 0)", x.keeping(0, 0), 0);
        due("keeping(0, 1)", x.keeping(0, 1), 8);
        due("keeping(0, 9)", x.keeping(0, 9), 8);
        due("keeping(1, 9)", x.keeping(1, 9), 0);
        due("keeping(0, 10)", x.keeping(0, 10), HIDDEN);
        due("keeping(0, -1)", x.keeping(0, -1), HIDDEN);
        due("keeping(2, 0)", x.keeping(2, 0), HIDDEN);
        due("keeping(-1, 0)", x.keeping(-1, 0), HIDDEN);
        due("it keeps what it did", x.sitter(0, 4), 5);
        x.go(4);
        due("keeping(0, 9) at the end", x.keeping(0, 9), 0);
    }

    private static void promise23() {
        LostPlaces x = Check.room("sw5;sw9;sw9;sw20;ps0b50;ps3k9;et3");
        due("best(0, 0)", x.best(0, 0), 1);
        due("best(0, 1)", x.best(0, 1), 27);
        due("best(1, 0)", x.best(1, 0), 3);
        due("best(1, 1)", x.best(1, 1), 60);
        x.up(1, 2);
        due("no kept seat", x.best(0, 0), 1);
        due("best(1, 0), away", x.best(1, 0), HIDDEN);
        due("best(2, 0)", x.best(2, 0), HIDDEN);
        due("best(-1, 0)", x.best(-1, 0), HIDDEN);
        due("best(0, 2)", x.best(0, 2), HIDDEN);
        LostPlaces stays = Check.room("sw9;sw9;ps1;et3");
        due("where it is, of several", stays.best(0, 0), 1);
        LostPlaces floor = Check.room("sw9;p;et3");
        due("the floor, from which it moves up at once", floor.best(0, 0), -1);
        due("the joy by it", floor.best(0, 1), 27);
        LostPlaces slow = Check.room("sw9;pb10;et3");
        due("off the floor", slow.best(0, 0), 0);
        slow.go(3);
        due("best(0, 0) at the end", slow.best(0, 0), -1);
        due("best(0, 1) at the end", slow.best(0, 1), 0);
    }

    private static void promise24() {
        due("away in the film", Check.room("s;s;ps0;gm2d1;ef2t4").sure(0), 0);
        due("back ahead of it", Check.room("s;s;ps0;gm2d1;ef3t4").sure(0), 1);
        due("none of its minutes", Check.room("s;s;ps0;ef9t4").sure(0), 3);
        due("on the floor", Check.room("sw5;pb9;ef1t3").sure(0), 0);
        due("moved in the film", Check.room("sx0;sx1;ps0;ef1t3", "y:m*x+1").sure(0), 2);
        due("moved in it", Check.room("sx0;sx1;ps0;ef1t3", "y:m>1&x=1?9;y:5-x").sure(0), 0);
        LostPlaces x = Check.room("sx0;sx1;ps0;ef0t3", "y:m*x+1");
        due("in two of its seats", x.sure(0), 0);
        x.go(1);
        due("minutes from now on", x.sure(0), 2);
        x.go(2);
        due("none of them left", x.sure(0), 3);
        due("sure(1)", x.sure(1), -1);
        due("sure(-1)", x.sure(-1), -1);
    }

    private static void promise27() {
        LostPlaces x = Check.room("sw9;sw5;ps0q1k9;ps1q7;pq9b99;et3");
        due("broken(0)", x.broken(0), -1);
        due("broken(1)", x.broken(1), 1);
        due("broken(2)", x.broken(2), 0);
        due("broken(3)", x.broken(3), HIDDEN);
        due("broken(-1)", x.broken(-1), HIDDEN);
        x.up(2, 2);
        due("broken(0)", x.broken(0), 1);
        due("broken(1)", x.broken(1), 0);
        due("broken(2), away for longer", x.broken(2), -2);
        x.go(1);
        due("broken(0), two minutes left", x.broken(0), -1);
        due("broken(2), back with the others, the quickest", x.broken(2), 0);
        x.go(1);
        due("broken(0), the end is next", x.broken(0), HIDDEN);
        x.go(1);
        due("broken(0), the end", x.broken(0), HIDDEN);
        // who comes back in this minute finds all seats left, but those kept for others
        LostPlaces back = Check.room("sw9;sw5;sw1;ps0;ps1;ps2;et9");
        back.up(2, 1);
        back.go(1);
        due("broken(2)", back.broken(2), 0);
        due("broken(0)", back.broken(0), 1);
        due("broken(1)", back.broken(1), 2);
        // (4) of the next minute: who is slow to come back moves up behind those who went again
        LostPlaces again = Check.room("sw9;sw5;ps0q9;ps1;gm1d3;et9");
        due("it is away when it would go", again.broken(0), 0);
    }

    private static void promise29() {
        LostPlaces x = Check.room("sw9;sw5;ps0;ps1;gm1d2;et6");
        due("rule(0)", x.rule(0), 2);
        due("rule(1)", x.rule(1), 0);
        due("rule(2)", x.rule(2), -1);
        due("rule(-1)", x.rule(-1), -1);
        due("they keep what they did", x.sitter(0, 4), 0);
        x.go(2);
        due("rule(0), the going is past", x.rule(0), 0);
        due("rule(1), moves from now on alone", x.rule(1), 0);
        LostPlaces long9 = Check.room("sw9;sw5;ps0;ps1;gm1d9;et20");
        due("rule(0)", long9.rule(0), 9);
        due("rule(1)", long9.rule(1), 0);
        LostPlaces all = Check.room("sw9;sw5;ps0;p;ps1k9;gm0d1;gp2m1d2;et6");
        due("rule(1), all keep", all.rule(1), 0);
        due("rule(0), all keep", all.rule(0), 2);
        due("rule(1) without a room", new LostPlaces().rule(1), -1);
        all.go(6);
        due("rule(0) at the end", all.rule(0), 0);
        due("rule(1) at the end", all.rule(1), 0);
    }

    private static void nothingChanges() {
        LostPlaces x = Check.room("sw9;sw5;ps0k2;ps1;p;gm1d2;gp1m2d1;et9");
        x.go(1);
        x.ahead(0, 5, 0);
        x.chain(0, 0);
        x.when(0, 3, 9, 0);
        x.keeping(0, 4);
        x.best(0, 0);
        x.sure(0);
        x.call(0, 1, 0);
        x.rests(1, 0);
        x.broken(0);
        x.fair(2, 0);
        x.rule(0);
        x.been(0);
        due("the minute", x.count(6), 1);
        due("acts", x.count(11), 1);
        due("the log", x.count(10), 0);
        Check.places(x, 0, 1, -1);
        Check.joys(x, 9, 5, 0);
        x.go(1);
        due("its going is as told", x.sitter(0, 1), 3);
        x.go(1);
        due("the other one's too", x.sitter(1, 1), 3);
    }
}
