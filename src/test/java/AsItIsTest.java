/** Promises 6 to 11: seats, sitters, goings, the taste that holds, restless, likings. */
public final class AsItIsTest {
    private static final String ROOM = "sw20f3x7;s;ps1q9b4k2;p;gp1m4d5;g;ef7t9";

    public static void main(String[] args) {
        promise6();
        promise7();
        promise8();
        promise9();
        promise10();
        promise11();
        promise11Numbers();
        promise11Conditions();
        Check.close();
    }

    private static void due(String call, long got, long want) {
        Check.due(call, got, want);
    }

    private static void promise6() {
        LostPlaces x = Check.room(ROOM);
        int[] first = {20, 3, 7, -1, -1, -1};
        int[] second = {10, 0, 0, 0, -1, -1};
        for (int what = 0; what < 6; what++) {
            due("seat(0, " + what + ")", x.seat(0, what), first[what]);
            due("seat(1, " + what + ")", x.seat(1, what), second[what]);
        }
        for (int seat : new int[] {-1, 2, 8, Integer.MIN_VALUE}) due("seat(" + seat + ", 0)", x.seat(seat, 0), -1);
        due("seat(0, 6)", x.seat(0, 6), -1);
        due("seat(0, -1)", x.seat(0, -1), -1);
        x.up(0, 3);
        due("seat(1, 3), its sitter up", x.seat(1, 3), -1);
        due("seat(1, 4), its sitter up", x.seat(1, 4), 0);
        due("seat(1, 5), its sitter up", x.seat(1, 5), 2);
    }

    private static void promise7() {
        LostPlaces x = Check.room(ROOM);
        int[] first = {1, -1, 9, 4, 2, 0};
        int[] second = {-1, -1, 5, 1, 0, 0};
        for (int what = 0; what < 6; what++) {
            due("sitter(0, " + what + ")", x.sitter(0, what), first[what]);
            due("sitter(1, " + what + ")", x.sitter(1, what), second[what]);
        }
        Check.throwsNoSuch(x, 2, 0);
        Check.throwsNoSuch(x, -1, 0);
        Check.throwsNoSuch(x, 0, 6);
        Check.throwsNoSuch(x, 0, -1);
        Check.throwsNoSuch(x, Integer.MAX_VALUE, Integer.MIN_VALUE);
        x.up(0, 3);
        due("sitter(0, 0), up", x.sitter(0, 0), -2);
        due("sitter(0, 1), up", x.sitter(0, 1), 3);
        x.go(1);
        due("sitter(1, 0), moved up", x.sitter(1, 0), 0);
        due("sitter(1, 5), a minute later", x.sitter(1, 5), 20);
    }

    private static void promise8() {
        LostPlaces x = Check.room(ROOM);
        int[] first = {1, 4, 5};
        int[] second = {0, 1, 2};
        for (int what = 0; what < 3; what++) {
            due("going(0, " + what + ")", x.going(0, what), first[what]);
            due("going(1, " + what + ")", x.going(1, what), second[what]);
        }
        due("going(2, 0)", x.going(2, 0), -1);
        due("going(-1, 0)", x.going(-1, 0), -1);
        due("going(0, 3)", x.going(0, 3), -1);
        due("going(0, -1)", x.going(0, -1), -1);
    }

    private static void promise9() {
        LostPlaces x = Check.room("s;p");
        Check.due("taste(0) of none", x.taste(0), false);
        Check.due("taste(-1)", x.taste(-1), true);
        Check.feed(x, "y:5");
        x.text(1);
        due("a taste told does not hold yet", x.likes(0, 0), 10);
        Check.due("taste(0)", x.taste(0), true);
        due("likes by it", x.likes(0, 0), 5);
        Check.due("taste(0) again", x.taste(0), true);
        Check.due("taste(1)", x.taste(1), false);
        Check.due("taste(-2)", x.taste(-2), false);
        due("it still holds", x.count(5), 0);
        Check.due("taste(-1)", x.taste(-1), true);
        due("none holds", x.count(5), -1);
        due("likes by none", x.likes(0, 0), 10);
    }

    private static void promise10() {
        LostPlaces x = new LostPlaces();
        Check.due("restless(0), as it is", x.restless(0), false);
        Check.due("restless(-1)", x.restless(-1), false);
        Check.due("restless(100)", x.restless(100), false);
        Check.due("restless(99)", x.restless(99), true);
        due("count(9)", x.count(9), 99);
        Check.due("restless(99), as it is", x.restless(99), false);
        Check.due("restless(0)", x.restless(0), true);
    }

    private static void promise11() {
        LostPlaces x = Check.room("sw20f5x7;sw99f99;ps0q9;pq3;ef2t9");
        due("likes(0, 0)", x.likes(0, 0), 20);
        due("likes of the floor", x.likes(0, -1), 0);
        due("likes(2, 0)", x.likes(2, 0), -1000000);
        due("likes(-1, 0)", x.likes(-1, 0), -1000000);
        due("likes(0, 2)", x.likes(0, 2), -1000000);
        due("likes(0, -2)", x.likes(0, -2), -1000000);
        x.go(1);
        due("likes ahead of the film", x.likes(0, 0), 20);
        x.go(1);
        due("likes in the film", x.likes(0, 0), 25);
        due("likes in the film", x.likes(1, 1), 198);
        letter(x, "y:q*10+p", 90, 31);
        letter(x, "y:w*10+f", 205, 205);
        Check.due("end", x.end(0), true);
        letter(x, "y:x", 7, 7);
        letter(x, "y:m", 2, 2);
        x.go(7);
        due("likes at the end", x.likes(0, 0), 9);
        LostPlaces early = Check.room("sw20f5;p;ef1t9", "y:f+1");
        due("f ahead of the film", early.likes(0, 0), 1);
        early.go(1);
        due("f in the film", early.likes(0, 0), 6);
    }

    private static void letter(LostPlaces x, String taste, int first, int second) {
        Check.taste(x, taste);
        due("likes(0, 0) by " + taste, x.likes(0, 0), first);
        due("likes(1, 0) by " + taste, x.likes(1, 0), second);
    }

    /** What the one sitter likes the one seat (w 20, x 7, q 9), by a taste. */
    private static void likes(String taste, int want) {
        due("likes by " + taste, Check.room("sw20x7;pq9", taste).likes(0, 0), want);
    }

    private static void promise11Numbers() {
        likes("y:999", 999);
        likes("y:1000", 999);
        likes("y:0-1", 0);
        likes("y:1-2-3+10", 6);
        likes("y:2*3/4*5", 5);
        likes("y:2+3*4", 14);
        likes("y:[2+3]*4", 20);
        likes("y:100-[10-[3-1]]", 92);
        likes("y:7/0+3", 3);
        likes("y:[0-7]/2+9", 6);
        likes("y:9999*9999/9999", 100);
        likes("y:[0-9999]*9999/9999+300", 200);
        likes("y:9999*100+9999*100-9999*100", 1000000 - 999900);
        likes("y:[0-9999*100-9999*100+9999*100+999]", 899);
        likes("y: w / x * q ", 18);
    }

    private static void promise11Conditions() {
        likes("y:w=20?1;y:2", 1);
        likes("y:w<20?1;y:w>20?2;y:w>19&w<21?3;y:4", 3);
        likes("y:w=1?1;y:w=2?2", 0);
        likes("y:w=20|w=1&w=2?1;y:2", 1);
        likes("y:(w=20|w=1)&w=2?1;y:2", 2);
        likes("y:!w=1&x=7?1;y:2", 1);
        likes("y:!(w=1|x=7)?1;y:2", 2);
        likes("y:!!w=20?1;y:2", 1);
        likes("y:!w=20|x=7?1;y:2", 1);
        likes("y:w+1=x*3?1;y:2", 1);
        likes("y:5;y:6", 5);
        likes("y:w=20?3;y:w=20?4", 3);
    }
}
