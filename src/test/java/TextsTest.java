/** Promises 1 to 5: a new object, the tape, faults, texts. */
public final class TextsTest {
    public static void main(String[] args) {
        promise1();
        promise2();
        promise3();
        promise4Rooms();
        promise4RoomNumbers();
        promise4RoomWholes();
        promise4Tastes();
        promise4Conditions();
        promise4Depth();
        promise5Rooms();
        promise5Refused();
        promise5Tastes();
        Check.close();
    }

    private static void due(String call, long got, long want) {
        Check.due(call, got, want);
    }

    private static void promise1() {
        LostPlaces x = new LostPlaces();
        int[] counts = {0, 0, 0, 0, 0, -1, 0, 0, 0, 0, 0, 0, 0};
        for (int what = 0; what < counts.length; what++) due("new: count(" + what + ")", x.count(what), counts[what]);
        due("new: go(1)", x.go(1), -1);
        due("new: winter(1, 1)", x.winter(1, 1L), -1);
        due("new: undo()", x.undo(), -1);
        due("new: seat(0, 0)", x.seat(0, 0), -1);
        due("new: going(0, 0)", x.going(0, 0), -1);
        Check.throwsNoSuch(x, 0, 0);
        due("new: back()", x.back(), -1);
        due("new: tells(0, -1)", x.tells(0, -1), -1);
    }

    private static void promise2() {
        LostPlaces x = new LostPlaces();
        due("feed of s;p between bytes of 0", x.feed(0x00730000, 0x3b, 0, 0x70000000, 0), 3);
        due("its fault", x.fault(0), -1);
        due("feed of zeros", x.feed(0, 0, 0, 0, 0), 3);
        due("feed of bytes above 127", x.feed(-1, -1, -1, -1, -1), 23);
        due("its fault", x.fault(0), 3);
        x.end(0);
        for (int i = 1; i <= 11; i++) due("feed", x.feed(0x20202020, 0x20202020, 0x20202020, 0x20202020, 0x20202020), 20 * i);
        due("feed of s;p", x.feed(0x733b7020, 0x20202020, 0x20200000, 0, 0), 230);
        due("feed beyond 240", x.feed(0x21212121, 0x21212121, 0x21210000, 0x21, 0), -1);
        due("nothing of it is there", x.count(4), 230);
        due("feed up to 240", x.feed(0x20202020, 0x20202020, 0x20200000, 0, 0), 240);
        due("feed of one more", x.feed(0, 0, 0, 0, 1), -1);
        due("feed of none", x.feed(0, 0, 0, 0, 0), 240);
        due("its fault", x.fault(0), -1);
        due("text(0)", x.text(0), 1);
    }

    private static void promise3() {
        LostPlaces x = new LostPlaces();
        Check.due("end(0) of nothing", x.end(0), true);
        Check.due("end(1) of nothing", x.end(1), false);
        Check.due("end(-1)", x.end(-1), false);
        Check.feed(x, "s;p;q");
        Check.due("end(6) of 5", x.end(6), false);
        due("it has 5", x.count(4), 5);
        Check.due("end(5) of 5", x.end(5), true);
        Check.due("end(3) of 5", x.end(3), true);
        due("it has 3", x.count(4), 3);
        due("the first ones", x.fault(0), -1);
        Check.due("end(4) of 3", x.end(4), false);
    }

    private static void rooms(Object... textsAndFaults) {
        faults(0, textsAndFaults);
    }

    private static void tastes(Object... textsAndFaults) {
        faults(1, textsAndFaults);
    }

    private static void faults(int sort, Object... textsAndFaults) {
        for (int i = 0; i + 1 < textsAndFaults.length; i += 2) {
            String text = (String) textsAndFaults[i];
            due("fault(" + sort + ") of \"" + text + "\"", Check.fault(text, sort), (Integer) textsAndFaults[i + 1]);
        }
    }

    private static void promise4Rooms() {
        rooms("", 0, "   ", 3, "s;p", -1, "p;s", -1, " s ; p ", -1, "s;p;", 4, "s;p; ", 5, "s;;p", 2, ";s;p", 0,
                "S;p", 0, "s:p", 1, "s p", 2, "s,p", 1, "y:w", 0, "s5;p", 1, "sw;p", 2, "sw ;p", 3, "sw", 2, "swf", 2,
                "sw5f;p", 4, "sw5f6x7;p", -1, "sx7f6w5;p", -1, "sw1w2;p", 3, "s;pq1s8q2", 7, "s;pp", 3, "s;pw1", 3,
                "s;p;gg", 5, "s;p;gw1", 5, "s;p;ew1", 5, "s;p;et9f9t9", 9, "s;p;e", -1, "e;p;g;s", -1,
                "s;p\t", 3, "s;p" + (char) 200, 3, "s;p;e;g;e", 8, "e;e;s;p", 2,
                "s;s;s;s;s;s;s;s;p", -1, "s;s;s;s;s;s;s;s;s;p", 16, "s;p;p;p;p;p;p;p;p", -1, "s;p;p;p;p;p;p;p;p;p", 18,
                "s;p;g;g;g;g;g;g;g;g;g;g", -1, "s;p;g;g;g;g;g;g;g;g;g;g;g", 24, "s w 5 x 7 ; p q 9", -1);
        due("fault(-1)", Check.fault("s;p", -1), -2);
        due("fault(2)", Check.fault("s;p", 2), -2);
    }

    private static void promise4RoomNumbers() {
        rooms("sw0f0x0;p", -1, "sw99f99x19;p", -1, "sw5 5;p", 4, "sw05;p", -1, "sw005;p", 4, "sw990;p", 4,
                "sw100", 4, "sx20;p", 3, "sx20", 3, "sx2", 3, "sx200", 4, "sx99 ", 3, "sx19;p", -1, "sf100;p", 4,
                "s;ps8q9b99k9", -1, "s;ps9", 4, "s;ps08", -1, "s;ps18", 5, "s;ps99;", 5, "s;ps999", 6, "s;pq10", 5,
                "s;pb0", 4, "s;pb0 5", 4, "s;pb00", 5, "s;pb01", -1, "s;pb001", 6, "s;pb99", -1, "s;pk10", 5, "s;pk9", -1,
                "s;p;gp8", 6, "s;p;gp08", 7, "s;p;gm99d9", -1, "s;p;gm100", 8, "s;p;gd0", 6, "s;p;gd10", 7, "s;p;gd09", -1,
                "s;p;ef0t1", -1, "s;p;ef99t99", -1, "s;p;et0", 6, "s;p;et00", 7, "s;p;et100", 8, "s;p;ef100", 8);
    }

    private static void promise4RoomWholes() {
        rooms("s", 1, "p", 1, "g;e", 3, "s;s ", 4, "s;ps0", -1, "s;ps1", 5, "s;s;ps1", -1, "s;ps1;s", -1, "ps0;s", -1,
                "s;s;s;s;s;s;s;s;ps7", -1, "s;s;s;s;s;s;s;ps7 ", 18, "s;s;s;s;s;s;s;s;ps8;p", -1,
                "s;ps0;ps0", 9, "s;ps0;ps0;s ", 12, "s;ps8;ps8;p", -1, "s;s;ps0;ps1", -1, "s;s;ps1;ps0;ps1", 15,
                "s;p;gp0", -1, "s;p;gp1", 7, "s;p;gp1;p", -1, "s;gp7", 5);
    }

    private static void promise4Tastes() {
        tastes("", 0, "  ", 2, "y", 1, "y:", 2, "y:w", -1, " y : w ", -1, "x:w", 0, "yw", 1, "y;", 1, "y:w;", 4,
                "y:w;;", 4, "y:w; y:f", -1, "y:w;x:f", 4, "y:w y:f", 4, "y:;y:w", 2, "s;p", 0,
                "y:0", -1, "y:1234", -1, "y:0000", -1, "y:12345", 6, "y:00001", 6, "y:99999", 6, "y:12 34", 5,
                "y:w+f-x*q/m+p", -1, "y:w+", 4, "y:+w", 2, "y:-1", 2, "y:w+-1", 4, "y:w*/1", 4, "y:w f", 4, "y:1w", 3,
                "y:a", 2, "y:y", 2, "y:s", 2, "y:[w]", -1, "y:[w+1]*2", -1, "y:[w", 4, "y:[w)", 4, "y:[]", 3, "y:w]", 3,
                "y:w)", 3, "y:[w;y:1", 4, "y:[1]2", 5, "y:" + (char) 255, 2);
        due("fault(1) behind fault(0)", Check.fault("y:w", 1), -1);
    }

    private static void promise4Conditions() {
        tastes("y:w?1", 3, "y:w=1", 5, "y:w>1;", 5, "y:w=1?", 6, "y:w=1?1", -1, "y:w<1?1;y:2", -1, "y:w=1=1?1", 5,
                "y:w==1", 4, "y:w=1+1*2?1", -1, "y:1+w=1?1", -1, "y:w=1&f>2|x<3?m", -1, "y:w&", 3, "y:w|f", 3,
                "y:w=1&w?1", 7, "y:w=1&w;", 7, "y:w=1|", 6, "y:w=1&&", 6, "y:?1", 2, "y:=1", 2, "y:w=?1", 4,
                "y:(w=1)?1", -1, "y:(w=1)", 7, "y:(w=1);", 7, "y:(w)", 4, "y:(w=1", 6, "y:(w=1;", 6, "y:(w=1)+1", 7,
                "y:(w=1)=1", 7, "y:(w=1]?1", 6, "y:(w=1?1", 6, "y:()", 3, "y:((w=1)|!w=2)&!(f<1)?1", -1,
                "y:w=1|(f=2&!x=3)?1", -1, "y:!w=1?2", -1, "y:!!w=1?2", -1, "y:!w", 4, "y:!w;", 4, "y:!w?1", 4, "y:!w=1", 6,
                "y:w=!1", 4, "y:1+(w)", 4, "y:w=(1)", 4, "y:1!", 3, "y:w=1?(w)", 6, "y:w=1?!w", 6, "y:w=1?w=1", 7,
                "y:w=1?1?1", 7, "y:[w=1]", 4, "y:[(w)]", 3, "y:[!w]", 3, "y:[w+1]=[2]?[3]", -1, "y:w=1)?1", 5,
                "y:w=1]?1", 5);
    }

    private static void promise4Depth() {
        tastes("y:[[[[[[w]]]]]]", -1, "y:[[[[[[[w]]]]]]]", 8, "y:[[[[[[(", 8, "y:((((((w=1))))))?1", -1, "y:(((((((", 8,
                "y:!!!!!!w=1?1", -1, "y:!!!!!!!w=1?1", 8, "y:!(!([[w]]=1))?1", -1, "y:!(!([[[w", 8, "y:!(!([[w]]=[[[", 14,
                "y:[w]+[w]+[w]+[w]+[w]+[w]+[w]+[w]", -1, "y:!w=1&!w=1&!w=1&!w=1&!w=1&!w=1&!w=1?1", -1,
                "y:!!!(!w=[1]|!w=1)?1", -1, "y:!!!(!w=[[", 10, "y:!!!(!!w=[", 10, "y:!!!!!!w=[", 10, "y:!!!!!!w=1&!w=1?[[[[[[1]]]]]]", -1,
                "y:w=1?[[[[[[[", 12);
    }

    private static void promise5Rooms() {
        LostPlaces x = new LostPlaces();
        Check.feed(x, "s;s;ps0;ps1;p");
        due("text(0)", x.text(0), 3);
        due("the tape is empty", x.count(4), 0);
        Check.feed(x, "y:w");
        x.text(1);
        x.taste(0);
        x.restless(7);
        x.go(2);
        x.image();
        x.tells(0, 0);
        Check.addRoom(x, "s;p;et9");
        int[] counts = {1, 1, 0, 1, 0, 0, 0, 9, 20, 7, 0, 0, 0};
        for (int what = 0; what < counts.length; what++) due("count(" + what + ")", x.count(what), counts[what]);
        due("no act of the room ahead", x.undo(), -1);
        due("no image of the room ahead", x.back(), -1);
        due("no joy of the room ahead", x.sitter(0, 5), 0);
        Check.places(x, -1);
    }

    private static void promise5Refused() {
        LostPlaces x = Check.room("s;ps0;et9");
        x.go(1);
        Check.feed(x, "s;ps1");
        due("text(0) with a fault", x.text(0), -1);
        due("text(1) with a fault", x.text(1), -1);
        due("text(2)", x.text(2), -1);
        due("text(-1)", x.text(-1), -1);
        due("the tape stays", x.count(4), 5);
        due("the room stays", x.count(6), 1);
        Check.places(x, 0);
        Check.joys(x, 10);
        due("undo()", x.undo(), 0);
    }

    private static void promise5Tastes() {
        LostPlaces x = new LostPlaces();
        for (int t = 0; t < 4; t++) {
            Check.feed(x, "y:" + t);
            due("text(1)", x.text(1), t);
            due("the tape is empty", x.count(4), 0);
        }
        Check.feed(x, "y:9");
        due("text(1), a fifth one", x.text(1), -1);
        due("the tape stays", x.count(4), 3);
        due("its fault", x.fault(1), -1);
        due("tastes", x.count(3), 4);
        Check.addRoom(x, "s;p");
        for (int t = 3; t >= 0; t--) {
            x.taste(t);
            due("likes by taste " + t, x.likes(0, 0), t);
        }
    }
}
