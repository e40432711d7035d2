import java.util.function.ToIntFunction;

/** Boundary cases of "A ROOM is a TEXT" and of its FAULT (Terms; promises 4 and 5). Each method is one test. */
public final class RoomTextEdgesTest {
    private static final String EIGHT_SEATS = "s;s;s;s;s;s;s;s";
    private static final String EIGHT_SITTERS = "p;p;p;p;p;p;p;p";

    public static void main(String[] args) {
        Edge.runAll(RoomTextEdgesTest.class);
    }

    private static void right(String... texts) {
        Edge.right(0, texts);
    }

    private static void wrong(Object... textsAndFaults) {
        Edge.wrong(0, textsAndFaults);
    }

    private static void early(String... textsAndRests) {
        Edge.early(0, textsAndRests);
    }

    private static void due(String call, long got, long want) {
        Check.due(call, got, want);
    }

    // ---- clauses

    // Terms: "A ROOM is a TEXT: CLAUSES with ; between"
    private static void semicolonsStandBetweenClauses() {
        right("s;p", "p;s;p;s", "s;p;g;e");
        wrong(";s;p", 0, "s;;p", 2, "s;p;;g", 4, "sp", 1, "s p", 2, "sw5p", 3, "s:p", 1, "s,p", 1, "s.p", 1);
    }

    // Terms: "CLAUSES with ; between" and FAULT "the length, if it ends too early": a ; has a CLAUSE behind it
    private static void semicolonAtTheEnd() {
        early("s;p;", "g", "s;p; ", "p", "s;", "p", "s;p;g;", "e");
    }

    // Terms: "s (a SEAT; ..), p (a SITTER; ..), g (a GOING; ..), e (the EVENING; ..)": no other letter begins a CLAUSE
    private static void noOtherLetterBeginsAClause() {
        for (int sign = 1; sign <= 255; sign++) {
            if (sign == ' ' || "spge".indexOf(sign) >= 0) continue;
            wrong((char) sign + "", 0, (char) sign + ";s;p", 0, "s;p;" + (char) sign, 4);
        }
    }

    // Terms: "in any order": of the CLAUSES
    private static void clausesInAnyOrder() {
        String[] kinds = {"s", "p", "g", "e"};
        for (int code = 0; code < 256; code++) {
            int[] picks = {code & 3, code >> 2 & 3, code >> 4 & 3, code >> 6};
            if (((1 << picks[0]) | (1 << picks[1]) | (1 << picks[2]) | (1 << picks[3])) != 15) continue;
            right(kinds[picks[0]] + ";" + kinds[picks[1]] + ";" + kinds[picks[2]] + ";" + kinds[picks[3]]);
        }
        LostPlaces x = Check.room("ps2;sw1;gp1m7;p;sw2;e;g;sw3");
        for (int s = 0; s < 3; s++) due("seat(" + s + ", 0), by the order of seats", x.seat(s, 0), s + 1);
        Check.places(x, 2, -1);
        due("going(0, 1), by the order of goings", x.going(0, 1), 7);
        due("going(1, 1)", x.going(1, 1), 1);
    }

    // Terms: "s (a SEAT; 1 .. 8)" and FAULT "the length, if it ends .. without a SEAT"
    private static void withoutASeat() {
        early("p", ";s", "p ", ";s", "g;e;p", ";s", EIGHT_SITTERS, ";s");
        due("count(0) of one seat", Check.room("s;p").count(0), 1);
    }

    // Terms: "s (a SEAT; 1 .. 8)"
    private static void eightSeats() {
        LostPlaces x = Check.room(EIGHT_SEATS + ";ps7");
        due("count(0)", x.count(0), 8);
        due("seat(7, 3)", x.seat(7, 3), 0);
    }

    // Terms: FAULT: "a ninth s .. at it"
    private static void ninthSeat() {
        wrong(EIGHT_SEATS + ";s;p", 16, EIGHT_SEATS + ";sw5;p", 16, "s;s;s;s;p;s;s;s;s;s", 18, EIGHT_SEATS + "; s", 17);
    }

    // Terms: "p (a SITTER; 1 .. 8)" and FAULT "the length, if it ends .. without .. a SITTER"
    private static void withoutASitter() {
        early("s", ";p", "s ", ";p", "s;g;e", ";p", EIGHT_SEATS, ";p");
        due("count(1) of one sitter", Check.room("s;p").count(1), 1);
    }

    // Terms: "p (a SITTER; 1 .. 8)"
    private static void eightSitters() {
        LostPlaces x = Check.room("s;" + EIGHT_SITTERS + ";gp7");
        due("count(1)", x.count(1), 8);
        due("sitter(7, 0)", x.sitter(7, 0), -1);
        Check.throwsNoSuch(x, 8, 0);
    }

    // Terms: FAULT: "a ninth .. p .. at it"
    private static void ninthSitter() {
        wrong("s;" + EIGHT_SITTERS + ";p", 18, EIGHT_SITTERS + ";p;s", 16, EIGHT_SITTERS + ";s;pq1", 18);
    }

    // Terms: "g (a GOING; none to 10)": none
    private static void noGoing() {
        LostPlaces x = Check.room("s;p;e");
        due("count(2)", x.count(2), 0);
        due("going(0, 0)", x.going(0, 0), -1);
    }

    // Terms: "g (a GOING; none to 10)": ten
    private static void tenGoings() {
        LostPlaces x = Check.room("s;p" + Edge.times(";g", 9) + ";gm8");
        due("count(2)", x.count(2), 10);
        due("going(9, 1)", x.going(9, 1), 8);
        due("going(10, 1)", x.going(10, 1), -1);
    }

    // Terms: FAULT: "an eleventh g .. at it"
    private static void eleventhGoing() {
        wrong("s;p" + Edge.times(";g", 11), 24, Edge.times("g;", 10) + "gm1;s;p", 20);
    }

    // Terms: "e (the EVENING; one at most)": without it, and with one
    private static void noEveningOrOne() {
        right("s;p", "e;s;p", "s;p;e", "s;ef1;p");
    }

    // Terms: FAULT: "a second e .. at it"
    private static void secondEvening() {
        wrong("s;p;e;e", 6, "e;s;p;e", 6, "et5;s;p;et6", 8, "e;e", 2);
    }

    // ---- items

    // Terms: "then ITEMS, none or more: a letter .. and a number", in any order
    private static void itemsNoneOrMore() {
        right("s;p;g;e", "sw1;ps0;gp0;ef1", "sw1f2x3;ps0q1b2k3;gp0m1d1;ef1t2", "sx3f2w1;pk3b2q1s0;gd1m1p0;et2f1");
        LostPlaces x = Check.room("sx3f2w1;pk3b2q1s0;gd4m5p0;et7f6");
        due("seat", x.seat(0, 0) * 100 + x.seat(0, 1) * 10 + x.seat(0, 2), 123);
        due("sitter", x.sitter(0, 0) * 1000 + x.sitter(0, 2) * 100 + x.sitter(0, 3) * 10 + x.sitter(0, 4), 123);
        due("going", x.going(0, 0) * 100 + x.going(0, 1) * 10 + x.going(0, 2), 54);
        due("evening", x.count(8) * 10 + x.count(7), 67);
    }

    // Terms: "a letter, each once at most in a CLAUSE"; FAULT: "a letter that was there .. at it"
    private static void letterThatWasThere() {
        String[] kinds = {"swfx", "psqbk", "gpmd", "eft"};
        for (String kind : kinds) {
            for (int i = 1; i < kind.length(); i++) {
                for (int k = 1; k < kind.length(); k++) {
                    String letter = kind.substring(i, i + 1);
                    String between = k == i ? "" : kind.charAt(k) + "2";
                    String text = kind.charAt(0) + letter + "1" + between;
                    wrong(text + letter + "1", text.length(), text + letter, text.length());
                }
            }
        }
        right("sw1;sw1;ps0q1;ps1q1;gm1;gm1");
    }

    // Terms: "of s: w .. f .. x", "of p: s .. q .. b .. k", "of g: p .. m .. d", "of e: f .. t": no other letters
    private static void letterOfAnotherKind() {
        String[] kinds = {"swfx", "psqbk", "gpmd", "eft"};
        for (String kind : kinds) {
            for (char sign = 1; sign <= 255; sign++) {
                boolean fits = kind.indexOf(sign, 1) >= 0 || sign == ';' || sign == ' ';
                if (!fits) wrong(kind.charAt(0) + "" + sign + "1", 1, kind.charAt(0) + kind.substring(1, 2) + "1 " + sign, 4);
            }
        }
    }

    // Terms: ITEMS: "a letter .. and a number": a letter has a number behind it
    private static void letterWithoutANumber() {
        early("sw", "1;p", "sw1f", "0;p", "s;p;gd ", "3", "s;ps", "0");
        wrong("sw;p", 2, "sw ;p", 3, "swf1", 2, "sw-1", 2, "sw+1", 2, "s;pq;", 4, "s;p;et f", 7);
    }

    // Terms: "a number (one or two digits)"
    private static void oneOrTwoDigits() {
        due("sw7", Check.room("sw7;p").seat(0, 0), 7);
        due("sw07", Check.room("sw07;p").seat(0, 0), 7);
        due("sw00", Check.room("sw00;p").seat(0, 0), 0);
        due("sw70", Check.room("sw70;p").seat(0, 0), 70);
        due("gd09", Check.room("s;p;gd09").going(0, 2), 9);
    }

    // Terms: FAULT: "a third digit (whatever stands ahead of it ..) itself"
    private static void thirdDigit() {
        wrong("sw100", 4, "sw000", 4, "sw990;p", 4, "sf0000", 4, "s;p;em001", 5);
        String[] ahead = {"sw", "sf", "sx", "s;ps", "s;pq", "s;pb", "s;pk", "s;p;gp", "s;p;gm", "s;p;gd", "s;p;ef", "s;p;et"};
        for (String start : ahead) {
            for (String digits : new String[] {"00", "01", "10", "20", "99"}) {
                wrong(start + digits + "0", start.length() + 2, start + digits + "5;g", start.length() + 2);
            }
        }
    }

    // Terms: FAULT: "a number out of bounds is wrong at its last digit": each number of one digit and of two
    private static void number(String ahead, int least, int most, ToIntFunction<LostPlaces> told) {
        for (int v = 0; v <= 99; v++) {
            for (int digits = v < 10 ? 1 : 2; digits <= 2; digits++) {
                String text = ahead + (digits == 2 && v < 10 ? "0" : "") + v;
                int last = text.length() - 1;
                if (v >= least && v <= most) {
                    LostPlaces x = Check.room(text);
                    due(text, told.applyAsInt(x), v);
                    right(text + " ");
                } else {
                    // a first digit alone may be out of bounds and yet go on: the fault is at the last one there is
                    wrong(text, last, text + " ", last, text + ";", last);
                }
            }
        }
    }

    // Terms: "w WORTH (0 .. 99; ..)"
    private static void worth() {
        number("p;sw", 0, 99, x -> x.seat(0, 0));
    }

    // Terms: "f more in the FILM (0 .. 99; ..)"
    private static void moreInTheFilm() {
        number("p;sf", 0, 99, x -> x.seat(0, 1));
    }

    // Terms: "x where it STANDS (0 .. 19; ..)"
    private static void whereItStands() {
        number("p;sx", 0, 19, x -> x.seat(0, 2));
    }

    // Terms: "s its SEAT (0 .. 8; 8: the FLOOR; ..)"
    private static void seatOfASitter() {
        number(EIGHT_SEATS + ";ps", 0, 8, x -> x.sitter(0, 0) == -1 ? 8 : x.sitter(0, 0));
    }

    // Terms: "8: the FLOOR": not a ninth SEAT, and not where only one can be
    private static void eightIsTheFloor() {
        LostPlaces x = Check.room("s;ps8;p;ps08");
        Check.places(x, -1, -1, -1);
        due("seat(0, 3)", x.seat(0, 3), -1);
    }

    // Terms: "q QUICK (0 .. 9; ..)"
    private static void quick() {
        number("s;pq", 0, 9, x -> x.sitter(0, 2));
    }

    // Terms: "b STEP (1 .. 99; ..)"
    private static void step() {
        number("s;pb", 1, 99, x -> x.sitter(0, 3));
    }

    // Terms: "k KEEPS (0 .. 9 minutes; ..)"
    private static void keeps() {
        number("s;pk", 0, 9, x -> x.sitter(0, 4));
    }

    // Terms: "p the SITTER (0 .. 7; ..)"
    private static void sitterOfAGoing() {
        number("s;" + EIGHT_SITTERS + ";gp", 0, 7, x -> x.going(0, 0));
    }

    // Terms: "m MINUTE (0 .. 99; ..)"
    private static void minuteOfAGoing() {
        number("s;p;gm", 0, 99, x -> x.going(0, 1));
    }

    // Terms: "d how LONG (1 .. 9; ..)"
    private static void howLong() {
        number("s;p;gd", 1, 9, x -> x.going(0, 2));
    }

    // Terms: "f MINUTE in which the FILM begins (0 .. 99; ..)"
    private static void minuteOfTheFilm() {
        number("s;p;ef", 0, 99, x -> x.count(8));
    }

    // Terms: "t END (1 .. 99; ..)"
    private static void minuteOfTheEnd() {
        number("s;p;et", 1, 99, x -> x.count(7));
    }

    // Terms: "w WORTH (..; 10 without), f .. (..; 0), x .. (..; 0)"
    private static void untoldOfASeat() {
        LostPlaces x = Check.room("sw5f6x7;s;p");
        due("seat(1, 0)", x.seat(1, 0), 10);
        due("seat(1, 1)", x.seat(1, 1), 0);
        due("seat(1, 2)", x.seat(1, 2), 0);
    }

    // Terms: "s its SEAT (..; 8), q QUICK (..; 5), b STEP (..; 1), k KEEPS (..; 0)"
    private static void untoldOfASitter() {
        LostPlaces x = Check.room("s;ps0q7b8k9;p");
        due("sitter(1, 0)", x.sitter(1, 0), -1);
        due("sitter(1, 2)", x.sitter(1, 2), 5);
        due("sitter(1, 3)", x.sitter(1, 3), 1);
        due("sitter(1, 4)", x.sitter(1, 4), 0);
    }

    // Terms: "p the SITTER (..; 0), m MINUTE (..; 1), d how LONG (..; 2)"
    private static void untoldOfAGoing() {
        LostPlaces x = Check.room("s;p;p;gp1m7d8;g");
        due("going(1, 0)", x.going(1, 0), 0);
        due("going(1, 1)", x.going(1, 1), 1);
        due("going(1, 2)", x.going(1, 2), 2);
    }

    // Terms: "f MINUTE in which the FILM begins (..; 20), t END (..; 60)": without a number, and without an EVENING
    private static void untoldOfTheEvening() {
        LostPlaces x = Check.room("s;p;et7f8");
        for (String text : new String[] {"s;p;e", "s;p"}) {
            Check.addRoom(x, text);
            due("count(8) of " + text, x.count(8), 20);
            due("count(7) of " + text, x.count(7), 60);
        }
        Check.addRoom(x, "s;p;ef3");
        due("count(7), the film told alone", x.count(7), 60);
        Check.addRoom(x, "s;p;et3");
        due("count(8), the end told alone", x.count(8), 20);
    }

    // ---- blanks

    // Terms: "Blanks (32) may stand between all signs of both"
    private static void blanksBetweenAllSigns() {
        String[] signs = "s w 5 f 6 x 7 ; p s 0 q 1 b 2 k 3 ; g p 0 m 4 d 5 ; e f 6 t 7".split(" ");
        for (int blanks = 0; blanks <= 3; blanks++) {
            String gap = Edge.times(" ", blanks);
            LostPlaces x = Check.room(gap + String.join(gap, signs) + gap);
            due("seat", x.seat(0, 0) * 100 + x.seat(0, 1) * 10 + x.seat(0, 2), 567);
            due("sitter", x.sitter(0, 0) * 1000 + x.sitter(0, 2) * 100 + x.sitter(0, 3) * 10 + x.sitter(0, 4), 123);
            due("going", x.going(0, 0) * 100 + x.going(0, 1) * 10 + x.going(0, 2), 45);
            due("evening", x.count(8) * 10 + x.count(7), 67);
        }
        for (int i = 0; i <= signs.length; i++) {
            StringBuilder one = new StringBuilder();
            for (int k = 0; k < signs.length; k++) one.append(k == i ? " " : "").append(signs[k]);
            right(one + (i == signs.length ? " " : ""));
        }
    }

    // Terms: "Blanks (32) may stand .. not within numbers"
    private static void noBlanksWithinNumbers() {
        wrong("sw1 0;p", 4, "sw1  0;p", 5, "s;p;et 6 0", 9, "s;pb0 5", 4);
    }

    // Terms: "Blanks (32)": no other byte is one
    private static void nothingElseIsABlank() {
        for (int sign = 1; sign <= 255; sign++) {
            if (sign == ' ' || ";wfx".indexOf(sign) >= 0) continue;
            wrong("s" + (char) sign + ";p", 1);
        }
        right("s ;p");
    }

    // ---- what ends too early

    // Terms: FAULT: "the length, if it ends too early": nothing at all, and blanks alone
    private static void nothingAtAll() {
        early("", "s;p", " ", "s;p", "   ", "s;p");
    }

    // Terms: FAULT: "the length, if it ends .. with two SITTERS on one SEAT"
    private static void twoSittersOnOneSeat() {
        wrong("s;ps0;ps0", 9, "s;ps0;ps0 ", 10, "ps0;ps0;s;e", 11, "s;s;ps1;ps0;ps1", 15, "s;ps0;ps0;s;p", 13);
        wrong(EIGHT_SEATS + ";ps7;ps7", 23, "s;ps0;p;ps00", 12);
        right("s;s;ps0;ps1", "s;s;ps1;ps0", EIGHT_SEATS + ";ps6;ps7");
    }

    // Terms: FAULT "two SITTERS on one SEAT": the FLOOR is none
    private static void manySittersOnTheFloor() {
        right("s;ps8;ps8", "s;p;p", EIGHT_SEATS + ";ps8;ps8;ps8;ps8;ps8;ps8;ps8;ps8");
    }

    // Terms: FAULT: "the length, if it ends .. with a SEAT .. that is not told"
    private static void seatThatIsNotTold() {
        early("s;ps1", ";s", "ps1;s", ";s", "s;ps7", ";s;s;s;s;s;s;s", "s;s;s;s;s;s;s;ps7", ";s", "s;ps1 ", ";s");
        early("ps0", ";s", "ps3;ps2;s;s;s", ";s");
    }

    // Terms: FAULT: "the length, if it ends .. with .. a SITTER that is not told"
    private static void sitterThatIsNotTold() {
        early("s;p;gp1", ";p", "gp1;s;p", ";p", "s;p;gp7", ";p;p;p;p;p;p;p", "s;p;p;p;p;p;p;p;gp7 ", ";p", "s;p;g;gp2;p", ";p");
    }

    // Terms: FAULT: "the first byte at which no such TEXT can go on": of several the first, ahead of what is not told
    private static void firstOfSeveral() {
        wrong("s;x;sw100", 2, "sx20f100", 3, "s;ps0;ps0;q", 10, "s;ps5;gp7w", 9, "s;p;e;gd0;e", 8);
    }

    // Promise 4: "The FAULT of the TAPE as a ROOM": a whole tape of 240 bytes
    private static void fullTape() {
        right("s;p" + Edge.times(" ", 237), Edge.times(" ", 237) + "s;p");
        wrong(Edge.times(" ", 240), 240, Edge.times(" ", 239) + "s", 240, Edge.times(" ", 239) + "x", 239);
    }

    // Promise 5: "The TAPE .. is the ROOM .. how many SITTERS": one to eight
    private static void howManySitters() {
        for (int n = 1; n <= 8; n++) {
            LostPlaces x = new LostPlaces();
            Check.feed(x, "s" + Edge.times(";p", n));
            due("text(0) of " + n, x.text(0), n);
        }
    }
}
