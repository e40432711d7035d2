import java.util.NoSuchElementException;

/** What the tests of the promises share: objects with a room, texts fed, answers compared. */
final class Check {
    static final int NONE = -1;
    static final int AWAY = -2;
    static final int HIDDEN = -1000000;

    private static int wrong = 0;
    private static int asked = 0;

    private Check() { }

    static void due(String call, long got, long want) {
        asked++;
        if (got == want) return;
        wrong++;
        System.out.println(call + " answered " + got + ", due is " + want);
    }

    static int asked() {
        return asked;
    }

    static int wrong() {
        return wrong;
    }

    static void due(String call, boolean got, boolean want) {
        due(call, got ? 1 : 0, want ? 1 : 0);
    }

    static void throwsNoSuch(LostPlaces x, int sitter, int what) {
        int thrown = 0;
        try {
            x.sitter(sitter, what);
        } catch (NoSuchElementException e) {
            thrown = 1;
        }
        due("sitter(" + sitter + ", " + what + ") throws", thrown, 1);
    }

    /** Every part of a log entry: who, from where, to which seat, in which minute. */
    static void move(LostPlaces x, int i, int who, int from, int to, int minute) {
        int[] parts = {who, from, to, minute};
        for (int what = 0; what < 4; what++) due("log(" + i + ", " + what + ")", x.log(i, what), parts[what]);
    }

    static void places(LostPlaces x, int... seats) {
        for (int p = 0; p < seats.length; p++) due("sitter(" + p + ", 0)", x.sitter(p, 0), seats[p]);
    }

    static void joys(LostPlaces x, int... joys) {
        for (int p = 0; p < joys.length; p++) due("sitter(" + p + ", 5)", x.sitter(p, 5), joys[p]);
    }

    /** Feeds the text behind what the tape has. */
    static int feed(LostPlaces x, String text) {
        int answer = x.count(4);
        for (int i = 0; i < text.length(); i += 20) {
            int[] words = new int[5];
            for (int k = 0; k < 20; k++) {
                int sign = i + k < text.length() ? text.charAt(i + k) : 0;
                words[k / 4] = words[k / 4] << 8 | sign;
            }
            answer = x.feed(words[0], words[1], words[2], words[3], words[4]);
        }
        return answer;
    }

    static int fault(String text, int sort) {
        LostPlaces x = new LostPlaces();
        feed(x, text);
        return x.fault(sort);
    }

    static LostPlaces room(String text) {
        LostPlaces x = new LostPlaces();
        addRoom(x, text);
        return x;
    }

    static void addRoom(LostPlaces x, String text) {
        x.end(0);
        feed(x, text);
        if (x.text(0) < 1) due("text(0) of " + text + " (fault " + x.fault(0) + ")", -1, 1);
    }

    /** Adds a taste, and it holds. */
    static void taste(LostPlaces x, String text) {
        x.end(0);
        feed(x, text);
        int number = x.text(1);
        if (number < 0) due("text(1) of " + text + " (fault " + x.fault(1) + ")", -1, 0);
        x.taste(number);
    }

    static LostPlaces room(String text, String taste) {
        LostPlaces x = room(text);
        taste(x, taste);
        return x;
    }

    static void close() {
        if (asked == 0 || wrong != 0) System.exit(1);
    }
}
