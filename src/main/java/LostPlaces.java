import java.util.NoSuchElementException;

/** Seats and those who lose them by getting up; the promises stand in DOC.md. */
public final class LostPlaces {
    public static final int NONE = -1;
    public static final int AWAY = -2;
    public static final int HIDDEN = -1000000;

    private static final int MOST_SEATS = 8;
    private static final int MOST_SITTERS = 8;
    private static final int MOST_GOINGS = 10;
    private static final int MOST_BYTES = 240;
    private static final int MOST_TASTES = 4;
    private static final int MOST_ACTS = 40;
    private static final int MOST_TOLD = 8;
    private static final int MOST_MINUTES = 100;
    private static final int MOST_LOG = 60;
    private static final int MOST_GO = 60;
    private static final int NO_SORT = -2;

    private final Tape tape = new Tape();
    private final Room room = new Room();
    private final Room draft = new Room();
    private final RoomReader roomReader = new RoomReader(tape);
    private final TasteReader tasteReader = new TasteReader(tape);
    // one more than can hold: the last one is only ever read for its fault
    private final Taste[] tastes = new Taste[MOST_TASTES + 1];
    private int tasteCount = 0;
    private int heldTaste = NONE;
    private int unrest = 0;
    private final Likings likings = new Likings(room);
    private final Evening evening = new Evening(room, likings);
    private final Hall now = new Hall();
    private final Hall[] past = new Hall[MOST_ACTS];
    private int acts = 0;
    private int newest = 0;
    private final Hall pictured = new Hall();
    private boolean hasPicture = false;
    private final Guess guess = new Guess(room, likings, evening, now);
    private final Game game = new Game(room, evening, now);
    private final Branches branches = new Branches(room, likings, evening, now);

    public LostPlaces() {
        for (int i = 0; i < tastes.length; i++) tastes[i] = new Taste();
        for (int i = 0; i < past.length; i++) past[i] = new Hall();
    }

    // ---- texts

    public int feed(int a, int b, int c, int d, int e) {
        int before = tape.length;
        boolean fits = tape.add(a) && tape.add(b) && tape.add(c) && tape.add(d) && tape.add(e);
        if (fits) return tape.length;
        tape.length = before;
        return NONE;
    }

    public boolean end(int n) {
        if (n < 0 || n > tape.length) return false;
        tape.length = n;
        return true;
    }

    public int fault(int sort) {
        if (sort == 0) return roomReader.read(draft);
        if (sort == 1) return tasteReader.read(nextTaste());
        return NO_SORT;
    }

    public int text(int sort) {
        if (sort == 0 && roomReader.read(draft) == NONE) return takeRoom();
        if (sort == 1 && tasteCount < MOST_TASTES && tasteReader.read(nextTaste()) == NONE) {
            tape.length = 0;
            tasteCount++;
            return tasteCount - 1;
        }
        return NONE;
    }

    private Taste nextTaste() {
        return tastes[tasteCount >= 0 && tasteCount < tastes.length ? tasteCount : tastes.length - 1];
    }

    private int takeRoom() {
        roomReader.read(room);
        tape.length = 0;
        acts = 0;
        hasPicture = false;
        branches.toldCount = 0;
        now.open(room);
        renewLikings();
        return room.sitters;
    }

    private void renewLikings() {
        boolean holds = heldTaste >= 0 && heldTaste < tasteCount && heldTaste < tastes.length;
        likings.renew(holds ? tastes[heldTaste] : null);
    }

    // ---- as it is

    public int seat(int seat, int what) {
        if (!isSeat(seat)) return NONE;
        switch (what) {
            case 0: return room.worth[seat];
            case 1: return room.more[seat];
            case 2: return room.stands[seat];
            case 3: return now.on[seat];
            case 4: return now.keptFor[seat];
            case 5: return now.keptTill[seat];
            default: return NONE;
        }
    }

    public int sitter(int sitter, int what) throws NoSuchElementException {
        if (!isSitter(sitter) || what < 0 || what > 5) {
            throw new NoSuchElementException("no such sitter, or nothing of it told by that number");
        }
        switch (what) {
            case 0: return now.where[sitter];
            case 1: return now.till[sitter];
            case 2: return room.quick[sitter];
            case 3: return room.step[sitter];
            case 4: return now.keep[sitter];
            default: return now.joy[sitter];
        }
    }

    public int going(int going, int what) {
        if (going < 0 || going >= room.goings || going >= MOST_GOINGS) return NONE;
        switch (what) {
            case 0: return room.goer[going];
            case 1: return room.leaves[going];
            case 2: return room.lasts[going];
            default: return NONE;
        }
    }

    public boolean taste(int taste) {
        if (taste < NONE || taste >= tasteCount) return false;
        heldTaste = taste;
        renewLikings();
        return true;
    }

    public boolean restless(int v) {
        if (v < 0 || v > 99 || v == unrest) return false;
        unrest = v;
        return true;
    }

    public int likes(int sitter, int seat) {
        if (!isSitter(sitter) || seat != NONE && !isSeat(seat)) return HIDDEN;
        return likings.at(likings.row(now.minute), sitter, seat);
    }

    private boolean isSeat(int seat) {
        return seat >= 0 && seat < room.seats && seat < MOST_SEATS;
    }

    private boolean isSitter(int sitter) {
        return sitter >= 0 && sitter < room.sitters && sitter < MOST_SITTERS;
    }

    private boolean isHere(int sitter) {
        return isSitter(sitter) && now.where[sitter] != AWAY;
    }

    private boolean hasRoom() {
        return room.seats > 0;
    }

    private int minutesLeft() {
        return room.ends - now.minute;
    }

    // ---- acts

    public int up(int sitter, int minutes) {
        if (!isHere(sitter) || minutes < 1 || minutes > 9 || minutesLeft() < 1) return NONE;
        remember();
        now.getUp(sitter, minutes, true);
        return now.till[sitter];
    }

    public int keeps(int sitter, int minutes) {
        if (!isSitter(sitter) || minutes < 0 || minutes > 9 || now.keep[sitter] == minutes) return NONE;
        remember();
        now.keep[sitter] = minutes;
        return acts;
    }

    public int swap(int one, int other) {
        if (!isHere(one) || !isHere(other) || one == other) return NONE;
        if (now.where[one] == NONE && now.where[other] == NONE) return NONE;
        remember();
        now.change(one, other);
        return acts;
    }

    public int go(int n) {
        if (n < 1 || n > MOST_GO || n > minutesLeft()) return NONE;
        for (int i = 0; i < n; i++) {
            remember();
            evening.pass(now);
        }
        return now.minute;
    }

    public int winter(int n, long seed) {
        if (n < 1 || n > MOST_GO || n > minutesLeft()) return NONE;
        evening.seed(seed);
        for (int i = 0; i < n; i++) {
            remember();
            evening.stir(now, unrest);
            evening.pass(now);
        }
        return now.minute;
    }

    private void remember() {
        newest = newest + 1 < past.length ? newest + 1 : 0;
        if (newest >= 0 && newest < past.length) past[newest].copyFrom(now);
        if (acts < MOST_ACTS) acts++;
    }

    public int undo() {
        if (acts < 1 || newest < 0 || newest >= past.length) return NONE;
        now.copyFrom(past[newest]);
        newest = newest > 0 ? newest - 1 : past.length - 1;
        acts--;
        return acts;
    }

    // ---- the log

    public int log(int i, int what) {
        if (i < 0 || i >= now.logged() || what < 0 || what > 3) return HIDDEN;
        return now.entry(i, what);
    }

    public int warm() {
        for (int i = 0; i < now.logged(); i++) {
            int from = now.entry(i, Hall.FROM);
            if (from != NONE) return from;
        }
        return NONE;
    }

    public int often(int sitter) {
        if (!isSitter(sitter)) return NONE;
        int times = 0;
        for (int i = 0; i < now.logged(); i++) {
            if (now.entry(i, Hall.WHO) == sitter) times++;
        }
        return times;
    }

    // ---- what is ahead

    public int ahead(int sitter, int n, int what) {
        if (!isSitter(sitter) || n < 0 || n > minutesLeft() || isNoChoice(what)) return HIDDEN;
        guess.pass(n);
        return what == 0 ? guess.hall.where[sitter] : guess.hall.joy[sitter];
    }

    public int chain(int sitter, int what) {
        if (!isHere(sitter) || now.where[sitter] == NONE || minutesLeft() < 1 || isNoChoice(what)) return HIDDEN;
        guess.leave(sitter);
        return what == 0 ? guess.found : guess.value;
    }

    public int when(int sitter, int d, int n, int what) {
        if (!isSitter(sitter) || d < 1 || d > 9 || n < 1 || n > 30) return HIDDEN;
        if (minutesLeft() < 1 || isNoChoice(what)) return HIDDEN;
        guess.findMinute(sitter, d, n);
        return what == 0 ? guess.found : guess.value;
    }

    public int keeping(int sitter, int k) {
        if (!isSitter(sitter) || k < 0 || k > 9) return HIDDEN;
        return guess.joyKeeping(sitter, k) - guess.joyKeeping(sitter, 0);
    }

    public int best(int sitter, int what) {
        if (!isHere(sitter) || isNoChoice(what)) return HIDDEN;
        guess.findPlace(sitter);
        return what == 0 ? guess.found : guess.value;
    }

    public int sure(int sitter) {
        return isSitter(sitter) ? guess.sureSeats(sitter) : NONE;
    }

    public int broken(int sitter) {
        if (!isSitter(sitter) || minutesLeft() < 2) return HIDDEN;
        guess.breakUp();
        return guess.hall.where[sitter];
    }

    public int rule(int what) {
        if (!hasRoom() || isNoChoice(what)) return NONE;
        guess.findRule();
        return what == 0 ? guess.found : guess.value;
    }

    private static boolean isNoChoice(int what) {
        return what != 0 && what != 1;
    }

    // ---- games, orders, sets

    public int call(int row, int c, int sitter) {
        if (!isGame(c) || !game.takeRow(row)) return HIDDEN;
        int place = game.placeOf(sitter);
        return place == NONE ? HIDDEN : game.gainNow(place, c);
    }

    public int rests(int c, int i) {
        return isGame(c) ? game.findRests(c, i) : HIDDEN;
    }

    private boolean isGame(int c) {
        return c >= 0 && c <= 99 && minutesLeft() > 0 && game.gather();
    }

    public int fair(int d, int what) {
        if (!hasRoom() || d < 1 || d > 3 || isNoChoice(what)) return HIDDEN;
        if (room.sitters > Branches.MOST_ORDERED || minutesLeft() < room.sitters) return HIDDEN;
        branches.findOrder(d);
        return what == 0 ? branches.bestOrder : branches.bestGap;
    }

    public int tells(int sitter, int seat) {
        if (!isSitter(sitter) || seat != NONE && seat != AWAY && !isSeat(seat)) return NONE;
        return branches.tell(sitter, seat) ? branches.toldCount : NONE;
    }

    public int been(int i) {
        if (!hasRoom()) return NONE;
        branches.findSets();
        return branches.fitting(i);
    }

    // ---- who is better off

    public int ladder(int i) {
        if (i < 0 || i >= room.seats) return NONE;
        for (int s = 0; s < room.seats; s++) {
            if (rank(s) == i) return s;
        }
        return NONE;
    }

    private int rank(int seat) {
        int better = 0;
        for (int s = 0; s < room.seats; s++) {
            if (room.worth[s] > room.worth[seat] || room.worth[s] == room.worth[seat] && s < seat) better++;
        }
        return better;
    }

    public int envy() {
        if (!hasRoom()) return NONE;
        int bits = 0;
        for (int p = 0; p < room.sitters; p++) {
            if (envies(p)) bits |= 1 << p;
        }
        return bits;
    }

    private boolean envies(int sitter) {
        if (!isHere(sitter)) return false;
        int row = likings.row(now.minute);
        int enough = likings.at(row, sitter, now.where[sitter]) + room.step[sitter];
        for (int s = 0; s < room.seats; s++) {
            boolean another = now.on[s] != NONE && now.on[s] != sitter;
            if (another && likings.at(row, sitter, s) >= enough) return true;
        }
        return false;
    }

    public int even() {
        return hasRoom() ? now.gap(room.sitters) : NONE;
    }

    // ---- images

    public int image() {
        if (!hasRoom()) return NONE;
        pictured.copyFrom(now);
        hasPicture = true;
        return now.minute;
    }

    public int back() {
        if (!hasPicture) return NONE;
        now.copyFrom(pictured);
        acts = 0;
        return now.minute;
    }

    public int count(int what) {
        switch (what) {
            case 0: return room.seats;
            case 1: return room.sitters;
            case 2: return room.goings;
            case 3: return tasteCount;
            case 4: return tape.length;
            case 5: return heldTaste;
            case 6: return now.minute;
            case 7: return room.ends;
            case 8: return room.film;
            case 9: return unrest;
            case 10: return now.logged();
            case 11: return acts;
            case 12: return branches.toldCount;
            default: return HIDDEN;
        }
    }

    // ---- what a text is read from

    /** The bytes fed so far, and the place up to which they have been read. */
    private static final class Tape {
        private static final int OUT = -1;

        final int[] bytes = new int[MOST_BYTES];
        int length = 0;
        int next = 0;
        int wrong = NONE;

        boolean add(int word) {
            for (int shift = 24; shift >= 0; shift -= 8) {
                int sign = word >>> shift & 255;
                if (sign == 0) continue;
                if (length < 0 || length >= bytes.length) return false;
                bytes[length] = sign;
                length++;
            }
            return true;
        }

        void rewind() {
            next = 0;
            wrong = NONE;
        }

        /** The next sign that is no blank; OUT behind the last one. */
        int sign() {
            for (; next >= 0 && next < length && next < bytes.length; next++) {
                if (bytes[next] != ' ') return bytes[next];
            }
            return OUT;
        }

        private boolean isAtDigit() {
            return next >= 0 && next < length && next < bytes.length && bytes[next] >= '0' && bytes[next] <= '9';
        }

        boolean isFine() {
            return wrong == NONE;
        }

        // only the first fault counts: what is read behind it means nothing
        void fail(int where) {
            if (wrong == NONE) wrong = where;
        }

        boolean takes(char wanted) {
            if (wrong != NONE || sign() != wanted) return false;
            next++;
            return true;
        }

        void needs(char wanted) {
            if (!takes(wanted)) fail(next);
        }

        /** Reads a number of so many digits at most; a digit more is the fault. */
        int number(int digits) {
            int value = 0;
            sign();
            if (!isAtDigit()) fail(next);
            for (int i = 0; i < digits && isAtDigit(); i++) {
                value = value * 10 + bytes[next] - '0';
                next++;
            }
            if (isAtDigit()) fail(next);
            return value;
        }

        /** Where the next sign stands among these letters; NONE if it is none of them. */
        int letter(String letters) {
            int sign = sign();
            return sign == OUT ? NONE : letters.indexOf((char) sign);
        }
    }

    /** What a text tells: seats, sitters, goings and the evening. */
    private static final class Room {
        int seats = 0;
        int sitters = 0;
        int goings = 0;
        int evenings = 0;
        final int[] worth = new int[MOST_SEATS];
        final int[] more = new int[MOST_SEATS];
        final int[] stands = new int[MOST_SEATS];
        final int[] begins = new int[MOST_SITTERS];
        final int[] quick = new int[MOST_SITTERS];
        final int[] step = new int[MOST_SITTERS];
        final int[] keep = new int[MOST_SITTERS];
        final int[] goer = new int[MOST_GOINGS];
        final int[] leaves = new int[MOST_GOINGS];
        final int[] lasts = new int[MOST_GOINGS];
        int film = 0;
        int ends = 0;

        void clear() {
            seats = 0;
            sitters = 0;
            goings = 0;
            evenings = 0;
        }

        void setEvening(int filmMinute, int endMinute) {
            film = filmMinute;
            ends = endMinute;
        }

        void addSeat(int w, int f, int x) {
            if (seats < 0 || seats >= MOST_SEATS) return;
            worth[seats] = w;
            more[seats] = f;
            stands[seats] = x;
            seats++;
        }

        void addSitter(int s, int q, int b, int k) {
            if (sitters < 0 || sitters >= MOST_SITTERS) return;
            begins[sitters] = s;
            quick[sitters] = q;
            step[sitters] = b;
            keep[sitters] = k;
            sitters++;
        }

        void addGoing(int p, int m, int d) {
            if (goings < 0 || goings >= MOST_GOINGS) return;
            goer[goings] = p;
            leaves[goings] = m;
            lasts[goings] = d;
            goings++;
        }

        /** Whether every seat and every sitter named has been told, and no seat twice. */
        boolean isWhole() {
            if (seats < 1 || sitters < 1) return false;
            int taken = 0;
            for (int p = 0; p < sitters; p++) {
                if (begins[p] == RoomReader.FLOOR) continue;
                if (begins[p] >= seats || (taken >> begins[p] & 1) != 0) return false;
                taken |= 1 << begins[p];
            }
            for (int g = 0; g < goings; g++) {
                if (goer[g] >= sitters) return false;
            }
            return true;
        }
    }

    /** Reads the tape as a room. */
    private static final class RoomReader {
        static final int FLOOR = 8;
        private static final int ITEMS = 4;
        // kinds of clauses, as their letters stand in KINDS
        private static final String KINDS = "spge";
        private static final int SEAT = 0;
        private static final int SITTER = 1;
        private static final int GOING = 2;
        private static final int EVENING = 3;
        // by kinds, four items each; letters of one kind are told apart in lettersOf
        private static final int[] LEAST = {0, 0, 0, 0, 0, 0, 1, 0, 0, 0, 1, 0, 0, 1, 0, 0};
        private static final int[] MOST = {99, 99, 19, 0, 8, 9, 99, 9, 7, 99, 9, 0, 99, 99, 0, 0};
        private static final int[] UNTOLD = {10, 0, 0, 0, 8, 5, 1, 0, 0, 1, 2, 0, 20, 60, 0, 0};

        private final Tape tape;
        private final int[] items = new int[ITEMS];

        RoomReader(Tape tape) {
            this.tape = tape;
        }

        /** The fault, or NONE: then the room holds what was told. */
        int read(Room into) {
            tape.rewind();
            into.clear();
            into.setEvening(UNTOLD[EVENING * ITEMS], UNTOLD[EVENING * ITEMS + 1]);
            boolean more = true;
            for (int clauses = 0; more && clauses < MOST_BYTES; clauses++) more = readClause(into);
            if (tape.isFine() && !into.isWhole()) tape.fail(tape.length);
            return tape.wrong;
        }

        /** Whether another clause has to follow. */
        private boolean readClause(Room into) {
            int kind = tape.letter(KINDS);
            if (kind == NONE || isFull(into, kind)) {
                tape.fail(tape.next);
                return false;
            }
            tape.next++;
            readItems(kind);
            if (!tape.isFine()) return false;
            store(into, kind);
            return tape.takes(';');
        }

        private static boolean isFull(Room room, int kind) {
            switch (kind) {
                case SEAT: return room.seats >= MOST_SEATS;
                case SITTER: return room.sitters >= MOST_SITTERS;
                case GOING: return room.goings >= MOST_GOINGS;
                default: return room.evenings >= 1;
            }
        }

        private static String lettersOf(int kind) {
            switch (kind) {
                case SEAT: return "wfx";
                case SITTER: return "sqbk";
                case GOING: return "pmd";
                default: return "ft";
            }
        }

        private void readItems(int kind) {
            int base = kind >= SEAT && kind <= EVENING ? kind * ITEMS : 0;
            for (int i = 0; i < ITEMS; i++) items[i] = UNTOLD[base + i];
            int seen = 0;
            for (int n = 0; n < MOST_BYTES && !isClauseOver(); n++) {
                int item = tape.letter(lettersOf(kind));
                if (item < 0 || item >= ITEMS || (seen >> item & 1) != 0) {
                    tape.fail(tape.next);
                    return;
                }
                seen |= 1 << item;
                tape.next++;
                items[item] = tape.number(2);
                boolean within = items[item] >= LEAST[base + item] && items[item] <= MOST[base + item];
                if (!within) tape.fail(tape.next - 1);
            }
        }

        private boolean isClauseOver() {
            return !tape.isFine() || tape.sign() == Tape.OUT || tape.sign() == ';';
        }

        private void store(Room into, int kind) {
            switch (kind) {
                case SEAT: into.addSeat(items[0], items[1], items[2]); break;
                case SITTER: into.addSitter(items[0], items[1], items[2], items[3]); break;
                case GOING: into.addGoing(items[0], items[1], items[2]); break;
                default:
                    into.evenings++;
                    into.setEvening(items[0], items[1]);
                    break;
            }
        }
    }

    /** A taste: its codes work on a stack of numbers; numbers told are codes of their own. */
    private static final class Taste {
        static final String LETTERS = "wfxqmp";
        static final int MINUTE = 4;
        static final int LETTER = -1;
        static final int PLUS = -11;
        static final int MINUS = -12;
        static final int TIMES = -13;
        static final int OVER = -14;
        static final int LIKE = -15;
        static final int BELOW = -16;
        static final int ABOVE = -17;
        static final int AND = -18;
        static final int OR = -19;
        static final int NOT = -20;
        static final int SKIP = -21;
        static final int DONE = -22;
        private static final int MOST_CODES = 2 * MOST_BYTES;
        private static final int DEEP = 64;
        private static final long BOUND = 1000000L;

        private final int[] codes = new int[MOST_CODES];
        private int length = 0;
        private final int[] stack = new int[DEEP];
        boolean tellsMinute = false;

        void clear() {
            length = 0;
            tellsMinute = false;
        }

        /** Puts a code behind the others: the place where it stands. */
        int put(int code) {
            if (length < 0 || length >= codes.length) return NONE;
            codes[length] = code;
            length++;
            return length - 1;
        }

        void putLetter(int letter) {
            put(LETTER - letter);
            if (letter == MINUTE) tellsMinute = true;
        }

        /** A condition that does not hold goes on behind what has been put by now. */
        void land(int place) {
            if (place >= 0 && place < codes.length) codes[place] = length;
        }

        int worth(int[] letters) {
            int top = 0;
            int at = 0;
            for (int n = 0; n < MOST_CODES && at >= 0 && at < length && at < MOST_CODES; n++) {
                int code = codes[at];
                at++;
                if (code > PLUS) {
                    if (top < 0 || top >= DEEP) return 0;
                    stack[top] = valueOf(code, letters);
                    top++;
                } else if (code == NOT) {
                    if (top < 1 || top > DEEP) return 0;
                    stack[top - 1] = 1 - stack[top - 1];
                } else if (code == SKIP) {
                    if (top < 1 || top > DEEP || at >= MOST_CODES) return 0;
                    top--;
                    at = stack[top] != 0 ? at + 1 : codes[at];
                } else if (code == DONE) {
                    return top > 0 && top <= DEEP ? stack[top - 1] : 0;
                } else {
                    if (top < 2 || top > DEEP) return 0;
                    top--;
                    stack[top - 1] = join(code, stack[top - 1], stack[top]);
                }
            }
            return 0;
        }

        private static int valueOf(int code, int[] letters) {
            if (code >= 0) return code;
            int letter = LETTER - code;
            return letter >= 0 && letter < letters.length ? letters[letter] : 0;
        }

        private static int join(int code, int a, int b) {
            long value;
            switch (code) {
                case PLUS: value = (long) a + b; break;
                case MINUS: value = (long) a - b; break;
                case TIMES: value = (long) a * b; break;
                case OVER: value = b == 0 ? 0 : (long) a / b; break;
                case LIKE: return a == b ? 1 : 0;
                case BELOW: return a < b ? 1 : 0;
                case ABOVE: return a > b ? 1 : 0;
                case AND: return a & b;
                default: return a | b;
            }
            return (int) (value > BOUND ? BOUND : value < -BOUND ? -BOUND : value);
        }
    }

    /** Reads the tape as a taste. */
    private static final class TasteReader {
        private static final int DEEPEST = 6;

        private final Tape tape;
        private Taste into = new Taste();

        TasteReader(Tape tape) {
            this.tape = tape;
        }

        /** The fault, or NONE: then the taste holds what was told. */
        int read(Taste taste) {
            tape.rewind();
            taste.clear();
            into = taste;
            boolean more = true;
            for (int clauses = 0; more && clauses < MOST_BYTES; clauses++) more = readClause(taste);
            return tape.wrong;
        }

        /** Whether another clause has to follow. */
        private boolean readClause(Taste taste) {
            tape.needs('y');
            tape.needs(':');
            int skip = NONE;
            boolean begun = tape.letter("!(") == NONE;
            if (begun) sum(0);
            if (tape.isFine() && (!begun || tape.letter("=<>") != NONE)) {
                condition(begun, 0);
                tape.needs('?');
                taste.put(Taste.SKIP);
                skip = taste.put(0);
                sum(0);
            }
            taste.put(Taste.DONE);
            taste.land(skip);
            if (tape.sign() == Tape.OUT) return false;
            tape.needs(';');
            return tape.isFine();
        }

        // begun: its first sum has been read, for only behind it is it seen to be no condition
        private void condition(boolean begun, int depth) {
            truth(begun, depth);
            for (int n = 0; n < MOST_BYTES && tape.takes('|'); n++) {
                truth(false, depth);
                into.put(Taste.OR);
            }
        }

        private void truth(boolean begun, int depth) {
            unit(begun, depth);
            for (int n = 0; n < MOST_BYTES && tape.takes('&'); n++) {
                unit(false, depth);
                into.put(Taste.AND);
            }
        }

        private void unit(boolean begun, int depth) {
            if (!begun && opens('!', depth)) {
                unit(false, depth + 1);
                into.put(Taste.NOT);
            } else if (!begun && opens('(', depth)) {
                condition(false, depth + 1);
                tape.needs(')');
            } else {
                if (!begun) sum(depth);
                int code = tape.takes('=') ? Taste.LIKE : tape.takes('<') ? Taste.BELOW
                        : tape.takes('>') ? Taste.ABOVE : NONE;
                if (code == NONE) tape.fail(tape.next);
                sum(depth);
                into.put(code);
            }
        }

        private boolean opens(char sign, int depth) {
            if (!tape.isFine() || tape.sign() != sign) return false;
            if (depth >= DEEPEST) {
                tape.fail(tape.next);
                return false;
            }
            return tape.takes(sign);
        }

        private void sum(int depth) {
            term(depth);
            for (int n = 0; n < MOST_BYTES; n++) {
                int code = tape.takes('+') ? Taste.PLUS : tape.takes('-') ? Taste.MINUS : NONE;
                if (code == NONE) return;
                term(depth);
                into.put(code);
            }
        }

        private void term(int depth) {
            atom(depth);
            for (int n = 0; n < MOST_BYTES; n++) {
                int code = tape.takes('*') ? Taste.TIMES : tape.takes('/') ? Taste.OVER : NONE;
                if (code == NONE) return;
                atom(depth);
                into.put(code);
            }
        }

        private void atom(int depth) {
            if (!tape.isFine()) return;
            int letter = tape.letter(Taste.LETTERS);
            if (letter != NONE) {
                tape.next++;
                into.putLetter(letter);
            } else if (opens('[', depth)) {
                sum(depth + 1);
                tape.needs(']');
            } else {
                into.put(tape.number(4));
            }
        }
    }

    // ---- what is worked out from a room

    /** How each likes each seat, minute by minute, by the taste that holds. */
    private static final class Likings {
        private static final int MOST_LIKED = 999;
        private static final int ROW = MOST_SITTERS * MOST_SEATS;
        // minutes stay below this, so that rows of two tastes never bear one mark
        private static final int MARKS = 128;

        private final Room room;
        private final int[] table = new int[MOST_MINUTES * ROW];
        // by minutes: the row of the table that holds, and the minute up to which it does
        private final int[] rows = new int[MOST_MINUTES];
        private final int[] tills = new int[MOST_MINUTES];
        private final int[] letters = new int[Taste.LETTERS.length()];
        // another number whenever anything may be liked otherwise
        int renewals = 0;

        Likings(Room room) {
            this.room = room;
        }

        /** Works all out anew; a minute liked as the one ahead of it has that one's row. */
        void renew(Taste held) {
            renewals++;
            boolean byMinutes = held != null && held.tellsMinute;
            int last = room.ends < MOST_MINUTES ? room.ends : MOST_MINUTES - 1;
            for (int m = 0; m <= last; m++) {
                boolean asAhead = m > 0 && !byMinutes && m != room.film;
                if (!asAhead) {
                    fill(m, held);
                    asAhead = m > 0 && isAlike(m, rows[m - 1]);
                }
                rows[m] = asAhead ? rows[m - 1] : m;
            }
            for (int m = last; m >= 0; m--) {
                tills[m] = m < last && rows[m + 1] == rows[m] ? tills[m + 1] : m + 1;
            }
        }

        private void fill(int minute, Taste held) {
            for (int p = 0; p < room.sitters; p++) {
                for (int s = 0; s < room.seats; s++) {
                    letters[0] = room.worth[s];
                    letters[1] = minute < room.film ? 0 : room.more[s];
                    letters[2] = room.stands[s];
                    letters[3] = room.quick[p];
                    letters[4] = minute;
                    letters[5] = p;
                    int worth = held == null ? letters[0] + letters[1] : held.worth(letters);
                    int at = minute * ROW + p * MOST_SEATS + s;
                    if (at < 0 || at >= table.length) continue;
                    table[at] = worth < 0 ? 0 : worth > MOST_LIKED ? MOST_LIKED : worth;
                }
            }
        }

        private boolean isAlike(int row, int other) {
            for (int p = 0; p < room.sitters; p++) {
                for (int s = 0; s < room.seats; s++) {
                    if (at(row, p, s) != at(other, p, s)) return false;
                }
            }
            return true;
        }

        int row(int minute) {
            return minute >= 0 && minute < rows.length ? rows[minute] : 0;
        }

        /** The first minute behind this one that is liked otherwise. */
        int till(int minute) {
            return minute >= 0 && minute < tills.length ? tills[minute] : minute;
        }

        int mark(int row) {
            return renewals * MARKS + row;
        }

        /** The floor, and being away, is liked by none. */
        int at(int row, int sitter, int seat) {
            if (seat < 0) return 0;
            int at = row * ROW + sitter * MOST_SEATS + seat;
            return at >= 0 && at < table.length ? table[at] : 0;
        }
    }

    /** Where all are in a minute, what is kept, what they keep, their joy, and the moves so far. */
    private static final class Hall {
        static final int WHO = 0;
        static final int FROM = 1;
        static final int TO = 2;
        private static final int PARTS = 4;

        // of sitters
        final int[] where = new int[MOST_SITTERS];
        final int[] till = new int[MOST_SITTERS];
        final int[] keep = new int[MOST_SITTERS];
        final int[] joy = new int[MOST_SITTERS];
        // of seats
        final int[] on = new int[MOST_SEATS];
        final int[] keptFor = new int[MOST_SEATS];
        final int[] keptTill = new int[MOST_SEATS];
        int minute = 0;
        int moves = 0;
        private final int[] entries = new int[MOST_LOG * PARTS];
        // the mark of the likings by which nobody would move up any more
        int settled = NONE;

        void open(Room room) {
            for (int s = 0; s < MOST_SEATS; s++) {
                on[s] = NONE;
                keptFor[s] = NONE;
                keptTill[s] = NONE;
            }
            for (int p = 0; p < MOST_SITTERS; p++) {
                till[p] = NONE;
                keep[p] = room.keep[p];
                joy[p] = 0;
                where[p] = NONE;
            }
            minute = 0;
            moves = 0;
            settled = NONE;
            for (int p = 0; p < room.sitters && p < MOST_SITTERS; p++) {
                if (room.begins[p] < room.seats) put(p, room.begins[p]);
            }
        }

        /** All but the log: who guesses asks for none. */
        void beginAs(Hall other) {
            System.arraycopy(other.where, 0, where, 0, MOST_SITTERS);
            System.arraycopy(other.till, 0, till, 0, MOST_SITTERS);
            System.arraycopy(other.keep, 0, keep, 0, MOST_SITTERS);
            System.arraycopy(other.joy, 0, joy, 0, MOST_SITTERS);
            System.arraycopy(other.on, 0, on, 0, MOST_SEATS);
            System.arraycopy(other.keptFor, 0, keptFor, 0, MOST_SEATS);
            System.arraycopy(other.keptTill, 0, keptTill, 0, MOST_SEATS);
            minute = other.minute;
            moves = other.moves;
            settled = other.settled;
        }

        void copyFrom(Hall other) {
            beginAs(other);
            System.arraycopy(other.entries, 0, entries, 0, MOST_LOG * PARTS);
        }

        /** Whether both go on alike, whatever joy there was by now. */
        boolean goesOnAs(Hall other) {
            if (minute != other.minute) return false;
            for (int p = 0; p < MOST_SITTERS; p++) {
                boolean alike = where[p] == other.where[p] && till[p] == other.till[p] && keep[p] == other.keep[p];
                if (!alike) return false;
            }
            for (int s = 0; s < MOST_SEATS; s++) {
                if (keptFor[s] != other.keptFor[s] || keptTill[s] != other.keptTill[s]) return false;
            }
            return true;
        }

        private static boolean isSitter(int sitter) {
            return sitter >= 0 && sitter < MOST_SITTERS;
        }

        private static boolean isSeat(int seat) {
            return seat >= 0 && seat < MOST_SEATS;
        }

        /** Who is on a seat; NONE for the floor too. */
        int sitterOn(int seat) {
            return isSeat(seat) ? on[seat] : NONE;
        }

        /** From where it is to a seat, to the floor (NONE) or AWAY. */
        void put(int sitter, int to) {
            if (sitter < 0 || sitter >= MOST_SITTERS) return;
            int from = where[sitter];
            if (from >= 0 && from < MOST_SEATS) on[from] = NONE;
            if (to >= 0 && to < MOST_SEATS) on[to] = sitter;
            where[sitter] = to;
            till[sitter] = NONE;
            settled = NONE;
        }

        void getUp(int sitter, int minutes, boolean keeping) {
            if (!isSitter(sitter)) return;
            int from = where[sitter];
            put(sitter, AWAY);
            till[sitter] = minute + minutes;
            if (keeping && keep[sitter] > 0 && isSeat(from)) {
                keptFor[from] = sitter;
                keptTill[from] = minute + keep[sitter];
            }
        }

        void change(int one, int other) {
            if (!isSitter(one) || !isSitter(other)) return;
            int from = where[one];
            int to = where[other];
            put(one, NONE);
            put(other, from);
            put(one, to);
        }

        boolean isFree(int seat) {
            return seat >= 0 && seat < MOST_SEATS && on[seat] == NONE && keptFor[seat] == NONE;
        }

        void release(int seat) {
            if (seat < 0 || seat >= MOST_SEATS) return;
            keptFor[seat] = NONE;
            keptTill[seat] = NONE;
            settled = NONE;
        }

        void moveUp(int sitter, int to) {
            if (!isSitter(sitter)) return;
            int base = moves % MOST_LOG * PARTS;
            if (base >= 0 && base + PARTS <= entries.length) {
                entries[base] = sitter;
                entries[base + 1] = where[sitter];
                entries[base + 2] = to;
                entries[base + 3] = minute;
            }
            moves++;
            put(sitter, to);
        }

        int logged() {
            return moves < MOST_LOG ? moves : MOST_LOG;
        }

        /** A part of the i-th latest move. */
        int entry(int i, int part) {
            int at = (moves - 1 - i) % MOST_LOG * PARTS + part;
            return at >= 0 && at < entries.length ? entries[at] : HIDDEN;
        }

        /** The greatest joy less the least. */
        int gap(int sitters) {
            int least = joy[0];
            int most = joy[0];
            for (int p = 1; p < sitters && p < MOST_SITTERS; p++) {
                if (joy[p] < least) least = joy[p];
                if (joy[p] > most) most = joy[p];
            }
            return most - least;
        }
    }

    /** Lets minutes go by in a hall; perhaps with one going more, or without some of those told. */
    private static final class Evening {
        static final int ALL_GOINGS = (1 << MOST_GOINGS) - 1;
        private static final int FLOOR_IS_FAR = 99;
        // each move is to a seat liked better, so a minute has far fewer
        private static final int MOST_MOVES = 1000;
        private static final long FACTOR = 6364136223846793005L;
        private static final long ADDEND = 1442695040888963407L;

        private final Room room;
        private final Likings likings;
        int happening = ALL_GOINGS;
        private int moreWho = NONE;
        private int moreLeaves = 0;
        private int moreLasts = 0;
        private long drawn = 0L;

        Evening(Room room, Likings likings) {
            this.room = room;
            this.likings = likings;
        }

        void addGoing(int sitter, int minute, int minutes) {
            moreWho = sitter;
            moreLeaves = minute;
            moreLasts = minutes;
        }

        void dropGoing() {
            moreWho = NONE;
        }

        void seed(long seed) {
            drawn = seed;
        }

        private int draw(int below) {
            drawn = drawn * FACTOR + ADDEND;
            return below > 0 ? (int) ((drawn >>> 33) % below) : 0;
        }

        void stir(Hall hall, int unrest) {
            for (int p = 0; p < room.sitters; p++) {
                if (hall.where[p] != AWAY && draw(100) < unrest) hall.getUp(p, 1 + draw(3), true);
            }
        }

        /** Minutes go by up to this one, or to the end. */
        void run(Hall hall, int until) {
            int last = until < room.ends ? until : room.ends;
            for (int n = 0; n < MOST_MINUTES && hall.minute < last; n++) {
                pass(hall);
                int till = calmTill(hall, last);
                if (till > hall.minute) enjoy(hall, till);
            }
        }

        void pass(Hall hall) {
            int row = likings.row(hall.minute);
            release(hall);
            sendOut(hall);
            takeBack(hall, row);
            moveUp(hall, row);
            enjoy(hall, hall.minute + 1);
        }

        /** All stay where they are and have their joy, up to that minute. */
        private void enjoy(Hall hall, int until) {
            int row = likings.row(hall.minute);
            int minutes = until - hall.minute;
            for (int p = 0; p < room.sitters; p++) hall.joy[p] += minutes * likings.at(row, p, hall.where[p]);
            hall.minute = until;
        }

        // minutes in which nothing can happen are many, and guesses run through all of them again and again
        private int calmTill(Hall hall, int last) {
            int minute = hall.minute;
            if (hall.settled != likings.mark(likings.row(minute))) return minute;
            int till = earlier(last, likings.till(minute), minute);
            for (int s = 0; s < room.seats; s++) till = earlier(till, hall.keptTill[s], minute);
            for (int p = 0; p < room.sitters; p++) till = earlier(till, hall.till[p], minute);
            for (int g = 0; g < room.goings; g++) till = earlier(till, room.leaves[g], minute);
            return moreWho == NONE ? till : earlier(till, moreLeaves, minute);
        }

        /** The earlier of both; what lies behind the minute does not count. */
        private static int earlier(int till, int other, int minute) {
            return other >= minute && other < till ? other : till;
        }

        private void release(Hall hall) {
            for (int s = 0; s < room.seats; s++) {
                if (hall.keptFor[s] != NONE && hall.keptTill[s] <= hall.minute) hall.release(s);
            }
        }

        private void sendOut(Hall hall) {
            for (int g = 0; g < room.goings; g++) {
                boolean due = room.leaves[g] == hall.minute && (happening >> g & 1) != 0;
                if (due && isHere(hall, room.goer[g])) hall.getUp(room.goer[g], room.lasts[g], true);
            }
            boolean due = moreWho != NONE && moreLeaves == hall.minute;
            if (due && isHere(hall, moreWho)) hall.getUp(moreWho, moreLasts, true);
        }

        private boolean isHere(Hall hall, int sitter) {
            return sitter >= 0 && sitter < room.sitters && hall.where[sitter] != AWAY;
        }

        private void takeBack(Hall hall, int row) {
            for (int n = 0; n < MOST_SITTERS; n++) {
                int first = NONE;
                for (int p = 0; p < room.sitters; p++) {
                    boolean comes = hall.where[p] == AWAY && hall.till[p] <= hall.minute;
                    if (comes && (first == NONE || room.quick[p] > room.quick[first])) first = p;
                }
                if (first == NONE) return;
                hall.put(first, placeFor(hall, row, first));
            }
        }

        /** The seat kept for one that comes back (which it is not any more then), or the free one liked best. */
        private int placeFor(Hall hall, int row, int sitter) {
            int best = NONE;
            int most = 0;
            for (int s = 0; s < room.seats; s++) {
                if (hall.keptFor[s] == sitter) {
                    hall.release(s);
                    return s;
                }
                int liked = likings.at(row, sitter, s);
                if (hall.isFree(s) && liked > most) {
                    best = s;
                    most = liked;
                }
            }
            return best;
        }

        /** How many moves there were. */
        int moveUp(Hall hall, int row) {
            int mark = likings.mark(row);
            if (hall.settled == mark) return 0;
            int before = hall.moves;
            for (int n = 0; n < MOST_MOVES; n++) {
                int seat = NONE;
                int taker = NONE;
                for (int s = 0; s < room.seats; s++) {
                    if (!hall.isFree(s) || seat != NONE && room.worth[s] <= room.worth[seat]) continue;
                    int who = takerOf(hall, row, s);
                    if (who == NONE) continue;
                    seat = s;
                    taker = who;
                }
                if (taker == NONE) break;
                hall.moveUp(taker, seat);
            }
            hall.settled = mark;
            return hall.moves - before;
        }

        private int takerOf(Hall hall, int row, int seat) {
            int taker = NONE;
            int way = 0;
            for (int p = 0; p < room.sitters; p++) {
                int from = hall.where[p];
                if (from == AWAY) continue;
                if (likings.at(row, p, seat) - likings.at(row, p, from) < room.step[p]) continue;
                int far = wayTo(seat, from);
                boolean better = taker == NONE || room.quick[p] > room.quick[taker]
                        || room.quick[p] == room.quick[taker] && far < way;
                if (!better) continue;
                taker = p;
                way = far;
            }
            return taker;
        }

        private int wayTo(int seat, int from) {
            if (from < 0 || from >= MOST_SEATS) return FLOOR_IS_FAR;
            int way = room.stands[seat] - room.stands[from];
            return way < 0 ? -way : way;
        }
    }

    /** What would be, apart from the hall as it is. */
    private static final class Guess {
        private final Room room;
        private final Likings likings;
        private final Evening evening;
        private final Hall now;
        final Hall hall = new Hall();
        int found = NONE;
        int value = 0;

        Guess(Room room, Likings likings, Evening evening, Hall now) {
            this.room = room;
            this.likings = likings;
            this.evening = evening;
            this.now = now;
        }

        void pass(int minutes) {
            hall.beginAs(now);
            evening.run(hall, now.minute + minutes);
        }

        /** Found: the moves; value: who is on the seat that was left. */
        void leave(int sitter) {
            hall.beginAs(now);
            int from = now.where[sitter];
            hall.getUp(sitter, 1, true);
            found = evening.moveUp(hall, likings.row(hall.minute));
            value = hall.sitterOn(from);
        }

        /** Found: the minute in which to go; value: the joy by it. */
        void findMinute(int sitter, int minutes, int most) {
            found = NONE;
            for (int n = 0; n < most && now.minute + n < room.ends; n++) {
                evening.addGoing(sitter, now.minute + n, minutes);
                hall.beginAs(now);
                evening.run(hall, room.ends);
                evening.dropGoing();
                offer(now.minute + n, hall.joy[sitter], n == 0);
            }
        }

        private void offer(int choice, int joy, boolean isFirst) {
            if (!isFirst && joy <= value) return;
            found = choice;
            value = joy;
        }

        int joyKeeping(int sitter, int minutes) {
            hall.beginAs(now);
            hall.keep[sitter] = minutes;
            evening.run(hall, room.ends);
            return hall.joy[sitter];
        }

        /** Found: the seat, or the floor, to be on; value: the joy by it. */
        void findPlace(int sitter) {
            hall.beginAs(now);
            evening.run(hall, room.ends);
            offer(now.where[sitter], hall.joy[sitter], true);
            for (int s = 0; s < room.seats; s++) {
                if (!now.isFree(s)) continue;
                hall.beginAs(now);
                hall.put(sitter, s);
                evening.run(hall, room.ends);
                offer(s, hall.joy[sitter], false);
            }
        }

        int sureSeats(int sitter) {
            int bits = (1 << room.seats) - 1;
            hall.beginAs(now);
            evening.run(hall, room.film);
            for (int n = 0; n < MOST_MINUTES && hall.minute < room.ends; n++) {
                evening.pass(hall);
                int seat = hall.where[sitter];
                bits &= seat >= 0 ? 1 << seat : 0;
            }
            return bits;
        }

        void breakUp() {
            hall.beginAs(now);
            for (int p = 0; p < room.sitters; p++) {
                if (hall.where[p] != AWAY) hall.getUp(p, 1, false);
            }
            evening.run(hall, now.minute + 2);
        }

        /** Found: how many minutes all should keep; value: the moves by it. */
        void findRule() {
            for (int k = 0; k <= 9; k++) {
                hall.beginAs(now);
                for (int p = 0; p < room.sitters; p++) hall.keep[p] = k;
                evening.run(hall, room.ends);
                // fewer moves are better, so they are offered as what is missing
                offer(k, now.moves - hall.moves, k == 0);
            }
            value = -value;
        }
    }

    /** The telephone that all who are here lose by. */
    private static final class Game {
        private static final int MOST_HERE = 4;
        private static final int LAST_NUMBER = 4;
        // by the least number and who goes by it; behind them: nobody goes
        private static final int NOBODY_GOES = LAST_NUMBER * MOST_HERE;

        private final Room room;
        private final Evening evening;
        private final Hall now;
        private final Hall hall = new Hall();
        private final int[] here = new int[MOST_HERE];
        private int size = 0;
        private final int[] numbers = new int[MOST_HERE];
        private final int[] joys = new int[(NOBODY_GOES + 1) * MOST_HERE];

        Game(Room room, Evening evening, Hall now) {
            this.room = room;
            this.evening = evening;
            this.now = now;
        }

        /** Whether there are one to four who are not away. */
        boolean gather() {
            size = 0;
            for (int p = 0; p < room.sitters; p++) {
                if (now.where[p] == AWAY) continue;
                if (size >= MOST_HERE) return false;
                here[size] = p;
                size++;
            }
            return size > 0;
        }

        int placeOf(int sitter) {
            for (int k = 0; k < size && k < MOST_HERE; k++) {
                if (here[k] == sitter) return k;
            }
            return NONE;
        }

        boolean takeRow(int row) {
            int rest = row;
            for (int k = size - 1; k >= 0; k--) {
                numbers[k] = rest % 10;
                if (numbers[k] < 0 || numbers[k] > LAST_NUMBER) return false;
                rest /= 10;
            }
            return rest == 0;
        }

        private int row() {
            int row = 0;
            for (int k = 0; k < size; k++) row = row * 10 + numbers[k];
            return row;
        }

        private int least() {
            int least = LAST_NUMBER;
            for (int k = 0; k < size; k++) {
                if (numbers[k] < least) least = numbers[k];
            }
            return least;
        }

        private int outcome() {
            int least = least();
            if (least >= LAST_NUMBER) return NOBODY_GOES;
            int goes = NONE;
            for (int k = 0; k < size; k++) {
                if (numbers[k] != least) continue;
                if (goes == NONE || room.quick[here[k]] > room.quick[here[goes]]) goes = k;
            }
            return least * MOST_HERE + (goes == NONE ? 0 : goes);
        }

        private void tryOut(int outcome) {
            hall.beginAs(now);
            if (outcome < NOBODY_GOES) {
                evening.addGoing(here[outcome % MOST_HERE], now.minute + outcome / MOST_HERE, 1);
            }
            evening.run(hall, room.ends);
            evening.dropGoing();
            for (int k = 0; k < size; k++) joys[outcome * MOST_HERE + k] = hall.joy[here[k]];
        }

        int gainNow(int place, int cost) {
            tryOut(outcome());
            return gain(place, cost);
        }

        private int gain(int place, int cost) {
            return joys[outcome() * MOST_HERE + place] - cost * least();
        }

        int findRests(int cost, int i) {
            for (int least = 0; least < LAST_NUMBER; least++) {
                for (int k = 0; k < size; k++) tryOut(least * MOST_HERE + k);
            }
            tryOut(NOBODY_GOES);
            for (int k = 0; k < size; k++) numbers[k] = 0;
            int rests = 0;
            boolean more = true;
            for (int n = 0; more && n < 1000; n++) {
                if (isRest(cost)) {
                    if (rests == i) return row();
                    rests++;
                }
                more = countUp();
            }
            return i == NONE ? rests : NONE;
        }

        /** The next row; false behind the last one. */
        private boolean countUp() {
            for (int k = size - 1; k >= 0; k--) {
                numbers[k]++;
                if (numbers[k] <= LAST_NUMBER) return true;
                numbers[k] = 0;
            }
            return false;
        }

        private boolean isRest(int cost) {
            for (int k = 0; k < size; k++) {
                int own = numbers[k];
                int has = gain(k, cost);
                boolean more = false;
                for (int other = 0; other <= LAST_NUMBER; other++) {
                    numbers[k] = other;
                    if (gain(k, cost) > has) more = true;
                }
                numbers[k] = own;
                if (more) return false;
            }
            return true;
        }
    }

    /** What is tried in many ways that begin alike: orders of going, and sets of goings. */
    private static final class Branches {
        static final int MOST_ORDERED = 5;

        private final Room room;
        private final Likings likings;
        private final Evening evening;
        private final Hall now;
        // one hall a depth: what ways have in common is gone through once
        private final Hall[] halls = new Hall[MOST_GOINGS + 1];
        private int lasts = 0;
        int bestOrder = 0;
        int bestGap = NONE;
        private final int[] toldWho = new int[MOST_TOLD];
        private final int[] toldWhere = new int[MOST_TOLD];
        int toldCount = 0;
        private final int[] coming = new int[MOST_GOINGS];
        private int comingCount = 0;
        private final boolean[] fits = new boolean[1 << MOST_GOINGS];
        // sets are asked for one by one: they are found once as long as nothing they come from is another
        private final Hall asked = new Hall();
        private int askedLikings = NONE;
        private int askedTold = NONE;

        Branches(Room room, Likings likings, Evening evening, Hall now) {
            this.room = room;
            this.likings = likings;
            this.evening = evening;
            this.now = now;
            for (int i = 0; i < halls.length; i++) halls[i] = new Hall();
        }

        void findOrder(int minutes) {
            lasts = minutes;
            bestGap = NONE;
            halls[0].beginAs(now);
            order(0, 0, 0);
        }

        private void order(int depth, int gone, int digits) {
            if (depth < 0 || depth > MOST_ORDERED) return;
            Hall hall = halls[depth];
            if (depth >= room.sitters) {
                evening.run(hall, room.ends);
                int gap = hall.gap(room.sitters);
                if (bestGap == NONE || gap < bestGap) {
                    bestGap = gap;
                    bestOrder = digits;
                }
                return;
            }
            for (int p = 0; p < room.sitters; p++) {
                if ((gone >> p & 1) != 0) continue;
                Hall next = halls[depth + 1];
                next.beginAs(hall);
                evening.addGoing(p, next.minute, lasts);
                evening.pass(next);
                evening.dropGoing();
                order(depth + 1, gone | 1 << p, digits * 10 + p);
            }
        }

        boolean tell(int sitter, int place) {
            if (toldCount < 0 || toldCount >= MOST_TOLD) return false;
            toldWho[toldCount] = sitter;
            toldWhere[toldCount] = place;
            toldCount++;
            return true;
        }

        private boolean isAsTold(Hall hall) {
            for (int t = 0; t < toldCount && t < MOST_TOLD; t++) {
                int who = toldWho[t];
                if (who >= 0 && who < MOST_SITTERS && hall.where[who] != toldWhere[t]) return false;
            }
            return true;
        }

        void findSets() {
            boolean known = askedLikings == likings.renewals && askedTold == toldCount && asked.goesOnAs(now);
            if (known) return;
            lineUp();
            for (int set = 0; set < fits.length; set++) fits[set] = false;
            halls[0].beginAs(now);
            choose(0, 0);
            evening.happening = Evening.ALL_GOINGS;
            asked.beginAs(now);
            askedLikings = likings.renewals;
            askedTold = toldCount;
        }

        /** How many sets fit (i NONE), or the i-th. */
        int fitting(int i) {
            int sets = 0;
            for (int set = 0; set < fits.length; set++) {
                if (!fits[set]) continue;
                if (sets == i) return set;
                sets++;
            }
            return i == NONE ? sets : NONE;
        }

        /** The goings of this minute or a later one, by their minutes. */
        private void lineUp() {
            comingCount = 0;
            for (int m = now.minute; m < MOST_MINUTES; m++) {
                for (int g = 0; g < room.goings; g++) {
                    if (room.leaves[g] != m || comingCount >= MOST_GOINGS) continue;
                    coming[comingCount] = g;
                    comingCount++;
                }
            }
        }

        private void choose(int depth, int set) {
            if (depth < 0 || depth >= halls.length || set < 0 || set >= fits.length) return;
            Hall hall = halls[depth];
            if (depth >= comingCount || depth >= MOST_GOINGS) {
                evening.happening = set;
                evening.run(hall, room.ends);
                fits[set] = isAsTold(hall);
                return;
            }
            int minute = room.leaves[coming[depth]];
            evening.happening = set;
            evening.run(hall, minute);
            halls[depth + 1].beginAs(hall);
            choose(depth + 1, set);
            halls[depth + 1].beginAs(hall);
            choose(depth + 1, set | 1 << coming[depth]);
        }
    }
}
