import java.util.ArrayList;
import java.util.Arrays;
import java.util.List;
import java.util.NoSuchElementException;

/**
 * The document once more, written without a thought of speed or memory, and in other ways than the class:
 * what the tests compare LostPlaces with. Texts are checked sign by sign, tastes worked out by cutting them apart,
 * and every guess runs all its minutes on a fresh copy.
 */
final class Plain {
    static final int NONE = -1;
    static final int AWAY = -2;
    static final int HIDDEN = -1000000;

    record Seat(int w, int f, int x) { }
    record Sitter(int s, int q, int b, int k) { }
    record Going(int p, int m, int d) { }
    record Move(int who, int from, int to, int minute) { }

    static final class Room {
        final List<Seat> seats = new ArrayList<>();
        final List<Sitter> sitters = new ArrayList<>();
        final List<Going> goings = new ArrayList<>();
        int film = 20;
        int end = 60;
    }

    static final class State {
        int[] where, till, keeps, joy, keptFor, keptTill;
        int minute;
        List<Move> moves = new ArrayList<>();

        State copy() {
            State c = new State();
            c.where = where.clone();
            c.till = till.clone();
            c.keeps = keeps.clone();
            c.joy = joy.clone();
            c.keptFor = keptFor.clone();
            c.keptTill = keptTill.clone();
            c.minute = minute;
            c.moves = new ArrayList<>(moves);
            return c;
        }

        int on(int seat) {
            for (int p = 0; p < where.length; p++) if (where[p] == seat) return p;
            return NONE;
        }

        boolean free(int seat) {
            return on(seat) == NONE && keptFor[seat] == NONE;
        }
    }

    String tape = "";
    Room room = null;
    State st = null;
    final List<String> tastes = new ArrayList<>();
    int held = NONE;
    int restless = 0;
    List<State> undos = new ArrayList<>();
    State image = null;
    List<int[]> told = new ArrayList<>();

    // ---------------------------------------------------------------- texts

    int feed(int a, int b, int c, int d, int e) {
        StringBuilder t = new StringBuilder(tape);
        for (int word : new int[] {a, b, c, d, e}) {
            for (int i = 3; i >= 0; i--) {
                int sign = (word >> (8 * i)) & 0xff;
                if (sign != 0) t.append((char) sign);
            }
        }
        if (t.length() > 240) return NONE;
        tape = t.toString();
        return tape.length();
    }

    boolean end(int n) {
        if (n < 0 || n > tape.length()) return false;
        tape = tape.substring(0, n);
        return true;
    }

    int fault(int sort) {
        return sort == 0 ? roomFault(tape) : sort == 1 ? tasteFault(tape) : -2;
    }

    static int[] bounds(char kind, char item) {
        switch ("" + kind + item) {
            case "sw": case "sf": return new int[] {0, 99};
            case "sx": return new int[] {0, 19};
            case "ps": return new int[] {0, 8};
            case "pq": case "pk": return new int[] {0, 9};
            case "pb": return new int[] {1, 99};
            case "gp": return new int[] {0, 7};
            case "gm": return new int[] {0, 99};
            case "gd": return new int[] {1, 9};
            case "ef": return new int[] {0, 99};
            case "et": return new int[] {1, 99};
            default: return null;
        }
    }

    /** Sign by sign: what may come next is one of kind, item, digit, more (a digit, or what follows a number). */
    static int roomFault(String t) {
        String expect = "kind";
        int[] had = new int[128];
        char kind = 0;
        String items = "";
        char item = 0;
        String digits = "";
        for (int i = 0; i <= t.length(); i++) {
            boolean over = i == t.length();
            char c = over ? 0 : t.charAt(i);
            boolean digit = c >= '0' && c <= '9';
            if (!digits.isEmpty() && !digit) {
                int[] b = bounds(kind, item);
                int v = Integer.parseInt(digits);
                if (v < b[0] || v > b[1]) return i - 1;
                digits = "";
                expect = "item";
            }
            if (over) break;
            if (!digits.isEmpty()) {
                if (digits.length() == 2) return i;
                digits += c;
                continue;
            }
            if (c == ' ') continue;
            switch (expect) {
                case "kind":
                    if ("spge".indexOf(c) < 0) return i;
                    had[c]++;
                    if (had[c] > (c == 'g' ? 10 : c == 'e' ? 1 : 8)) return i;
                    kind = c;
                    items = "";
                    expect = "item";
                    break;
                case "item":
                    if (c == ';') {
                        expect = "kind";
                    } else {
                        if (bounds(kind, c) == null || items.indexOf(c) >= 0) return i;
                        items += c;
                        item = c;
                        expect = "digit";
                    }
                    break;
                default:
                    if (!digit) return i;
                    digits = "" + c;
            }
        }
        if (!expect.equals("item")) return t.length();
        return whole(parseRoom(t)) ? NONE : t.length();
    }

    static boolean whole(Room r) {
        if (r.seats.isEmpty() || r.sitters.isEmpty()) return false;
        List<Integer> taken = new ArrayList<>();
        for (Sitter p : r.sitters) {
            if (p.s() == 8) continue;
            if (p.s() >= r.seats.size() || taken.contains(p.s())) return false;
            taken.add(p.s());
        }
        for (Going g : r.goings) if (g.p() >= r.sitters.size()) return false;
        return true;
    }

    /** Of a text whose signs are fine. */
    static Room parseRoom(String t) {
        Room r = new Room();
        for (String clause : t.replace(" ", "").split(";")) {
            String rest = clause.substring(1);
            switch (clause.charAt(0)) {
                case 's': r.seats.add(new Seat(item(rest, 'w', 10), item(rest, 'f', 0), item(rest, 'x', 0))); break;
                case 'p':
                    r.sitters.add(new Sitter(item(rest, 's', 8), item(rest, 'q', 5), item(rest, 'b', 1),
                            item(rest, 'k', 0)));
                    break;
                case 'g': r.goings.add(new Going(item(rest, 'p', 0), item(rest, 'm', 1), item(rest, 'd', 2))); break;
                default:
                    r.film = item(rest, 'f', 20);
                    r.end = item(rest, 't', 60);
            }
        }
        return r;
    }

    static int item(String items, char letter, int untold) {
        int at = items.indexOf(letter);
        if (at < 0) return untold;
        int to = at + 1;
        while (to < items.length() && Character.isDigit(items.charAt(to))) to++;
        return Integer.parseInt(items.substring(at + 1, to));
    }

    /** Sign by sign, with a pile of what is open: ( [ and !. */
    static int tasteFault(String t) {
        String expect = "y";       // y : start operand after unit
        char phase = 'U';          // U: not known yet, L: left of a relation, R: right of it, S: the last sum
        String open = "";
        int digits = 0;
        for (int i = 0; i < t.length(); i++) {
            char c = t.charAt(i);
            boolean digit = c >= '0' && c <= '9';
            if (digit && digits > 0) {
                if (++digits > 4) return i;
                continue;
            }
            digits = 0;
            if (c == ' ') continue;
            boolean inBrackets = open.endsWith("[");
            switch (expect) {
                case "y":
                    if (c != 'y') return i;
                    expect = ":";
                    break;
                case ":":
                    if (c != ':') return i;
                    expect = "start";
                    phase = 'U';
                    break;
                case "start":
                case "operand":
                    if (expect.equals("start") && (c == '!' || c == '(')) {
                        if (open.length() == 6) return i;
                        open += c;
                        phase = 'L';
                    } else if (c == '[') {
                        if (open.length() == 6) return i;
                        open += c;
                        expect = "operand";
                    } else if (digit || "wfxqmp".indexOf(c) >= 0) {
                        digits = digit ? 1 : 0;
                        expect = "after";
                    } else return i;
                    break;
                default: // after an operand, or after a unit in ( )
                    if (expect.equals("after") && "+-*/".indexOf(c) >= 0) {
                        expect = "operand";
                    } else if (expect.equals("after") && inBrackets) {
                        if (c != ']') return i;
                        open = open.substring(0, open.length() - 1);
                    } else if (expect.equals("after") && (phase == 'U' || phase == 'L') && "=<>".indexOf(c) >= 0) {
                        phase = 'R';
                        expect = "operand";
                    } else if (phase == 'R' && "&|?)".indexOf(c) >= 0) {
                        while (open.endsWith("!")) open = open.substring(0, open.length() - 1);
                        if (c == ')') {
                            if (!open.endsWith("(")) return i;
                            open = open.substring(0, open.length() - 1);
                            expect = "unit";
                        } else if (c == '?') {
                            if (!open.isEmpty()) return i;
                            phase = 'S';
                            expect = "operand";
                        } else {
                            phase = 'L';
                            expect = "start";
                        }
                    } else if (c == ';' && expect.equals("after") && (phase == 'U' || phase == 'S')) {
                        expect = "y";
                    } else return i;
            }
        }
        boolean done = expect.equals("after") && open.isEmpty() && (phase == 'U' || phase == 'S');
        return done ? NONE : t.length();
    }

    int text(int sort) {
        if (fault(sort) != NONE) return NONE;
        if (sort == 1) {
            if (tastes.size() == 4) return NONE;
            tastes.add(tape.replace(" ", ""));
            tape = "";
            return tastes.size() - 1;
        }
        room = parseRoom(tape);
        tape = "";
        undos = new ArrayList<>();
        image = null;
        told = new ArrayList<>();
        st = new State();
        int n = room.sitters.size();
        st.where = new int[n];
        st.till = new int[n];
        st.keeps = new int[n];
        st.joy = new int[n];
        for (int p = 0; p < n; p++) {
            st.where[p] = room.sitters.get(p).s() == 8 ? NONE : room.sitters.get(p).s();
            st.till[p] = NONE;
            st.keeps[p] = room.sitters.get(p).k();
        }
        st.keptFor = new int[room.seats.size()];
        st.keptTill = new int[room.seats.size()];
        Arrays.fill(st.keptFor, NONE);
        Arrays.fill(st.keptTill, NONE);
        return n;
    }

    // ---------------------------------------------------------------- tastes, cut apart

    /** Where one of these signs stands outside all brackets, from the back; -1. */
    static int lastOutside(String t, String signs) {
        int deep = 0;
        for (int i = t.length() - 1; i >= 0; i--) {
            char c = t.charAt(i);
            if (c == ')' || c == ']') deep++;
            if (c == '(' || c == '[') deep--;
            if (deep == 0 && signs.indexOf(c) >= 0) return i;
        }
        return -1;
    }

    static long held(long v) {
        return Math.max(-1000000, Math.min(1000000, v));
    }

    static long sum(String t, int[] letters) {
        int at = lastOutside(t, "+-");
        if (at < 0) at = lastOutside(t, "*/");
        if (at >= 0) {
            long a = sum(t.substring(0, at), letters);
            long b = sum(t.substring(at + 1), letters);
            switch (t.charAt(at)) {
                case '+': return held(a + b);
                case '-': return held(a - b);
                case '*': return held(a * b);
                default: return b == 0 ? 0 : held(a / b);
            }
        }
        if (t.charAt(0) == '[') return sum(t.substring(1, t.length() - 1), letters);
        int letter = "wfxqmp".indexOf(t.charAt(0));
        return letter >= 0 ? letters[letter] : Integer.parseInt(t);
    }

    static boolean holds(String t, int[] letters) {
        int at = lastOutside(t, "|");
        if (at >= 0) return holds(t.substring(0, at), letters) | holds(t.substring(at + 1), letters);
        at = lastOutside(t, "&");
        if (at >= 0) return holds(t.substring(0, at), letters) & holds(t.substring(at + 1), letters);
        if (t.charAt(0) == '!') return !holds(t.substring(1), letters);
        if (t.charAt(0) == '(') return holds(t.substring(1, t.length() - 1), letters);
        at = lastOutside(t, "=<>");
        long a = sum(t.substring(0, at), letters);
        long b = sum(t.substring(at + 1), letters);
        return t.charAt(at) == '=' ? a == b : t.charAt(at) == '<' ? a < b : a > b;
    }

    static long worth(String taste, int[] letters) {
        for (String clause : taste.split(";")) {
            String body = clause.substring(2);
            int at = body.indexOf('?');
            if (at < 0 || holds(body.substring(0, at), letters)) return sum(body.substring(at + 1), letters);
        }
        return 0;
    }

    int liking(int p, int s, int minute) {
        if (s < 0) return 0;
        Seat seat = room.seats.get(s);
        int more = minute >= room.film ? seat.f() : 0;
        long v = seat.w() + more;
        if (held != NONE) {
            v = worth(tastes.get(held), new int[] {seat.w(), more, seat.x(), room.sitters.get(p).q(), minute, p});
        }
        return (int) Math.max(0, Math.min(999, v));
    }

    // ---------------------------------------------------------------- minutes

    void rise(State s, int p, int minutes, boolean keeping) {
        int from = s.where[p];
        s.where[p] = AWAY;
        s.till[p] = s.minute + minutes;
        if (keeping && from >= 0 && s.keeps[p] > 0) {
            s.keptFor[from] = p;
            s.keptTill[from] = s.minute + s.keeps[p];
        }
    }

    int distance(State s, int p, int to) {
        if (s.where[p] == NONE) return 99;
        return Math.abs(room.seats.get(s.where[p]).x() - room.seats.get(to).x());
    }

    boolean would(State s, int p, int to) {
        if (s.where[p] == AWAY) return false;
        return liking(p, to, s.minute) >= liking(p, s.where[p], s.minute) + room.sitters.get(p).b();
    }

    int moveUp(State s) {
        int moved = 0;
        while (true) {
            List<Integer> seats = new ArrayList<>();
            for (int t = 0; t < room.seats.size(); t++) {
                if (!s.free(t)) continue;
                boolean wanted = false;
                for (int p = 0; p < s.where.length; p++) wanted |= would(s, p, t);
                if (wanted) seats.add(t);
            }
            if (seats.isEmpty()) return moved;
            seats.sort((a, b) -> room.seats.get(b).w() != room.seats.get(a).w()
                    ? room.seats.get(b).w() - room.seats.get(a).w() : a - b);
            int seat = seats.get(0);
            List<Integer> takers = new ArrayList<>();
            for (int p = 0; p < s.where.length; p++) if (would(s, p, seat)) takers.add(p);
            takers.sort((a, b) -> {
                int qa = room.sitters.get(a).q();
                int qb = room.sitters.get(b).q();
                if (qa != qb) return qb - qa;
                int da = distance(s, a, seat);
                int db = distance(s, b, seat);
                return da != db ? da - db : a - b;
            });
            int p = takers.get(0);
            s.moves.add(new Move(p, s.where[p], seat, s.minute));
            s.where[p] = seat;
            moved++;
        }
    }

    void minute(State s, List<Going> goings) {
        for (int t = 0; t < s.keptFor.length; t++) {
            if (s.keptTill[t] == s.minute) {
                s.keptFor[t] = NONE;
                s.keptTill[t] = NONE;
            }
        }
        for (Going g : goings) {
            if (g.m() == s.minute && s.where[g.p()] != AWAY) rise(s, g.p(), g.d(), true);
        }
        List<Integer> back = new ArrayList<>();
        for (int p = 0; p < s.where.length; p++) if (s.where[p] == AWAY && s.till[p] == s.minute) back.add(p);
        back.sort((a, b) -> room.sitters.get(b).q() != room.sitters.get(a).q()
                ? room.sitters.get(b).q() - room.sitters.get(a).q() : a - b);
        for (int p : back) {
            int to = NONE;
            for (int t = 0; t < s.keptFor.length; t++) if (s.keptFor[t] == p) to = t;
            if (to != NONE) {
                s.keptFor[to] = NONE;
                s.keptTill[to] = NONE;
            } else {
                for (int t = 0; t < s.keptFor.length; t++) {
                    int l = liking(p, t, s.minute);
                    if (s.free(t) && l > 0 && (to == NONE || l > liking(p, to, s.minute))) to = t;
                }
            }
            s.where[p] = to;
            s.till[p] = NONE;
        }
        moveUp(s);
        for (int p = 0; p < s.where.length; p++) if (s.where[p] != AWAY) s.joy[p] += liking(p, s.where[p], s.minute);
        s.minute++;
    }

    State later(State from, int until, List<Going> goings) {
        State s = from.copy();
        while (s.minute < until && s.minute < room.end) minute(s, goings);
        return s;
    }

    List<Going> with(Going more) {
        List<Going> all = new ArrayList<>(room.goings);
        if (more != null) all.add(more);
        return all;
    }

    // ---------------------------------------------------------------- the face

    boolean hasSitter(int p) {
        return room != null && p >= 0 && p < room.sitters.size();
    }

    boolean hasSeat(int s) {
        return room != null && s >= 0 && s < room.seats.size();
    }

    boolean here(int p) {
        return hasSitter(p) && st.where[p] != AWAY;
    }

    int left() {
        return room == null ? 0 : room.end - st.minute;
    }

    int seat(int s, int what) {
        if (!hasSeat(s)) return NONE;
        switch (what) {
            case 0: return room.seats.get(s).w();
            case 1: return room.seats.get(s).f();
            case 2: return room.seats.get(s).x();
            case 3: return st.on(s);
            case 4: return st.keptFor[s];
            case 5: return st.keptTill[s];
            default: return NONE;
        }
    }

    int sitter(int p, int what) {
        if (!hasSitter(p)) throw new NoSuchElementException();
        switch (what) {
            case 0: return st.where[p];
            case 1: return st.till[p];
            case 2: return room.sitters.get(p).q();
            case 3: return room.sitters.get(p).b();
            case 4: return st.keeps[p];
            case 5: return st.joy[p];
            default: throw new NoSuchElementException();
        }
    }

    int going(int g, int what) {
        if (room == null || g < 0 || g >= room.goings.size()) return NONE;
        Going going = room.goings.get(g);
        return what == 0 ? going.p() : what == 1 ? going.m() : what == 2 ? going.d() : NONE;
    }

    boolean taste(int t) {
        if (t != NONE && (t < 0 || t >= tastes.size())) return false;
        held = t;
        return true;
    }

    boolean restless(int v) {
        if (v < 0 || v > 99 || v == restless) return false;
        restless = v;
        return true;
    }

    int likes(int p, int s) {
        if (!hasSitter(p) || s != NONE && !hasSeat(s)) return HIDDEN;
        return liking(p, s, st.minute);
    }

    int act() {
        undos.add(st.copy());
        if (undos.size() > 40) undos.remove(0);
        return undos.size();
    }

    int up(int p, int minutes) {
        if (!here(p) || minutes < 1 || minutes > 9 || left() == 0) return NONE;
        act();
        rise(st, p, minutes, true);
        return st.till[p];
    }

    int keeps(int p, int minutes) {
        if (!hasSitter(p) || minutes < 0 || minutes > 9 || st.keeps[p] == minutes) return NONE;
        act();
        st.keeps[p] = minutes;
        return undos.size();
    }

    int swap(int a, int b) {
        if (!here(a) || !here(b) || a == b || st.where[a] == NONE && st.where[b] == NONE) return NONE;
        act();
        int t = st.where[a];
        st.where[a] = st.where[b];
        st.where[b] = t;
        return undos.size();
    }

    int go(int n) {
        if (room == null || n < 1 || n > 60 || n > left()) return NONE;
        for (int i = 0; i < n; i++) {
            act();
            minute(st, room.goings);
        }
        return st.minute;
    }

    long x;

    int draw(int m) {
        x = x * 6364136223846793005L + 1442695040888963407L;
        return (int) ((x >>> 33) % m);
    }

    int winter(int n, long seed) {
        if (room == null || n < 1 || n > 60 || n > left()) return NONE;
        x = seed;
        for (int i = 0; i < n; i++) {
            act();
            for (int p = 0; p < st.where.length; p++) {
                if (st.where[p] == AWAY) continue;
                if (draw(100) < restless) rise(st, p, 1 + draw(3), true);
            }
            minute(st, room.goings);
        }
        return st.minute;
    }

    int undo() {
        if (undos.isEmpty()) return NONE;
        st = undos.remove(undos.size() - 1);
        return undos.size();
    }

    List<Move> latest() {
        List<Move> out = new ArrayList<>();
        if (room == null) return out;
        for (int i = st.moves.size() - 1; i >= 0 && out.size() < 60; i--) out.add(st.moves.get(i));
        return out;
    }

    int log(int i, int what) {
        List<Move> log = latest();
        if (i < 0 || i >= log.size()) return HIDDEN;
        Move m = log.get(i);
        switch (what) {
            case 0: return m.who();
            case 1: return m.from();
            case 2: return m.to();
            case 3: return m.minute();
            default: return HIDDEN;
        }
    }

    int ahead(int p, int n, int what) {
        if (!hasSitter(p) || n < 0 || n > left() || what < 0 || what > 1) return HIDDEN;
        State s = later(st, st.minute + n, room.goings);
        return what == 0 ? s.where[p] : s.joy[p];
    }

    int chain(int p, int what) {
        if (!here(p) || st.where[p] == NONE || left() == 0 || what < 0 || what > 1) return HIDDEN;
        State s = st.copy();
        rise(s, p, 1, true);
        int moved = moveUp(s);
        return what == 0 ? moved : s.on(st.where[p]);
    }

    int when(int p, int d, int n, int what) {
        if (!hasSitter(p) || d < 1 || d > 9 || n < 1 || n > 30 || left() == 0 || what < 0 || what > 1) return HIDDEN;
        int best = NONE;
        int joy = NONE;
        for (int m = st.minute; m < st.minute + n && m < room.end; m++) {
            int j = later(st, room.end, with(new Going(p, m, d))).joy[p];
            if (j > joy) {
                joy = j;
                best = m;
            }
        }
        return what == 0 ? best : joy;
    }

    int joyKeeping(int p, int k) {
        State s = st.copy();
        s.keeps[p] = k;
        return later(s, room.end, room.goings).joy[p];
    }

    int keeping(int p, int k) {
        if (!hasSitter(p) || k < 0 || k > 9) return HIDDEN;
        return joyKeeping(p, k) - joyKeeping(p, 0);
    }

    int best(int p, int what) {
        if (!here(p) || what < 0 || what > 1) return HIDDEN;
        List<Integer> places = new ArrayList<>();
        places.add(st.where[p]);
        for (int s = 0; s < room.seats.size(); s++) if (st.free(s)) places.add(s);
        int best = 0;
        int joy = NONE;
        for (int place : places) {
            State s = st.copy();
            s.where[p] = place;
            int j = later(s, room.end, room.goings).joy[p];
            if (j > joy) {
                joy = j;
                best = place;
            }
        }
        return what == 0 ? best : joy;
    }

    int sure(int p) {
        if (!hasSitter(p)) return NONE;
        int bits = (1 << room.seats.size()) - 1;
        for (int m = Math.max(st.minute, room.film); m < room.end; m++) {
            int where = later(st, m + 1, room.goings).where[p];
            bits &= where < 0 ? 0 : 1 << where;
        }
        return bits;
    }

    List<Integer> heres() {
        List<Integer> out = new ArrayList<>();
        if (room != null) for (int p = 0; p < st.where.length; p++) if (st.where[p] != AWAY) out.add(p);
        return out;
    }

    /** What each of those here has by these numbers. */
    int[] has(int[] numbers, int c) {
        List<Integer> all = heres();
        int least = 4;
        for (int n : numbers) least = Math.min(least, n);
        Going more = null;
        if (least < 4) {
            int goes = NONE;
            for (int i = 0; i < numbers.length; i++) {
                int p = all.get(i);
                if (numbers[i] == least && (goes == NONE || room.sitters.get(p).q() > room.sitters.get(goes).q())) goes = p;
            }
            more = new Going(goes, st.minute + least, 1);
        }
        State s = later(st, room.end, with(more));
        int[] out = new int[numbers.length];
        for (int i = 0; i < out.length; i++) out[i] = s.joy[all.get(i)] - c * least;
        return out;
    }

    static int[] digits(int row, int n) {
        String t = String.valueOf(row);
        while (t.length() < n) t = "0" + t;
        if (row < 0 || t.length() > n) return null;
        int[] out = new int[n];
        for (int i = 0; i < n; i++) {
            out[i] = t.charAt(i) - '0';
            if (out[i] > 4) return null;
        }
        return out;
    }

    int call(int row, int c, int p) {
        List<Integer> all = heres();
        if (c < 0 || c > 99 || all.isEmpty() || all.size() > 4 || left() == 0 || !all.contains(p)) return HIDDEN;
        int[] numbers = digits(row, all.size());
        return numbers == null ? HIDDEN : has(numbers, c)[all.indexOf(p)];
    }

    int rests(int c, int i) {
        int n = heres().size();
        if (c < 0 || c > 99 || n == 0 || n > 4 || left() == 0) return HIDDEN;
        java.util.Map<Integer, int[]> known = new java.util.HashMap<>();
        List<Integer> rests = new ArrayList<>();
        for (int row = 0; row <= 4444; row++) {
            int[] numbers = digits(row, n);
            if (numbers == null) continue;
            known.put(row, has(numbers, c));
        }
        for (int row = 0; row <= 4444; row++) {
            int[] numbers = digits(row, n);
            if (numbers == null) continue;
            boolean rest = true;
            int ten = 1;
            for (int k = n - 1; k >= 0; k--) {
                for (int other = 0; other <= 4; other++) {
                    int alone = row + (other - numbers[k]) * ten;
                    if (known.get(alone)[k] > known.get(row)[k]) rest = false;
                }
                ten *= 10;
            }
            if (rest) rests.add(row);
        }
        if (i == NONE) return rests.size();
        return i >= 0 && i < rests.size() ? rests.get(i) : NONE;
    }

    int broken(int p) {
        if (!hasSitter(p) || left() < 2) return HIDDEN;
        State s = st.copy();
        for (int o = 0; o < s.where.length; o++) if (s.where[o] != AWAY) rise(s, o, 1, false);
        minute(s, room.goings);
        minute(s, room.goings);
        return s.where[p];
    }

    int fairOrder;
    int fairGap;

    int fair(int d, int what) {
        if (room == null || d < 1 || d > 3 || what < 0 || what > 1) return HIDDEN;
        int n = st.where.length;
        if (n > 5 || left() < n) return HIDDEN;
        fairGap = Integer.MAX_VALUE;
        for (int row = 0; row <= 43210; row++) {
            String t = String.valueOf(row);
            while (t.length() < n) t = "0" + t;
            if (t.length() > n) break;
            List<Going> goings = new ArrayList<>(room.goings);
            boolean all = true;
            for (int p = 0; p < n; p++) all &= t.indexOf('0' + p) >= 0;
            if (!all) continue;
            for (int i = 0; i < n; i++) goings.add(new Going(t.charAt(i) - '0', st.minute + i, d));
            int gap = gap(later(st, room.end, goings));
            if (gap < fairGap) {
                fairGap = gap;
                fairOrder = row;
            }
        }
        return what == 0 ? fairOrder : fairGap;
    }

    static int gap(State s) {
        return Arrays.stream(s.joy).max().getAsInt() - Arrays.stream(s.joy).min().getAsInt();
    }

    int rule(int what) {
        if (room == null || what < 0 || what > 1) return NONE;
        int best = NONE;
        int fewest = Integer.MAX_VALUE;
        for (int k = 0; k <= 9; k++) {
            State s = st.copy();
            Arrays.fill(s.keeps, k);
            int moves = later(s, room.end, room.goings).moves.size() - st.moves.size();
            if (moves < fewest) {
                fewest = moves;
                best = k;
            }
        }
        return what == 0 ? best : fewest;
    }

    int tells(int p, int s) {
        if (!hasSitter(p) || s != NONE && s != AWAY && !hasSeat(s) || told.size() == 8) return NONE;
        told.add(new int[] {p, s});
        return told.size();
    }

    int been(int i) {
        if (room == null) return NONE;
        List<Integer> sets = new ArrayList<>();
        int may = 0;
        for (int g = 0; g < room.goings.size(); g++) if (room.goings.get(g).m() >= st.minute) may |= 1 << g;
        for (int set = 0; set < 1024; set++) {
            if ((set & ~may) != 0) continue;
            List<Going> some = new ArrayList<>();
            for (int g = 0; g < room.goings.size(); g++) if ((set >> g & 1) != 0) some.add(room.goings.get(g));
            State s = later(st, room.end, some);
            boolean so = true;
            for (int[] t : told) so &= s.where[t[0]] == t[1];
            if (so) sets.add(set);
        }
        if (i == NONE) return sets.size();
        return i >= 0 && i < sets.size() ? sets.get(i) : NONE;
    }

    int ladder(int i) {
        if (room == null || i < 0 || i >= room.seats.size()) return NONE;
        List<Integer> seats = new ArrayList<>();
        for (int s = 0; s < room.seats.size(); s++) seats.add(s);
        seats.sort((a, b) -> room.seats.get(b).w() - room.seats.get(a).w());
        return seats.get(i);
    }

    int envy() {
        if (room == null) return NONE;
        int bits = 0;
        for (int p = 0; p < st.where.length; p++) {
            for (int s = 0; s < room.seats.size(); s++) {
                int on = st.on(s);
                if (on != NONE && on != p && would(st, p, s)) bits |= 1 << p;
            }
        }
        return bits;
    }

    int warm() {
        for (Move m : latest()) if (m.from() != NONE) return m.from();
        return NONE;
    }

    int often(int p) {
        if (!hasSitter(p)) return NONE;
        return (int) latest().stream().filter(m -> m.who() == p).count();
    }

    int even() {
        return room == null ? NONE : gap(st);
    }

    int image() {
        if (room == null) return NONE;
        image = st.copy();
        return st.minute;
    }

    int back() {
        if (image == null) return NONE;
        st = image.copy();
        undos = new ArrayList<>();
        return st.minute;
    }

    int count(int what) {
        if (what < 0 || what > 12) return HIDDEN;
        switch (what) {
            case 3: return tastes.size();
            case 4: return tape.length();
            case 5: return held;
            case 9: return restless;
            default:
        }
        if (room == null) return 0;
        switch (what) {
            case 0: return room.seats.size();
            case 1: return room.sitters.size();
            case 2: return room.goings.size();
            case 6: return st.minute;
            case 7: return room.end;
            case 8: return room.film;
            case 10: return latest().size();
            case 11: return undos.size();
            default: return told.size();
        }
    }
}
