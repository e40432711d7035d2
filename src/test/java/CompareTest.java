import java.util.NoSuchElementException;
import java.util.Random;

/** Runs of drawn calls (of fixed seeds) on LostPlaces and on Plain: each answer has to be the same. */
public final class CompareTest {
    private static int wrong = 0;
    private static Random r;
    private static LostPlaces x;
    private static Plain y;
    private static int run;
    private static final StringBuilder story = new StringBuilder();

    public static void main(String[] args) {
        int from = args.length > 0 ? Integer.parseInt(args[0]) : 0;
        int runs = args.length > 1 ? Integer.parseInt(args[1]) : 1500;
        for (run = from; run < from + runs && wrong < 5; run++) {
            r = new Random(run * 7919L + 17);
            x = new LostPlaces();
            y = new Plain();
            story.setLength(0);
            oneRun();
        }
        if (wrong != 0) System.exit(1);
    }

    private static void due(String call, long got, long want) {
        if (story.length() < 20000) story.append(call).append(" -> ").append(want).append('\n');
        if (got == want) return;
        wrong++;
        System.out.println("run " + run + ": " + call + " answered " + got + ", plainly due is " + want);
        if (wrong == 1) System.out.println(story);
    }

    private static int pick(int n) {
        return r.nextInt(n);
    }

    private static void oneRun() {
        boolean late = pick(3) > 0;
        if (pick(8) == 0) calls(20);
        if (late) taste();
        for (int rooms = 1 + pick(3); rooms > 0; rooms--) {
            feedBoth(drawnRoom());
            due("fault(0)", x.fault(0), y.fault(0));
            due("text(0)", x.text(0), y.text(0));
            calls(10 + pick(60));
            if (pick(3) == 0) taste();
            calls(10 + pick(60));
        }
    }

    private static void taste() {
        feedBoth(drawnTaste());
        due("fault(1)", x.fault(1), y.fault(1));
        due("text(1)", x.text(1), y.text(1));
        int t = pick(6) - 1;
        due("taste(" + t + ")", x.taste(t) ? 1 : 0, y.taste(t) ? 1 : 0);
    }

    // ---- texts

    private static void feedBoth(String t) {
        due("end(0)", x.end(0) ? 1 : 0, y.end(0) ? 1 : 0);
        story.append("tape ").append(t).append('\n');
        for (int i = 0; i < t.length();) {
            int[] words = new int[5];
            for (int k = 0; k < 20; k++) {
                boolean skip = pick(9) == 0 || i >= t.length();
                int sign = skip ? 0 : t.charAt(i++);
                words[k / 4] = words[k / 4] << 8 | sign;
            }
            due("feed", x.feed(words[0], words[1], words[2], words[3], words[4]),
                    y.feed(words[0], words[1], words[2], words[3], words[4]));
        }
        if (pick(5) == 0) {
            int n = pick(t.length() + 3) - 1;
            due("end(" + n + ")", x.end(n) ? 1 : 0, y.end(n) ? 1 : 0);
        }
    }

    private static String item(char letter, int least, int most) {
        if (pick(2) == 0) return "";
        int v = least + pick(most - least + 1);
        return letter + (v < 10 && pick(8) == 0 ? "0" : "") + v;
    }

    private static String drawnRoom() {
        int seats = 1 + pick(pick(4) == 0 ? 8 : 4);
        int sitters = 1 + pick(pick(4) == 0 ? 8 : 5);
        int ends = pick(3) == 0 ? 1 + pick(12) : pick(2) == 0 ? 1 + pick(30) : 1 + pick(99);
        int worths = pick(3) == 0 ? 3 : 99;
        boolean[] taken = new boolean[9];
        java.util.List<String> clauses = new java.util.ArrayList<>();
        for (int i = 0; i < seats; i++) clauses.add("s" + item('w', 0, worths) + item('f', 0, 99) + item('x', 0, 19));
        for (int i = 0; i < sitters; i++) {
            int at = pick(seats + 1);
            if (at == seats || taken[at]) at = 8;
            taken[at] = true;
            clauses.add("p" + (at == 8 && pick(2) == 0 ? "" : "s" + at) + item('q', 0, pick(2) == 0 ? 9 : 1)
                    + item('b', 1, pick(3) == 0 ? 99 : 8) + item('k', 0, 9));
        }
        for (int i = pick(pick(5) == 0 ? 11 : 5); i > 0; i--) {
            clauses.add("g" + (sitters > 1 ? "p" + pick(sitters) : "") + "m" + pick(Math.min(99, ends + 3)) + item('d', 1, 9));
        }
        if (pick(8) > 0) clauses.add("e" + "t" + ends + "f" + pick(Math.min(99, ends + 4)));
        // seats and sitters keep their order among themselves only by chance: what they are told by is their number
        if (pick(4) == 0) java.util.Collections.shuffle(clauses, r);
        return marred(String.join(";", clauses), "spgewfxqbkmdt;0123456789 ");
    }

    private static String drawnTaste() {
        StringBuilder t = new StringBuilder();
        for (int i = 1 + pick(3); i > 0; i--) {
            if (t.length() > 0) t.append(';');
            t.append("y:");
            if (pick(2) == 0) t.append(condition(3)).append('?');
            t.append(sum(3));
        }
        return marred(t.toString(), "y:?!([])|&=<>+-*/wfxqmp0123456789; ");
    }

    private static String marred(String t, String signs) {
        StringBuilder s = new StringBuilder(t);
        if (pick(4) == 0) for (int i = pick(6); i > 0; i--) s.insert(pick(s.length() + 1), ' ');
        if (pick(3) == 0) {
            for (int i = 1 + pick(2); i > 0; i--) {
                int at = pick(s.length() + 1);
                char c = signs.charAt(pick(signs.length()));
                if (pick(12) == 0) c = (char) (1 + pick(255));
                if (pick(2) == 0 || at >= s.length()) s.insert(at, c);
                else if (pick(2) == 0) s.setCharAt(at, c);
                else s.deleteCharAt(at);
            }
        }
        return s.toString();
    }

    private static String condition(int deep) {
        StringBuilder t = new StringBuilder(unit(deep));
        while (pick(3) == 0) t.append("&|".charAt(pick(2))).append(unit(deep));
        return t.toString();
    }

    private static String unit(int deep) {
        if (deep > 0 && pick(4) == 0) return "!" + unit(deep - 1);
        if (deep > 0 && pick(4) == 0) return "(" + condition(deep - 1) + ")";
        return sum(Math.min(deep, 1)) + "=<>".charAt(pick(3)) + sum(Math.min(deep, 1));
    }

    private static String sum(int deep) {
        StringBuilder t = new StringBuilder(atom(deep));
        while (pick(2) == 0) t.append("+-*/".charAt(pick(4))).append(atom(deep));
        return t.toString();
    }

    private static String atom(int deep) {
        if (deep > 0 && pick(5) == 0) return "[" + sum(deep - 1) + "]";
        if (pick(2) == 0) return String.valueOf(pick(pick(4) == 0 ? 10000 : 30));
        return String.valueOf("wfxqmpw".charAt(pick(7)));
    }

    // ---- calls

    private static int sitterNumber() {
        return pick(12) == 0 ? pick(12) - 3 : pick(Math.max(1, y.count(1)));
    }

    private static int seatNumber() {
        return pick(8) == 0 ? pick(12) - 3 : pick(Math.max(1, y.count(0)));
    }

    private static int out(int least, int most) {
        return pick(12) == 0 ? (pick(2) == 0 ? least - 1 - pick(2) : most + 1 + pick(2)) : least + pick(most - least + 1);
    }

    private static void calls(int n) {
        for (int i = 0; i < n && wrong < 5; i++) {
            oneCall();
            if (pick(4) == 0) look();
        }
    }

    private static void look() {
        for (int what = -1; what <= 13; what++) due("count(" + what + ")", x.count(what), y.count(what));
        for (int s = -1; s <= y.count(0); s++) {
            for (int what = -1; what <= 6; what++) due("seat(" + s + "," + what + ")", x.seat(s, what), y.seat(s, what));
        }
        for (int p = -1; p <= y.count(1); p++) for (int what = -1; what <= 6; what++) sitterBoth(p, what);
        for (int g = -1; g <= y.count(2); g++) {
            for (int what = -1; what <= 3; what++) due("going", x.going(g, what), y.going(g, what));
        }
        for (int i = -1; i <= y.count(10); i++) {
            for (int what = -1; what <= 4; what++) due("log(" + i + "," + what + ")", x.log(i, what), y.log(i, what));
        }
        due("envy()", x.envy(), y.envy());
        due("warm()", x.warm(), y.warm());
        due("even()", x.even(), y.even());
    }

    private static void sitterBoth(int p, int what) {
        long got;
        long want;
        try { got = x.sitter(p, what); } catch (NoSuchElementException e) { got = 1L << 40; }
        try { want = y.sitter(p, what); } catch (NoSuchElementException e) { want = 1L << 40; }
        due("sitter(" + p + "," + what + ")", got, want);
    }

    private static void oneCall() {
        int p = sitterNumber();
        int what = out(0, 1);
        switch (pick(32)) {
            case 0: { int m = out(1, 9); due("up(" + p + "," + m + ")", x.up(p, m), y.up(p, m)); break; }
            case 1: { int m = out(1, 3); due("up(" + p + "," + m + ")", x.up(p, m), y.up(p, m)); break; }
            case 2: { int m = out(0, 9); due("keeps(" + p + "," + m + ")", x.keeps(p, m), y.keeps(p, m)); break; }
            case 3: { int o = sitterNumber(); due("swap(" + p + "," + o + ")", x.swap(p, o), y.swap(p, o)); break; }
            case 4: case 5: { int n = out(1, 3); due("go(" + n + ")", x.go(n), y.go(n)); break; }
            case 6: { int n = out(1, pick(4) == 0 ? 60 : 8); due("go(" + n + ")", x.go(n), y.go(n)); break; }
            case 7: { int n = out(1, 6); long s = r.nextLong(); due("winter(" + n + "," + s + ")", x.winter(n, s), y.winter(n, s)); break; }
            case 8: { int v = out(0, 99); due("restless(" + v + ")", x.restless(v) ? 1 : 0, y.restless(v) ? 1 : 0); break; }
            case 9: for (int i = pick(5); i >= 0; i--) due("undo()", x.undo(), y.undo()); break;
            case 10: { int s = seatNumber(); due("likes(" + p + "," + s + ")", x.likes(p, s), y.likes(p, s)); break; }
            case 11: case 12: { int n = out(0, Math.max(0, y.left())); due("ahead(" + p + "," + n + "," + what + ")", x.ahead(p, n, what), y.ahead(p, n, what)); break; }
            case 13: due("chain(" + p + "," + what + ")", x.chain(p, what), y.chain(p, what)); break;
            case 14: { int d = out(1, 9); int n = out(1, 30); due("when(" + p + "," + d + "," + n + "," + what + ")", x.when(p, d, n, what), y.when(p, d, n, what)); break; }
            case 15: { int k = out(0, 9); due("keeping(" + p + "," + k + ")", x.keeping(p, k), y.keeping(p, k)); break; }
            case 16: due("best(" + p + "," + what + ")", x.best(p, what), y.best(p, what)); break;
            case 17: due("sure(" + p + ")", x.sure(p), y.sure(p)); break;
            case 18: { int row = drawnRow(); int c = out(0, 99); due("call(" + row + "," + c + "," + p + ")", x.call(row, c, p), y.call(row, c, p)); break; }
            case 19: if (pick(4) == 0) restsBoth(); break;
            case 20: due("broken(" + p + ")", x.broken(p), y.broken(p)); break;
            case 21: if (pick(2) == 0) { int d = out(1, 3); due("fair(" + d + "," + what + ")", x.fair(d, what), y.fair(d, what)); } break;
            case 22: due("rule(" + what + ")", x.rule(what), y.rule(what)); break;
            case 23: { int s = pick(2) == 0 ? pick(2) - 2 : seatNumber(); due("tells(" + p + "," + s + ")", x.tells(p, s), y.tells(p, s)); break; }
            case 24: if (pick(3) == 0) beenBoth(); break;
            case 25: { int i = out(0, 7); due("ladder(" + i + ")", x.ladder(i), y.ladder(i)); break; }
            case 26: due("often(" + p + ")", x.often(p), y.often(p)); break;
            case 27: due("image()", x.image(), y.image()); break;
            case 28: due("back()", x.back(), y.back()); break;
            case 29: { int t = pick(6) - 1; due("taste(" + t + ")", x.taste(t) ? 1 : 0, y.taste(t) ? 1 : 0); break; }
            case 30: { int f = pick(4) - 1; due("fault(" + f + ")", x.fault(f), y.fault(f)); break; }
            default: { int f = pick(4) - 1; if (pick(4) == 0) due("text(" + f + ")", x.text(f), y.text(f)); break; }
        }
    }

    private static int drawnRow() {
        int row = 0;
        int n = Math.min(9, y.heres().size());
        for (int i = 0; i < n; i++) row = row * 10 + pick(pick(30) == 0 ? 7 : 5);
        return pick(20) == 0 ? row * 10 - pick(3) : row;
    }

    private static void restsBoth() {
        int c = out(0, pick(2) == 0 ? 99 : 20);
        int n = y.rests(c, -1);
        due("rests(" + c + ",-1)", x.rests(c, -1), n);
        int i = n > 0 ? pick(n + 2) - 2 : pick(3);
        due("rests(" + c + "," + i + ")", x.rests(c, i), y.rests(c, i));
    }

    private static void beenBoth() {
        int n = y.been(-1);
        due("been(-1)", x.been(-1), n);
        int i = n > 0 ? pick(n + 2) - 2 : pick(3);
        due("been(" + i + ")", x.been(i), y.been(i));
    }
}
