import java.lang.reflect.InvocationTargetException;
import java.lang.reflect.Method;
import java.lang.reflect.Modifier;
import java.util.ArrayList;
import java.util.List;
import java.util.NoSuchElementException;
import java.util.function.Supplier;
import java.util.function.ToLongFunction;

/** What the tests of boundary cases share: each of their static void methods without arguments is one test. */
final class Edge {
    static final int NONE = -1;
    static final int AWAY = -2;
    static final int HIDDEN = -1000000;
    static final int THROWN = 1;
    static final int LEAST = Integer.MIN_VALUE;
    static final int MOST = Integer.MAX_VALUE;

    private Edge() { }

    /** Runs all tests of a class, each by itself: one that asks nothing, or throws, has failed too. */
    static void runAll(Class<?> tests) {
        int failed = 0;
        for (Method test : tests.getDeclaredMethods()) {
            boolean isTest = Modifier.isStatic(test.getModifiers()) && test.getParameterCount() == 0
                    && test.getReturnType() == void.class && !test.isSynthetic();
            if (isTest && !passes(test)) {
                failed++;
                System.out.println("FAILED: " + tests.getSimpleName() + "." + test.getName());
            }
        }
        if (failed > 0) System.exit(1);
        Check.close();
    }

    private static boolean passes(Method test) {
        int asked = Check.asked();
        int wrong = Check.wrong();
        test.setAccessible(true);
        try {
            test.invoke(null);
        } catch (InvocationTargetException e) {
            e.getCause().printStackTrace(System.out);
            return false;
        } catch (IllegalAccessException e) {
            return false;
        }
        return Check.asked() > asked && Check.wrong() == wrong;
    }

    // ---- texts

    /** Each of these texts has no fault, and is taken. */
    static void right(int sort, String... texts) {
        for (String text : texts) {
            LostPlaces x = new LostPlaces();
            Check.feed(x, text);
            Check.due("fault(" + sort + ") of \"" + text + "\"", x.fault(sort), NONE);
            Check.due("text(" + sort + ") of \"" + text + "\" refused", x.text(sort) < 0, false);
            Check.due("bytes behind text(" + sort + ") of \"" + text + "\"", x.count(4), 0);
        }
    }

    /** Each of these texts has its fault at that byte, and is refused: the tape stays. */
    static void wrong(int sort, Object... textsAndFaults) {
        for (int i = 0; i + 1 < textsAndFaults.length; i += 2) {
            wrongAt(sort, (String) textsAndFaults[i], (Integer) textsAndFaults[i + 1]);
        }
    }

    private static void wrongAt(int sort, String text, int at) {
        String of = " of \"" + text + "\"";
        LostPlaces x = new LostPlaces();
        Check.feed(x, text);
        Check.due("fault(" + sort + ")" + of, x.fault(sort), at);
        Check.due("text(" + sort + ")" + of, x.text(sort), NONE);
        Check.due("bytes behind the refused text" + of, x.count(4), text.length());
        Check.due("rooms and tastes behind the refused text" + of, x.count(0) + x.count(1) + x.count(3), 0);
        Check.due("fault(" + sort + ") again" + of, x.fault(sort), at);
        if (at >= text.length()) return;
        // what stands behind the fault does not count
        Check.due("fault(" + sort + ")" + of + " up to it", Check.fault(text.substring(0, at + 1), sort), at);
        // and what stands ahead of it can go on, if it is no digit: then the text up to it is whole or ends too early
        if (Character.isDigit(text.charAt(at))) return;
        int ahead = Check.fault(text.substring(0, at), sort);
        Check.due("fault(" + sort + ")" + of + " ahead of it", ahead == NONE ? at : ahead, at);
    }

    /** The first text ends too early: its fault is its length; with the rest behind it, it is right. */
    static void early(int sort, String... textsAndRests) {
        for (int i = 0; i + 1 < textsAndRests.length; i += 2) {
            wrongAt(sort, textsAndRests[i], textsAndRests[i].length());
            right(sort, textsAndRests[i] + textsAndRests[i + 1]);
        }
    }

    static String times(String text, int n) {
        return text.repeat(n);
    }

    // ---- what is refused, and what only asks

    /** The call answers so, and behind it all other calls answer as if it had not been. */
    static void refused(Supplier<LostPlaces> start, long want, String call, ToLongFunction<LostPlaces> ask) {
        LostPlaces x = start.get();
        Check.due(call, ask.applyAsLong(x), want);
        same("behind " + call, x, start.get());
    }

    /** The call changes nothing: all other calls answer as if it had not been. */
    static void apart(Supplier<LostPlaces> start, String call, ToLongFunction<LostPlaces> ask) {
        LostPlaces x = start.get();
        ask.applyAsLong(x);
        same("behind " + call, x, start.get());
    }

    static void same(String when, LostPlaces x, LostPlaces y) {
        List<String> got = look(x);
        List<String> due = look(y);
        int differ = 0;
        while (differ < got.size() && differ < due.size() && got.get(differ).equals(due.get(differ))) differ++;
        boolean alike = differ == got.size() && differ == due.size();
        String what = alike ? "" : got.get(Math.min(differ, got.size() - 1)) + ", due is "
                + due.get(Math.min(differ, due.size() - 1));
        Check.due(when + " all is as before it: " + what, alike, true);
    }

    static int thrown(LostPlaces x, int sitter, int what) {
        try {
            x.sitter(sitter, what);
            return 0;
        } catch (NoSuchElementException e) {
            return THROWN;
        }
    }

    private static long[] numbers(long... numbers) {
        return numbers;
    }

    /** What all calls answer; for this the object is used up: all acts are undone, its image is come back to. */
    private static List<String> look(LostPlaces x) {
        List<String> seen = new ArrayList<>();
        state(seen, x);
        questions(seen, x);
        add(seen, "envy, warm, even", numbers(x.envy(), x.warm(), x.even()));
        int sitters = x.count(1);
        for (int left = x.count(11); left >= 0; left--) {
            add(seen, "undo, minute, log", numbers(x.undo(), x.count(6), x.count(10)));
            if (sitters > 0) add(seen, "where, joy, keeps", numbers(x.sitter(0, 0), x.sitter(0, 5), x.sitter(0, 4)));
        }
        add(seen, "winter", numbers(x.winter(1, 77L), x.undo()));
        add(seen, "back, undo", numbers(x.back(), x.undo()));
        for (int p = 0; p < sitters; p++) add(seen, "where, joy", numbers(x.sitter(p, 0), x.sitter(p, 1), x.sitter(p, 5)));
        for (int t = -1; t <= 4; t++) add(seen, "taste, likes", numbers(x.taste(t) ? 1 : 0, x.likes(0, 0)));
        add(seen, "texts", numbers(x.text(1), x.text(0), x.count(0), x.count(1), x.count(3), x.count(4)));
        return seen;
    }

    private static void state(List<String> seen, LostPlaces x) {
        int seats = x.count(0);
        int sitters = x.count(1);
        for (int what = 0; what <= 12; what++) add(seen, "count " + what, numbers(x.count(what)));
        add(seen, "faults", numbers(x.fault(0), x.fault(1)));
        for (int s = 0; s < seats; s++) {
            add(seen, "seat " + s, numbers(x.seat(s, 0), x.seat(s, 1), x.seat(s, 2), x.seat(s, 3), x.seat(s, 4), x.seat(s, 5)));
        }
        for (int p = 0; p < sitters; p++) {
            add(seen, "sitter " + p, numbers(x.sitter(p, 0), x.sitter(p, 1), x.sitter(p, 2), x.sitter(p, 3), x.sitter(p, 4),
                    x.sitter(p, 5)));
            for (int s = -1; s < seats && s < 2; s++) add(seen, "likes " + p, numbers(x.likes(p, s)));
        }
        int goings = x.count(2);
        for (int g = 0; g < goings && g < 2; g++) add(seen, "going " + g, numbers(x.going(g, 0), x.going(g, 1), x.going(g, 2)));
        int logged = x.count(10);
        for (int i = 0; i < logged && i < 4; i++) {
            add(seen, "log " + i, numbers(x.log(i, 0), x.log(i, 1), x.log(i, 2), x.log(i, 3)));
        }
    }

    private static void questions(List<String> seen, LostPlaces x) {
        int left = x.count(7) - x.count(6);
        int sitters = x.count(1);
        // these first: what another question left behind would be seen by them
        for (int p = 0; p < sitters && p < 4; p++) {
            add(seen, "ahead " + p, numbers(x.ahead(p, 1, 0), x.ahead(p, left, 0), x.ahead(p, left, 1)));
        }
        for (int p = 0; p < sitters && p < 4; p++) {
            add(seen, "chain, when " + p, numbers(x.chain(p, 0), x.chain(p, 1), x.when(p, 2, 5, 0), x.when(p, 2, 5, 1)));
            add(seen, "keeping, best " + p, numbers(x.keeping(p, 2), x.best(p, 0), x.best(p, 1)));
            add(seen, "sure, call " + p, numbers(x.sure(p), x.call(1, 2, p), x.broken(p), x.often(p)));
        }
        add(seen, "rests", numbers(x.rests(2, -1), x.rests(2, 0)));
        add(seen, "fair, rule", numbers(x.fair(1, 0), x.fair(1, 1), x.rule(0), x.rule(1)));
        add(seen, "been", numbers(x.been(-1), x.been(0), x.ladder(0), x.ladder(1)));
    }

    private static void add(List<String> seen, String what, long[] answers) {
        StringBuilder t = new StringBuilder(what).append(':');
        for (long answer : answers) t.append(' ').append(answer);
        seen.add(t.toString());
    }

    // ---- where refused calls start from

    /** In the midst of an evening: moves, acts, an image, what is told, one away with a seat kept, a text on the tape. */
    static LostPlaces busy() {
        LostPlaces x = Check.room("sw9f2x3;sw5x1;sw7x8;ps0q7k3;ps1b2;p;gp1m4d1;gm6d2;ef5t9");
        Check.taste(x, "y:w+f+m/9");
        Check.taste(x, "y:w+f");
        x.restless(20);
        x.go(1);
        x.image();
        x.tells(0, 0);
        x.up(0, 2);
        x.keeps(1, 4);
        x.swap(1, 2);
        Check.feed(x, "sw3;p");
        return x;
    }

    /** The same evening at its end. */
    static LostPlaces ended() {
        LostPlaces x = busy();
        x.go(8);
        return x;
    }

    /** Without a room, but with all that needs none. */
    static LostPlaces roomless() {
        LostPlaces x = new LostPlaces();
        Check.taste(x, "y:w+3");
        x.restless(9);
        Check.feed(x, "sw4;s;p");
        return x;
    }
}
