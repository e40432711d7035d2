import java.lang.reflect.Constructor;
import java.lang.reflect.Field;
import java.lang.reflect.Method;
import java.lang.reflect.Modifier;
import java.util.Set;
import java.util.TreeSet;

/** The constants, the face of the class, and the rules of the language that can be seen from outside. */
public final class FaceTest {
    private static final String[] FACE = {
        "int feed(int,int,int,int,int)", "boolean end(int)", "int fault(int)", "int text(int)", "int seat(int,int)",
        "int sitter(int,int)", "int going(int,int)", "boolean taste(int)", "boolean restless(int)", "int likes(int,int)",
        "int up(int,int)", "int keeps(int,int)", "int swap(int,int)", "int go(int)", "int winter(int,long)", "int undo()",
        "int log(int,int)", "int ahead(int,int,int)", "int chain(int,int)", "int when(int,int,int,int)",
        "int keeping(int,int)", "int best(int,int)", "int sure(int)", "int call(int,int,int)", "int rests(int,int)",
        "int broken(int)", "int fair(int,int)", "int rule(int)", "int tells(int,int)", "int been(int)", "int ladder(int)",
        "int envy()", "int warm()", "int often(int)", "int even()", "int image()", "int back()", "int count(int)"};

    private static int wrong = 0;

    public static void main(String[] args) {
        due("NONE", LostPlaces.NONE == -1);
        due("AWAY", LostPlaces.AWAY == -2);
        due("HIDDEN", LostPlaces.HIDDEN == -1000000);
        face();
        members();
        due("some twelve classes", LostPlaces.class.getDeclaredClasses().length + 1 <= 12);
        names(LostPlaces.class);
        for (Class<?> c : LostPlaces.class.getDeclaredClasses()) names(c);
        if (wrong != 0) System.exit(1);
    }

    private static void due(String what, boolean holds) {
        if (holds) return;
        wrong++;
        System.out.println("not so: " + what);
    }

    private static void face() {
        Set<String> due = new TreeSet<>(java.util.Arrays.asList(FACE));
        Set<String> got = new TreeSet<>();
        for (Method m : LostPlaces.class.getDeclaredMethods()) {
            if (!Modifier.isPublic(m.getModifiers())) continue;
            StringBuilder t = new StringBuilder(m.getReturnType() + " " + m.getName() + "(");
            for (Class<?> p : m.getParameterTypes()) t.append(t.charAt(t.length() - 1) == '(' ? "" : ",").append(p);
            got.add(t.append(')').toString());
            due(m + " is of objects", !Modifier.isStatic(m.getModifiers()));
        }
        due("the methods are " + due + ", not " + got, got.equals(due));
        due("final", Modifier.isFinal(LostPlaces.class.getModifiers()));
    }

    private static void members() {
        for (Constructor<?> c : LostPlaces.class.getDeclaredConstructors()) {
            due("one constructor", c.getParameterCount() == 0 && Modifier.isPublic(c.getModifiers()));
        }
        for (Method m : LostPlaces.class.getDeclaredMethods()) {
            due(m + " is of the face or private", (m.getModifiers() & (Modifier.PUBLIC | Modifier.PRIVATE)) != 0);
        }
        for (Field f : LostPlaces.class.getDeclaredFields()) {
            boolean constant = Set.of("NONE", "AWAY", "HIDDEN").contains(f.getName());
            due(f + " is public or private", Modifier.isPublic(f.getModifiers()) == constant
                    && Modifier.isPrivate(f.getModifiers()) != constant);
        }
    }

    private static void names(Class<?> c) {
        int fields = 0;
        for (Field f : c.getDeclaredFields()) {
            if (!Modifier.isStatic(f.getModifiers())) fields++;
            due(f + " is final, if static", !Modifier.isStatic(f.getModifiers()) || Modifier.isFinal(f.getModifiers()));
        }
        due(c + " has some twenty fields", fields <= 21);
        for (Method m : c.getDeclaredMethods()) {
            due(m + " has seven parameters at most", m.getParameterCount() <= 7);
            if (c == LostPlaces.class && Modifier.isPublic(m.getModifiers())) continue;
            for (String of : FACE) due(m + " bears a public name", !of.contains(" " + m.getName() + "("));
        }
    }
}
