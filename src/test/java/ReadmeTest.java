import java.io.IOException;
import java.lang.reflect.InvocationTargetException;
import java.lang.reflect.Method;
import java.lang.reflect.Modifier;
import java.net.URL;
import java.net.URLClassLoader;
import java.nio.file.DirectoryStream;
import java.nio.file.Files;
import java.nio.file.Path;
import java.util.regex.Matcher;
import java.util.regex.Pattern;

/** README.md names every call, and what its code shows is so: it is compiled and run, each answer behind // compared. */
public final class ReadmeTest {
    private static final Pattern BLOCK = Pattern.compile("```java\n(.*?)```", Pattern.DOTALL);
    private static final Pattern SHOWN = Pattern.compile("(x\\.\\w+\\(.*\\)); +// (throws )?(-?\\w+)(:.*)?");
    private static final int FEWEST_SHOWN = 30;

    private static int shown = 0;

    public static void main(String[] args) throws Exception {
        String readme = Files.readString(Path.of("README.md"));
        int wrong = unnamed(readme) + run(program(readme));
        if (shown < FEWEST_SHOWN) {
            wrong++;
            System.out.println("README.md shows no more than " + shown + " calls with their answers");
        }
        if (wrong != 0) System.exit(1);
    }

    private static int unnamed(String readme) {
        int unnamed = 0;
        for (Method call : LostPlaces.class.getDeclaredMethods()) {
            if (!Modifier.isPublic(call.getModifiers()) || readme.contains("`" + call.getName() + "`")) continue;
            unnamed++;
            System.out.println("README.md does not name " + call.getName());
        }
        return unnamed;
    }

    /** The blocks of the page as one class: functions as they are, all other lines in their order as one function. */
    private static String program(String readme) {
        StringBuilder functions = new StringBuilder();
        StringBuilder lines = new StringBuilder();
        Matcher block = BLOCK.matcher(readme);
        while (block.find()) {
            if (block.group(1).startsWith("static ")) functions.append(block.group(1));
            else for (String line : block.group(1).split("\n")) lines.append(compared(line)).append('\n');
        }
        return "public final class Shown {\n"
                + "static final int NONE = LostPlaces.NONE, AWAY = LostPlaces.AWAY, HIDDEN = LostPlaces.HIDDEN;\n"
                + "static int wrong = 0;\n"
                + "static void due(String call, Object got, Object want) {\n"
                + "if (got.equals(want)) return;\nwrong++;\n"
                + "System.out.println(\"README.md: \" + call + \" answered \" + got + \", not \" + want);\n}\n"
                + functions + "public static int run() {\n" + lines + "return wrong;\n}\n}\n";
    }

    private static String compared(String line) {
        Matcher call = SHOWN.matcher(line);
        if (!call.matches()) return line;
        shown++;
        String name = "\"" + call.group(1) + "\"";
        if (call.group(2) == null) return "due(" + name + ", " + call.group(1) + ", " + call.group(3) + ");";
        return "try { due(" + name + ", " + call.group(1) + ", \"an exception\"); }"
                + " catch (RuntimeException e) { due(" + name + ", e.getClass().getSimpleName(), \"" + call.group(3) + "\"); }";
    }

    private static int run(String program) throws Exception {
        Path folder = Files.createTempDirectory("readme");
        try {
            Path source = Files.writeString(folder.resolve("Shown.java"), program);
            Process compiler = new ProcessBuilder("javac", "-cp", System.getProperty("java.class.path"),
                    "-d", folder.toString(), source.toString()).inheritIO().start();
            return compiler.waitFor() == 0 ? answer(folder) : 1;
        } finally {
            clear(folder);
        }
    }

    private static int answer(Path folder) throws Exception {
        try (URLClassLoader loader = new URLClassLoader(new URL[] {folder.toUri().toURL()})) {
            return (Integer) loader.loadClass("Shown").getMethod("run").invoke(null);
        } catch (InvocationTargetException e) {
            e.getCause().printStackTrace(System.out);
            return 1;
        }
    }

    private static void clear(Path folder) throws IOException {
        try (DirectoryStream<Path> files = Files.newDirectoryStream(folder)) {
            for (Path file : files) Files.delete(file);
        }
        Files.delete(folder);
    }
}
