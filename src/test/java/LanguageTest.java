import java.io.IOException;
import java.nio.file.Files;
import java.nio.file.Path;
import java.util.Set;
import java.util.regex.Matcher;
import java.util.regex.Pattern;

/** Rules of LANGUAGE.md that the words of the source show; what can be seen of its classes stands in FaceTest. */
public final class LanguageTest {
    private static final int MOST_LINES = 60;
    private static final int MOST_CONSTANT_SIGN = 127;
    // strings, signs and remarks, of which only the strings are looked at
    private static final Pattern TOLD = Pattern.compile("\"(?:\\\\.|[^\"\\\\])*\"|'(?:\\\\.|[^'\\\\])+'|//[^\n]*|/\\*.*?\\*/",
            Pattern.DOTALL);
    private static final Pattern METHOD = Pattern.compile("\n( +)[\\w \\[\\]]+\\([^;{}]*\\)[\\w ]*\\{\n(.*?)\n\\1\\}",
            Pattern.DOTALL);
    private static final Pattern OF_LIBRARY = Pattern.compile("\\b(System|Math|Integer|Long|Arrays|String|StringBuilder)\\.\\w+");
    private static final Set<String> LIBRARY = Set.of("System.arraycopy");
    // words that rules 2, 3, 6, 8 and 9 leave out, and those that the program does without
    private static final String[] UNUSED = {"try", "catch", "finally", "assert", "synchronized", "while", "package",
        "protected", "float", "double", "Object", "Throwable", "Exception", "RuntimeException", "Thread", "native",
        "volatile", "transient", "strictfp", "interface", "Random", "Scanner"};

    private static int wrong = 0;

    public static void main(String[] args) throws IOException {
        String source = Files.readString(Path.of("src/main/java/LostPlaces.java"));
        String code = TOLD.matcher(source).replaceAll(m -> m.group().startsWith("\"") ? "\"\"" : " ");
        imports(code);
        for (String word : UNUSED) {
            due("no " + word, !Pattern.compile("\\b" + word + "\\b").matcher(code).find());
        }
        due("no lambda and no method reference", !code.contains("->") && !code.contains("::"));
        due("texts are not joined by +", !Pattern.compile("\"\\s*\\+|\\+\\s*\"").matcher(code).find());
        due("one throw, in the call that the document lets throw", code.split("\\bthrow ").length == 2
                && code.contains("throw new NoSuchElementException(\"\")"));
        library(code);
        constants(source);
        lengths(code);
        if (wrong != 0) System.exit(1);
    }

    private static void due(String what, boolean holds) {
        if (holds) return;
        wrong++;
        System.out.println("not so: " + what);
    }

    private static void imports(String code) {
        Matcher imports = Pattern.compile("import [^;]*;").matcher(code);
        while (imports.find()) {
            due(imports.group() + " is of the face", imports.group().equals("import java.util.NoSuchElementException;"));
        }
        due("no java. but in the import", code.split("\\bjava\\.").length == 2);
    }

    private static void library(String code) {
        Matcher of = OF_LIBRARY.matcher(code);
        while (of.find()) due(of.group() + " is a part of the library that is used", LIBRARY.contains(of.group()));
    }

    private static void constants(String source) {
        for (int i = 0; i < source.length(); i++) {
            if (source.charAt(i) <= MOST_CONSTANT_SIGN) continue;
            due("signs 1 to 127 alone, not " + (int) source.charAt(i), false);
        }
    }

    private static void lengths(String code) {
        Matcher method = METHOD.matcher(code);
        int methods = 0;
        // what follows a method's first line may match too, so each search begins just behind the last one's start
        for (int at = 0; method.find(at); at = method.start() + 1) {
            methods++;
            int lines = method.group(2).split("\n").length + 2;
            due("no method of " + lines + " lines:" + method.group().substring(0, method.group().indexOf('{')),
                    lines <= MOST_LINES);
        }
        due("methods are found", methods > 100);
    }
}
