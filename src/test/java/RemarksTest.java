import java.io.IOException;
import java.nio.file.DirectoryStream;
import java.nio.file.Files;
import java.nio.file.Path;
import java.util.List;
import java.util.regex.Matcher;
import java.util.regex.Pattern;

/** Each test of a boundary case says in a remark where in the document its sentence stands, in the document's words. */
public final class RemarksTest {
    private static final Pattern TEST = Pattern.compile("    private static void (\\w+)\\(\\) \\{");
    private static final Pattern QUOTED = Pattern.compile("\"([^\"]*)\"");
    private static final int PROMISES = 39;

    private static int wrong = 0;
    private static int tests = 0;
    private static final StringBuilder all = new StringBuilder();

    public static void main(String[] args) throws IOException {
        String doc = Files.readString(Path.of("../shared/DOC.md")).replaceAll("\\s+", " ");
        try (DirectoryStream<Path> files = Files.newDirectoryStream(Path.of("src/test/java"), "*EdgesTest.java")) {
            for (Path file : files) look(file, doc);
        }
        for (int promise = 1; promise <= PROMISES; promise++) {
            if (!all.toString().contains("Promise " + promise + ": ")) wrong("no remark names promise " + promise);
        }
        if (tests == 0) wrong("no tests are found");
        if (wrong != 0) System.exit(1);
    }

    private static void wrong(String what) {
        wrong++;
        System.out.println(what);
    }

    private static void look(Path file, String doc) throws IOException {
        List<String> lines = Files.readAllLines(file);
        for (int i = 0; i < lines.size(); i++) {
            Matcher test = TEST.matcher(lines.get(i));
            if (!test.matches()) continue;
            tests++;
            String remark = remarkAhead(lines, i);
            all.append(remark);
            quotes(file.getFileName() + ", " + test.group(1), remark, doc);
        }
    }

    private static String remarkAhead(List<String> lines, int test) {
        StringBuilder remark = new StringBuilder();
        for (int i = test - 1; i >= 0 && lines.get(i).trim().startsWith("//"); i--) {
            remark.insert(0, lines.get(i).trim().substring(2).trim() + " ");
        }
        return remark.toString();
    }

    /** Words left out of a quotation are two dots, as are those of a range: what stands between them is looked for. */
    private static void quotes(String test, String remark, String doc) {
        Matcher quoted = QUOTED.matcher(remark);
        int found = 0;
        while (quoted.find()) {
            found++;
            for (String piece : quoted.group(1).split("\\.\\.")) {
                String words = piece.trim().replaceAll("^[,;:.] ?|[,;]$", "").trim();
                if (!doc.contains(words)) wrong(test + ": the document does not say \"" + words + "\"");
            }
        }
        if (found == 0) wrong(test + ": no words of the document in its remark");
    }
}
