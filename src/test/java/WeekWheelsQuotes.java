import java.io.IOException;
import java.nio.file.DirectoryStream;
import java.nio.file.Files;
import java.nio.file.Path;
import java.util.List;
import java.util.Set;
import java.util.TreeSet;
import java.util.regex.Matcher;
import java.util.regex.Pattern;

/** Each test of a boundary has a remark that quotes its sentence from where it stands in the document; no promise is left out. */
public final class WeekWheelsQuotes {
    private static final Path DOCUMENT = Path.of("../shared/DOC.md");
    private static final Path TESTS = Path.of("src/test/java");
    private static final Pattern TEST = Pattern.compile(" {4}static void (\\w+)\\(\\) \\{");
    private static final Pattern REMARK = Pattern.compile("(Promise (\\d+)(, by Terms)?|The public face|What it is): \"(.*)\"");

    private static final Set<Integer> quoted = new TreeSet<>();
    private static int tests = 0;
    private static int wrong = 0;

    public static void main(String[] args) throws IOException {
        String document = Files.readString(DOCUMENT);
        try (DirectoryStream<Path> files = Files.newDirectoryStream(TESTS, "*Edges.java")) {
            for (Path file : files) {
                lookThrough(file, document);
            }
        }
        for (int promise = 1; promise <= 43; promise++) {
            if (!quoted.contains(promise)) {
                complain("no test quotes promise " + promise);
            }
        }
        System.out.println(wrong == 0 ? "all " + tests + " tests of a boundary quote the document" : wrong + " quotes are wrong");
        if (wrong != 0 || tests == 0) {
            System.exit(1);
        }
    }

    private static void lookThrough(Path file, String document) throws IOException {
        List<String> lines = Files.readAllLines(file);
        for (int i = 0; i < lines.size(); i++) {
            Matcher test = TEST.matcher(lines.get(i));
            if (test.matches()) {
                tests++;
                lookAt(test.group(1), remarkAhead(lines, i), document);
            }
        }
    }

    private static String remarkAhead(List<String> lines, int line) {
        String remark = "";
        for (int i = line - 1; i >= 0 && lines.get(i).startsWith("    // "); i--) {
            remark = lines.get(i).substring(7) + (remark.isEmpty() ? "" : " " + remark);
        }
        return remark;
    }

    private static void lookAt(String test, String remark, String document) {
        Matcher parts = REMARK.matcher(remark);
        if (!parts.matches()) {
            complain(test + " has no remark with a quote");
            return;
        }
        String heading = parts.group(2) == null ? parts.group(1) : parts.group(3) == null ? "Promise " + parts.group(2) + ":" : "Terms";
        if (!section(document, heading).contains(parts.group(4))) {
            complain(test + ": this does not stand under '" + heading + "': " + parts.group(4));
        }
        if (parts.group(2) != null) {
            quoted.add(Integer.valueOf(parts.group(2)));
        }
    }

    /** The text under a heading, with one blank wherever it has some or a new line. */
    private static String section(String document, String heading) {
        int begin = document.indexOf("\n## " + heading);
        int end = begin < 0 ? -1 : document.indexOf("\n## ", begin + 1);
        return begin < 0 ? "" : document.substring(begin, end < 0 ? document.length() : end).replaceAll("\\s+", " ");
    }

    private static void complain(String what) {
        wrong++;
        System.out.println(what);
    }
}
