import java.io.ByteArrayOutputStream;
import java.io.IOException;
import java.io.PrintStream;
import java.lang.reflect.Method;
import java.lang.reflect.Modifier;
import java.net.URL;
import java.net.URLClassLoader;
import java.nio.charset.StandardCharsets;
import java.nio.file.Files;
import java.nio.file.Path;
import java.util.ArrayList;
import java.util.List;
import java.util.Map;
import java.util.TreeMap;
import java.util.regex.Matcher;
import java.util.regex.Pattern;
import javax.tools.JavaCompiler;
import javax.tools.ToolProvider;

/** What README.md says holds: its example is compiled and run, its tables are held against the class. */
public final class WeekWheelsReadme {
    private static final Pattern SAID = Pattern.compile(" *System\\.out\\.println\\((.*)\\); *(// (.*?)(: .*)?)?");
    private static final Pattern CALL_ROW = Pattern.compile("\\| `(\\w+)\\((.*?)\\)` \\| .* \\|([INA ]*)\\|");
    private static final Pattern FAULT_ROW = Pattern.compile("\\| (-\\d) \\| .* \\|");
    private static final Pattern CLAUSE_ROW = Pattern.compile("\\| `(law|other|house|slip|still)( [A-Z ]*)?` \\| .* \\| ?(\\d*).*\\|");
    private static final Pattern PART_ROW = Pattern.compile("\\| `([a-z]+( [A-Z])+)` \\| [^|]* \\|");
    /** A text for each fault's answer. */
    private static final Map<String, String> FAULTY = Map.of("-9", "law 5", "-8", "law 25 0;", "-7", "law 5 0;".repeat(13),
            "-6", "law 23 0;law 19 0;law 17 0;law 16 0;");

    public static void main(String[] args) throws IllegalAccessException {
        Due.runAll(WeekWheelsReadme.class);
    }

    static List<String> page() throws IOException {
        return Files.readAllLines(Path.of("README.md"));
    }

    static List<String> exampleLines() throws IOException {
        List<String> code = new ArrayList<>();
        boolean inside = false;
        for (String line : page()) {
            if (line.startsWith("```")) {
                inside = line.equals("```java");
            } else if (inside) {
                code.add(line);
            }
        }
        return code;
    }

    static void example() throws Exception {
        List<String> calls = new ArrayList<>();
        List<String> answers = new ArrayList<>();
        for (String line : exampleLines()) {
            Matcher said = SAID.matcher(line);
            if (said.matches()) {
                calls.add(said.group(1));
                answers.add(String.valueOf(said.group(3)));
            }
        }
        List<String> printed = runExample();
        Due.same("the example prints some answers", calls.isEmpty(), false);
        Due.same("how many answers the example prints", printed.size(), calls.size());
        for (int i = 0; i < calls.size() && i < printed.size(); i++) {
            Due.same("README.md: " + calls.get(i), printed.get(i), answers.get(i));
        }
    }

    static List<String> runExample() throws Exception {
        Path folder = Files.createTempDirectory("readme");
        Path source = folder.resolve("Example.java");
        Files.write(source, exampleLines());
        JavaCompiler compiler = ToolProvider.getSystemJavaCompiler();
        int failed = compiler == null ? -1 : compiler.run(null, null, null, "-encoding", "UTF-8", "-cp", System.getProperty("java.class.path"),
                "-implicit:none", "-d", folder.toString(), source.toString());
        Due.same("compiling the example fails", failed, 0);
        PrintStream out = System.out;
        ByteArrayOutputStream heard = new ByteArrayOutputStream();
        try (URLClassLoader loader = new URLClassLoader(new URL[] {folder.toUri().toURL()})) {
            Method main = loader.loadClass("Example").getMethod("main", String[].class);
            System.setOut(new PrintStream(heard, true, StandardCharsets.UTF_8));
            main.invoke(null, (Object) new String[0]);
        } finally {
            System.setOut(out);
            for (String left : new String[] {"Example.java", "Example.class"}) {
                Files.deleteIfExists(folder.resolve(left));
            }
            Files.deleteIfExists(folder);
        }
        return heard.toString(StandardCharsets.UTF_8).lines().toList();
    }

    /** Each call of the face has one row, with as many arguments, and what it throws in the same order. */
    static void calls() throws IOException {
        Map<String, String> face = new TreeMap<>();
        for (Method call : WeekWheels.class.getDeclaredMethods()) {
            if (Modifier.isPublic(call.getModifiers())) {
                StringBuilder thrown = new StringBuilder(call.getParameterCount() + " arguments");
                for (Class<?> exception : call.getExceptionTypes()) {
                    String name = exception.getSimpleName();
                    thrown.append(' ').append(name.equals(Due.DAY) ? 'I' : name.equals(Due.ELEMENT) ? 'N' : name.equals(Due.ARGUMENT) ? 'A' : '?');
                }
                face.put(call.getName(), thrown.toString());
            }
        }
        Map<String, String> told = new TreeMap<>();
        for (String line : page()) {
            Matcher row = CALL_ROW.matcher(line);
            if (row.matches()) {
                int arguments = row.group(2).isEmpty() ? 0 : row.group(2).split(", ").length;
                String before = told.put(row.group(1), (arguments + " arguments " + row.group(3).trim()).trim());
                Due.same("a row ahead of this one of " + row.group(1), before, null);
            }
        }
        Due.same("calls in the table", told.keySet(), face.keySet());
        for (Map.Entry<String, String> call : face.entrySet()) {
            Due.same("row of " + call.getKey(), told.get(call.getKey()), call.getValue());
        }
    }

    static void faults() throws IOException {
        int rows = 0;
        for (String line : page()) {
            Matcher row = FAULT_ROW.matcher(line);
            if (row.matches()) {
                rows++;
                Due.same("answer to a text with this fault: " + line, Due.tell(new WeekWheels(), FAULTY.getOrDefault(row.group(1), "")), row.group(1));
            }
        }
        Due.same("rows of faults", rows, FAULTY.size());
    }

    /** As many clauses as a row tells are taken, one more is fault 3; so it is with 60 of all together. */
    static void clauses() throws IOException {
        int rows = 0;
        for (String line : page()) {
            Matcher row = CLAUSE_ROW.matcher(line);
            if (row.matches()) {
                rows++;
                String numbers = row.group(2) == null ? "" : row.group(2).replace('W', '2').replaceAll("[DHLS]", "0");
                String ahead = row.group(1).equals("slip") ? "house;law 2 0;" : "";
                bound(ahead, row.group(1) + numbers, row.group(3).isEmpty() ? 0 : Integer.parseInt(row.group(3)));
            }
        }
        Due.same("rows of clauses", rows, 5);
        Due.same("README.md tells the bound of clauses", String.join(" ", page()).contains("up to 60 clauses"), true);
        Due.same("60 clauses", Due.tell(new WeekWheels(), "still7;".repeat(60)), 0);
        Due.same("61 clauses", Due.tell(new WeekWheels(), "still7;".repeat(61)), -7);
    }

    /** A bound of 0 is none: then some are taken, all alike. */
    static void bound(String ahead, String clause, int most) {
        int some = most == 0 ? 20 : most;
        Due.same(some + " of '" + clause + "' are taken", Due.tell(new WeekWheels(), ahead + numbered(clause, some)) >= 0, true);
        if (most > 0) {
            Due.same("answer to one more of '" + clause + "'", Due.tell(new WeekWheels(), ahead + numbered(clause, most + 1)), -7);
        }
    }

    /** So many of a clause, with numbers that are all unlike where it has an N. */
    static String numbered(String clause, int times) {
        StringBuilder out = new StringBuilder();
        for (int i = 0; i < times; i++) {
            out.append(clause.replace("N", String.valueOf(i))).append(';');
        }
        return out.toString();
    }

    static void parts() throws IOException {
        int rows = 0;
        boolean ofWishes = false;
        for (String line : page()) {
            ofWishes = line.startsWith("| part |") || ofWishes && line.startsWith("|");
            Matcher row = PART_ROW.matcher(line);
            if (ofWishes && row.matches()) {
                rows++;
                String wish = row.group(1).replace('A', '2').replaceAll("[A-Z]", "0");
                Due.wish("law 2 0;other 2 0;house;", "not [" + wish + "] and many 0 or " + wish, 1, -1);
            }
        }
        Due.same("rows of a wish's parts", rows, 5);
    }
}
