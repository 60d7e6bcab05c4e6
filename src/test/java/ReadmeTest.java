import java.io.IOException;
import java.nio.file.Files;
import java.nio.file.Path;
import java.util.ArrayList;
import java.util.List;
import java.util.regex.Matcher;
import java.util.regex.Pattern;

/** README.md: its rows are compiled and answer what stands behind them; the files it names are there. */
public final class ReadmeTest {
    /** A call or a declaration with its answer: x.price(0); // 8: why. */
    private static final Pattern ANSWERED =
            Pattern.compile("(int (\\w+) = )?(x\\.\\w+\\(.*\\)); *// (-?\\d+|true|false)(: .*)?");
    private static final Pattern FILE = Pattern.compile("\\.\\./shared/[\\w/]+\\.\\w+|src/[\\w/]+\\.java");
    private static final Pattern TEST = Pattern.compile("`(\\w+Test)`");

    private ReadmeTest() {
    }

    public static void main(String[] args) throws Exception {
        String readme = Files.readString(Path.of("README.md"));
        theRows(readme);
        theFiles(readme);
        theTests(readme);
        Check.finish();
    }

    /** All rows of the page are one run; what is declared static stands beside it. */
    private static void theRows(String readme) throws Exception {
        StringBuilder functions = new StringBuilder();
        StringBuilder run = new StringBuilder();
        for (String block : blocks(readme, "java")) {
            if (block.contains("static ")) {
                functions.append(block);
                continue;
            }
            for (String row : block.split("\n")) {
                Matcher m = ANSWERED.matcher(row);
                boolean answered = m.matches();
                boolean asks = row.startsWith("x.") || row.contains(" = x.");
                Check.due("README.md says what is answered: " + row, answered, asks);
                run.append(answered ? asked(m) : row).append('\n');
            }
        }
        compileAndRun("public final class ReadmeRows {\n" + functions
                + "public static void main(String[] args) {\n" + run + "}\n}\n");
    }

    private static String asked(Matcher m) {
        String name = m.group(2);
        String asked = name == null ? m.group(3) : name;
        String declared = name == null ? "" : "int " + name + " = " + m.group(3) + "; ";
        return declared + "Check.due(\"README.md: " + m.group(3).replace("\"", "'") + "\", "
                + asked + ", " + m.group(4) + (m.group(4).matches("-?\\d+") ? "L" : "") + ");";
    }

    private static List<String> blocks(String readme, String language) {
        List<String> blocks = new ArrayList<>();
        Matcher m = Pattern.compile("```" + language + "\n(.*?)```", Pattern.DOTALL).matcher(readme);
        while (m.find()) {
            blocks.add(m.group(1));
        }
        return blocks;
    }

    /** The rows become a class beside this one, so that they may use Check. */
    private static void compileAndRun(String source) throws Exception {
        Path home = Path.of(ReadmeTest.class.getProtectionDomain().getCodeSource().getLocation().toURI());
        Path file = home.resolve("ReadmeRows.java");
        Files.writeString(file, source);
        int refused = new ProcessBuilder("javac", "-cp", home.toString(), "-d", home.toString(),
                file.toString()).inheritIO().start().waitFor();
        Check.due("README.md's rows are refused by javac", refused, 0);
        if (refused == 0) {
            Class.forName("ReadmeRows").getMethod("main", String[].class).invoke(null, (Object) null);
        }
    }

    private static void theFiles(String readme) {
        Matcher m = FILE.matcher(readme);
        int files = 0;
        while (m.find()) {
            files++;
            Check.due(m.group() + " is there", Files.exists(Path.of(m.group())), true);
        }
        Check.due("README.md names files", files > 3, true);
    }

    /** Each test of the project is named, and each that is named is there. */
    private static void theTests(String readme) throws IOException {
        Path tests = Path.of("src/test/java");
        try (var files = Files.list(tests)) {
            for (Path file : (Iterable<Path>) files::iterator) {
                String name = file.getFileName().toString().replace(".java", "");
                Check.due("README.md names " + name, readme.contains("`" + name + "`"), true);
            }
        }
        Matcher m = TEST.matcher(readme);
        while (m.find()) {
            Check.due(m.group(1) + " is there", Files.exists(tests.resolve(m.group(1) + ".java")), true);
        }
    }
}
