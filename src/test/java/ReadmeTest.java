import java.nio.file.Files;
import java.nio.file.Path;
import java.util.List;
import java.util.stream.Stream;
import javax.tools.ToolProvider;

/** What README.md shows of the class's answers is what the class answers; .ci/run starts it where README.md is. */
public final class ReadmeTest {
    private static final String EXAMPLES = "\n| rules | template |";

    public static void main(String[] args) throws Exception {
        String readme = Files.readString(Path.of("README.md"));
        program(block(readme, "java"), block(readme, "text"));
        examples(readme.substring(readme.indexOf(EXAMPLES) + 1));
        Check.end();
    }

    private static String block(String readme, String kind) {
        String opener = "```" + kind + "\n";
        int start = readme.indexOf(opener) + opener.length();
        return readme.substring(start, readme.indexOf("```", start));
    }

    private static void program(String statements, String want) throws Exception {
        Path dir = Files.createTempDirectory("readme");
        Path source = dir.resolve("Shown.java");
        String here = System.getProperty("java.class.path");
        Files.writeString(source, "class Shown { public static void main(String[] args) {" + statements + "} }");
        int compiled = ToolProvider.getSystemJavaCompiler()
            .run(null, null, null, "-cp", here, "-d", dir.toString(), source.toString());
        Check.due("the program of README.md compiles", 0, compiled);
        if (compiled == 0) {
            Check.due("the program of README.md prints", want, printed(here + ":" + dir));
        }
        for (String name : List.of("Shown.java", "Shown.class")) {
            Files.deleteIfExists(dir.resolve(name));
        }
        Files.delete(dir);
    }

    private static String printed(String classPath) throws Exception {
        Process p = new ProcessBuilder(System.getProperty("java.home") + "/bin/java", "-cp", classPath, "Shown").start();
        return new String(p.getInputStream().readAllBytes());
    }

    private static void examples(String table) {
        List<String> rows = table.lines().takeWhile(line -> line.startsWith("|")).skip(2).toList();
        Check.due("README.md has examples", true, rows.size() >= 10);
        for (String row : rows) {
            String[] cells = Stream.of(row.split("\\|")).skip(1).map(String::strip).toArray(String[]::new);
            Check.due("cells of " + row, 7, cells.length);
            example(row, cells);
        }
    }

    private static void example(String row, String[] cells) {
        PluralMessages x = Check.typed(Integer.parseInt(cells[0]), unquoted(cells[1]));
        Check.setAll(x, Stream.of(cells[2].split(" ")).mapToInt(Integer::parseInt).toArray());
        Check.due("format: " + row, number(cells[3]), x.format());
        Check.due("output: " + row, unquoted(cells[4]), Check.output(x));
        Check.due("named: " + row, number(cells[5]), x.named());
        Check.due("consulted: " + row, number(cells[6]), x.consulted());
    }

    private static String unquoted(String cell) {
        return cell.isEmpty() ? "" : cell.substring(1, cell.length() - 1);
    }

    private static int number(String cell) {
        return switch (cell) {
            case "UNSOUND" -> PluralMessages.UNSOUND;
            case "TOO_LONG" -> PluralMessages.TOO_LONG;
            default -> Integer.parseInt(cell);
        };
    }
}
