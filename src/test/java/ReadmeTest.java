import java.io.IOException;
import java.nio.file.Files;
import java.nio.file.Path;
import java.util.regex.Matcher;
import java.util.regex.Pattern;

/** README.md: its lines of Java answer what stands behind them, and its table names every call. */
public final class ReadmeTest {
    private static final Due DUE = new Due("ReadmeTest");
    private static final Pattern BLOCK = Pattern.compile("```java\n(.*?)```", Pattern.DOTALL);
    private static final Pattern ROW = Pattern.compile("(int \\w+ = )?(town\\..*);\\s*// (-?\\d+)(:.*)?");
    private static final Pattern FACE = Pattern.compile("public (?:int|long) (\\w+\\(.*\\));");
    private static final Path BUILT = Path.of("build", "readme");

    public static void main(String[] args) throws Exception {
        String readme = Files.readString(Path.of("README.md"));
        calls(readme, Files.readString(Path.of("../shared/DOC.md")));
        tests(readme);
        Matcher block = BLOCK.matcher(readme);
        int blocks = 0;
        while (block.find()) {
            blocks++;
            run("Readme" + blocks, block.group(1));
        }
        DUE.is("blocks of Java", blocks, 3);
        DUE.end();
    }

    private static void calls(String readme, String doc) {
        Matcher face = FACE.matcher(doc);
        int promise = 1;
        while (face.find()) {
            promise++;
            String call = "`" + face.group(1).replaceAll("(int|long) ", "") + "` " + promise;
            DUE.is("the table names " + call, Pattern.compile(Pattern.quote(call) + "\\b").matcher(readme).find()
                ? 1 : 0, 1);
        }
        DUE.is("calls of the document", promise, 40);
    }

    private static void tests(String readme) throws IOException {
        try (var files = Files.newDirectoryStream(Path.of("src/test/java"), "*Test.java")) {
            for (Path file : files) {
                String name = file.getFileName().toString().replace(".java", "");
                DUE.is("the table names " + name, readme.contains("| " + name + " |") ? 1 : 0, 1);
            }
        }
    }

    /** The lines as a program that exits with how many of them answer otherwise. */
    private static String program(String name, String lines) {
        StringBuilder out = new StringBuilder();
        out.append("public final class ").append(name).append(" {\n    static int wrong = 0;\n")
            .append("    static void is(int line, long got, long want) {\n        if (got != want) {\n")
            .append("            wrong++;\n            System.out.println(\"README.md, ").append(name)
            .append(", line \" + line + \" answered \" + got);\n        }\n    }\n")
            .append("    public static void main(String[] args) {\n");
        int number = 0;
        for (String line : lines.split("\n")) {
            number++;
            Matcher row = ROW.matcher(line);
            if (!row.matches()) {
                out.append(line).append('\n');
                continue;
            }
            String start = row.group(1);
            String asked = start == null ? row.group(2) : start.replaceAll("int (\\w+) = ", "$1");
            out.append(start == null ? "" : start + row.group(2) + ";\n").append("is(").append(number)
                .append(", ").append(asked).append(", ").append(row.group(3)).append(");\n");
        }
        return out.append("System.exit(Math.min(wrong, 99));\n    }\n}\n").toString();
    }

    private static void run(String name, String lines) throws IOException, InterruptedException {
        for (String line : lines.split("\n")) {
            DUE.is("an answer behind: " + line, !line.startsWith("town.") || ROW.matcher(line).matches() ? 1 : 0, 1);
        }
        Files.createDirectories(BUILT);
        Path file = BUILT.resolve(name + ".java");
        Files.writeString(file, program(name, lines));
        DUE.is(name + " compiles", exitOf("javac", "-d", BUILT.toString(), file.toString(),
            "src/main/java/UnlikeCoins.java"), 0);
        DUE.is(name + " answers", exitOf("java", "-cp", BUILT.toString(), name), 0);
    }

    private static int exitOf(String... command) throws IOException, InterruptedException {
        return new ProcessBuilder(command).inheritIO().start().waitFor();
    }
}
