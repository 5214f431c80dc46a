import java.io.File;
import java.io.IOException;
import java.nio.file.Files;
import java.nio.file.Path;
import java.util.regex.Matcher;
import java.util.regex.Pattern;

/** The Java of README.md answers what README.md says behind it. */
public final class ReadmeTest {
    private static final Pattern BLOCK = Pattern.compile("(?s)```java\n(.*?)```");
    private static final Pattern TOLD = Pattern.compile(
        "(x\\.\\w+\\(.*\\)); +// (-?\\d+|true|false)(?:, the ROW: (-?\\d+(?:, -?\\d+)*))?(?:;.*)?");
    private static final Pattern CALL = Pattern.compile("x\\.\\w+\\(");

    private static final Due due = new Due("ReadmeTest");
    private static int calls;

    public static void main(String[] args) throws IOException, InterruptedException {
        String program = program(Files.readString(Path.of("README.md")));
        Path dir = Files.createTempDirectory("readme");
        try {
            due.begin("README.md");
            due.is("exit code of its Java", run(dir, program), 0);
            due.is("calls are told there", calls > 40, true);
        } finally {
            for (String name : new String[] {"Walk.java", "Walk.class"}) {
                Files.deleteIfExists(dir.resolve(name));
            }
            Files.delete(dir);
        }
        due.finish();
    }

    /** All blocks as one class: methods stay methods, all else is its main method, with a test of each told answer. */
    private static String program(String page) {
        StringBuilder methods = new StringBuilder();
        StringBuilder main = new StringBuilder("final Due due = new Due(\"README.md\");\ndue.begin(\"README.md\");\n");
        Matcher block = BLOCK.matcher(page);
        while (block.find()) {
            if (block.group(1).startsWith("static ")) {
                methods.append(block.group(1));
            } else {
                for (String line : block.group(1).split("\n")) {
                    main.append(tested(line)).append('\n');
                }
            }
        }
        return "final class Walk {\n" + methods + "public static void main(String[] args) {\n" + main
            + "due.finish();\n}\n}\n";
    }

    private static String tested(String line) {
        Matcher told = TOLD.matcher(line);
        if (!told.matches()) {
            // a call of x whose answer is not told in this form would go untested
            return CALL.matcher(line).find() ? "due.is(\"an answer is told\", false, true);" : line;
        }
        calls++;
        String call = told.group(1);
        String row = told.group(3) == null ? "" : "\ndue.row(x, " + told.group(3) + ");";
        return "due.is(\"" + call + "\", " + call + ", " + told.group(2) + ");" + row;
    }

    /** Compiles and runs it, as .ci/run does with a test: the exit code. */
    private static int run(Path dir, String program) throws IOException, InterruptedException {
        String known = System.getProperty("java.class.path");
        Path source = Files.writeString(dir.resolve("Walk.java"), program);
        int fault = runs("javac", "-encoding", "UTF-8", "-d", dir.toString(), "-cp", known, source.toString());
        return fault != 0 ? fault : runs("java", "-cp", dir + File.pathSeparator + known, "Walk");
    }

    private static int runs(String... command) throws IOException, InterruptedException {
        return new ProcessBuilder(command).inheritIO().start().waitFor();
    }
}
