import java.io.IOException;
import java.lang.reflect.Method;
import java.lang.reflect.Modifier;
import java.net.URL;
import java.net.URLClassLoader;
import java.nio.file.Files;
import java.nio.file.Path;
import java.nio.file.Paths;
import java.util.ArrayList;
import java.util.Comparator;
import java.util.List;
import java.util.regex.Matcher;
import java.util.regex.Pattern;
import java.util.stream.Stream;

/** The calls of README.md's example are compiled in their order, and each answers what README.md says. */
public final class ReadmeTest {
    private static final Checks CHECKS = new Checks();
    private static final String MADE = "StrandTangles x = new StrandTangles();";
    private static final Pattern CALL =
            Pattern.compile("(x\\.(\\w+)\\([^;]*\\)); +// (-?\\d+): \\S.*");
    private static final Pattern ERROR =
            Pattern.compile("\\| (\\d) \\| (\\w+) +\\| (-\\d+) +\\| (-\\d+) +\\| .*");

    private ReadmeTest() {
    }

    private static List<String> exampleOf(List<String> readme) {
        List<String> lines = new ArrayList<>();
        boolean inside = false;
        for (String line : readme) {
            if (line.startsWith("```")) {
                inside = line.equals("```java");
            } else if (inside && !line.isEmpty() && !line.startsWith("//")) {
                lines.add(line);
            }
        }
        return lines;
    }

    private static String classOf(List<String> calls) {
        StringBuilder text = new StringBuilder("public final class ReadmeExample {\n");
        text.append("public static long[] answers() {\n").append(MADE).append("\nreturn new long[] {\n");
        for (String call : calls) {
            text.append(call).append(",\n");
        }
        return text.append("};\n}\n}\n").toString();
    }

    private static long[] answersOf(List<String> calls) throws Exception {
        Path room = Files.createTempDirectory("readme");
        try {
            Path file = room.resolve("ReadmeExample.java");
            Files.writeString(file, classOf(calls));
            String known = System.getProperty("java.class.path");
            int failed = new ProcessBuilder("javac", "-cp", known, "-d", room.toString(), file.toString())
                    .inheritIO().start().waitFor();
            CHECKS.due("the example's compilation", failed, 0);
            if (failed != 0) {
                return new long[0];
            }
            try (URLClassLoader loader = new URLClassLoader(new URL[] {room.toUri().toURL()})) {
                return (long[]) loader.loadClass("ReadmeExample").getMethod("answers").invoke(null);
            }
        } finally {
            clear(room);
        }
    }

    private static void clear(Path room) throws IOException {
        try (Stream<Path> all = Files.walk(room)) {
            for (Path path : all.sorted(Comparator.reverseOrder()).toList()) {
                Files.delete(path);
            }
        }
    }

    private static void checkExample(List<String> readme) throws Exception {
        List<String> lines = exampleOf(readme);
        CHECKS.isTrue("the example makes one object first", !lines.isEmpty() && lines.get(0).equals(MADE));
        List<String> calls = new ArrayList<>();
        List<Long> due = new ArrayList<>();
        List<String> names = new ArrayList<>();
        for (String line : lines.subList(Math.min(1, lines.size()), lines.size())) {
            Matcher call = CALL.matcher(line);
            boolean told = call.matches();
            CHECKS.isTrue("README line tells its answer: " + line, told);
            if (told) {
                calls.add(call.group(1));
                names.add(call.group(2));
                due.add(Long.parseLong(call.group(3)));
            }
        }
        long[] answers = answersOf(calls);
        CHECKS.due("answers of the example", answers.length, due.size());
        for (int i = 0; i < Math.min(answers.length, due.size()); i++) {
            CHECKS.due("README: " + calls.get(i), answers[i], due.get(i));
        }
        for (Method method : StrandTangles.class.getDeclaredMethods()) {
            if (Modifier.isPublic(method.getModifiers())) {
                CHECKS.isTrue("README shows " + method.getName(), names.contains(method.getName()));
            }
        }
    }

    private static void checkErrors(List<String> readme) throws IOException {
        String document = Files.readString(Paths.get("../shared/DOC.md"));
        int rows = 0;
        for (String line : readme) {
            Matcher error = ERROR.matcher(line);
            if (error.matches()) {
                rows++;
                int k = Integer.parseInt(error.group(1));
                CHECKS.due("README: place of an error", k, rows);
                CHECKS.isTrue("README: name of error " + k, document.contains("LOW - " + k + " " + error.group(2)));
                CHECKS.due("README: error " + k, Long.parseLong(error.group(3)), -1000000000L - k);
                CHECKS.due("README: error of longs " + k, Long.parseLong(error.group(4)),
                        -9000000000000000000L - k);
            }
        }
        CHECKS.due("README: errors", rows, 6);
    }

    private static void checkTests(List<String> readme) throws IOException {
        try (Stream<Path> all = Files.list(Paths.get("src/test/java"))) {
            for (Path path : all.toList()) {
                String file = path.getFileName().toString();
                if (file.endsWith("Test.java")) {
                    String begin = "- `" + file.replace(".java", "") + "`: ";
                    CHECKS.isTrue("README names " + file, readme.stream().anyMatch(line -> line.startsWith(begin)));
                }
            }
        }
    }

    public static void main(String[] args) throws Exception {
        List<String> readme = Files.readAllLines(Paths.get("README.md"));
        checkExample(readme);
        checkErrors(readme);
        checkTests(readme);
        CHECKS.end();
    }
}
