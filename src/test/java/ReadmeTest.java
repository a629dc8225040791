import java.io.IOException;
import java.lang.reflect.Field;
import java.lang.reflect.Method;
import java.lang.reflect.Modifier;
import java.nio.charset.StandardCharsets;
import java.nio.file.Files;
import java.nio.file.Path;
import java.util.ArrayList;
import java.util.Comparator;
import java.util.List;
import java.util.Map;
import java.util.TreeMap;
import java.util.TreeSet;
import java.util.regex.Matcher;
import java.util.regex.Pattern;
import java.util.stream.Stream;

/** What README.md says holds when it is tried: its commands and its example, and its tables of calls and of tests. */
public final class ReadmeTest {
    private static final Pattern ERRORS = Pattern.compile("\\b(NO_SUCH_INDEX|BAD_VALUE|NOT_POSSIBLE|FULL)\\b");

    private static Path root;
    private static String readme;

    public static void main(String[] args) throws IOException, InterruptedException, IllegalAccessException {
        root = Path.of(args.length > 0 ? args[0] : ".").toAbsolutePath().normalize();
        readme = Files.readString(root.resolve("README.md"), StandardCharsets.US_ASCII);
        example();
        calls();
        constants();
        tests();
        Check.finish("ReadmeTest");
    }

    // ---- the example

    /** Follows the commands in a directory that holds nothing but what README.md asks for. */
    private static void example() throws IOException, InterruptedException {
        Path place = Files.createTempDirectory("readme");
        try {
            Path source = Path.of("src/main/java/CellTransactions.java");
            Files.createDirectories(place.resolve(source).getParent());
            Files.copy(root.resolve(source), place.resolve(source));
            Files.writeString(place.resolve("Example.java"), block("java"));
            StringBuilder printed = new StringBuilder();
            for (String command : block("sh").split("\n")) {
                printed.append(run(place, command));
            }
            same("what the example prints", printed.toString(), block("text"));
        } finally {
            remove(place);
        }
    }

    private static String run(Path place, String command) throws IOException, InterruptedException {
        Process process = new ProcessBuilder(command.split(" ")).directory(place.toFile()).redirectErrorStream(true).start();
        String printed = new String(process.getInputStream().readAllBytes(), StandardCharsets.US_ASCII);
        Check.due("exit code of " + command, process.waitFor(), 0);
        return printed.replace("\r\n", "\n");
    }

    /** The only block of README.md that is marked so. */
    private static String block(String mark) {
        Matcher matcher = Pattern.compile("(?ms)^```" + mark + "\n(.*?)^```$").matcher(readme);
        String found = matcher.find() ? matcher.group(1) : "";
        Check.due("there is one block of " + mark, !found.isEmpty() && !matcher.find() ? 1 : 0, 1);
        return found;
    }

    private static void remove(Path place) throws IOException {
        try (Stream<Path> paths = Files.walk(place)) {
            for (Path path : paths.sorted(Comparator.reverseOrder()).toList()) {
                Files.delete(path);
            }
        }
    }

    // ---- the tables

    /** The calls of the face with their errors, in the order in which the document lists them. */
    private static void calls() throws IOException {
        Map<String, String> due = new TreeMap<>();
        for (Method method : CellTransactions.class.getDeclaredMethods()) {
            if (Modifier.isPublic(method.getModifiers())) {
                String call = method.getName() + "/" + method.getParameterCount();
                due.put(call, errorsIn(promise(method.getName())));
            }
        }
        Map<String, String> told = new TreeMap<>();
        for (String[] row : rows("call")) {
            Matcher matcher = Pattern.compile("`(\\w+)\\((.*)\\)`").matcher(row[0]);
            if (matcher.matches()) {
                int parameters = matcher.group(2).isEmpty() ? 0 : matcher.group(2).split(",").length;
                told.put(matcher.group(1) + "/" + parameters, errorsIn(row[2]));
            }
        }
        same("calls and their errors", told.toString(), due.toString());
    }

    /** What the document says that the call returns. */
    private static String promise(String name) throws IOException {
        String document = Files.readString(root.resolve("../shared/DOC.md"), StandardCharsets.UTF_8);
        Matcher matcher = Pattern.compile("(?ms)^## Promise \\d+: " + name + "$.*?(Returns .*?)^## ").matcher(document);
        boolean found = matcher.find();
        Check.due("the document has a promise of " + name, found ? 1 : 0, 1);
        return found ? matcher.group(1) : "";
    }

    private static String errorsIn(String text) {
        List<String> errors = new ArrayList<>();
        Matcher matcher = ERRORS.matcher(text);
        while (matcher.find()) {
            errors.add(matcher.group());
        }
        return errors.toString();
    }

    private static void constants() throws IllegalAccessException {
        Map<String, String> due = new TreeMap<>();
        for (Field field : CellTransactions.class.getDeclaredFields()) {
            if (Modifier.isPublic(field.getModifiers())) {
                due.put("`" + field.getName() + "`", String.valueOf(field.getInt(null)));
            }
        }
        Map<String, String> told = new TreeMap<>();
        for (String[] row : rows("constant")) {
            told.put(row[0], row[1]);
        }
        same("constants", told.toString(), due.toString());
    }

    private static void tests() throws IOException {
        TreeSet<String> due = new TreeSet<>();
        try (Stream<Path> files = Files.list(root.resolve("src/test/java"))) {
            files.map(file -> file.getFileName().toString()).filter(name -> name.endsWith("Test.java"))
                    .forEach(name -> due.add("`" + name.substring(0, name.length() - 5) + "`"));
        }
        TreeSet<String> told = new TreeSet<>();
        for (String[] row : rows("test")) {
            told.add(row[0]);
        }
        same("tests", told.toString(), due.toString());
    }

    /** The rows of the table whose first heading is this one, without the two rows of its head. */
    private static List<String[]> rows(String heading) {
        List<String[]> rows = new ArrayList<>();
        boolean within = false;
        for (String line : readme.split("\n")) {
            within = line.startsWith("| " + heading + " |") || within && line.startsWith("|");
            if (within) {
                rows.add(line.substring(1).trim().split(" *\\| *", -1));
            }
        }
        Check.due("rows of the table of each " + heading, rows.size() > 2 ? 1 : 0, 1);
        return rows.size() > 2 ? rows.subList(2, rows.size()) : List.of();
    }

    private static void same(String what, String got, String want) {
        if (!got.equals(want)) {
            System.out.println(what + " in README.md: " + got + "\ndue is: " + want);
        }
        Check.due(what, got.equals(want) ? 1 : 0, 1);
    }
}
