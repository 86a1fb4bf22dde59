import java.io.IOException;
import java.lang.reflect.Method;
import java.lang.reflect.Modifier;
import java.nio.file.DirectoryStream;
import java.nio.file.Files;
import java.nio.file.Path;
import java.util.ArrayList;
import java.util.Arrays;
import java.util.List;
import java.util.TreeSet;
import java.util.regex.Matcher;
import java.util.regex.Pattern;

/** What README.md says of the calls, of their answers and of the tests is what is there. */
public final class ReadmeTest {
    private static final Pattern EXAMPLE = Pattern.compile("(?s)```java\n(.*?)```");
    private static final Pattern MAKING = Pattern.compile(
            "CarSeeds road = new CarSeeds\\((-?[\\d_]+)L, (-?[\\d_]+), (-?[\\d_]+)\\);");
    private static final Pattern CALL = Pattern.compile("road\\.(\\w+)\\(([^)]*)\\); +// (-?\\d+|true|false)\\b.*");
    private static final Pattern TABLE_ROW = Pattern.compile("(?m)^\\| `(\\w+)\\(([^)]*)\\)` \\|");
    private static final Checks CHECKS = new Checks();

    public static void main(String[] args) throws Exception {
        String readme = Files.readString(Path.of("README.md"));
        theExampleAnswersWhatItSays(readme);
        theTablesHaveEveryCall(readme);
        everyTestIsNamed(readme);
        CHECKS.end();
    }

    private static void theExampleAnswersWhatItSays(String readme) throws Exception {
        Matcher example = EXAMPLE.matcher(readme);
        CHECKS.due("there is an example", example.find(), true);
        CarSeeds road = null;
        TreeSet<String> used = new TreeSet<>();
        for (String line : example.group(1).split("\n")) {
            Matcher making = MAKING.matcher(line);
            Matcher call = CALL.matcher(line);
            if (making.matches()) {
                road = new CarSeeds(number(making.group(1)), (int) number(making.group(2)),
                        (int) number(making.group(3)));
            } else if (call.matches() && road != null) {
                used.add(call.group(1));
                CHECKS.due(line, answer(road, call.group(1), call.group(2)), due(call.group(3)));
            } else {
                CHECKS.due("a line without an answer: " + line, line.isBlank(), true);
            }
        }
        CHECKS.due("every call is in the example: " + used, used.equals(names()), true);
    }

    private static long answer(CarSeeds road, String name, String arguments) throws Exception {
        List<Object> numbers = new ArrayList<>();
        for (String argument : parts(arguments)) {
            numbers.add((int) number(argument));
        }
        Class<?>[] types = new Class<?>[numbers.size()];
        Arrays.fill(types, int.class);
        Object got = CarSeeds.class.getMethod(name, types).invoke(road, numbers.toArray());
        return got instanceof Boolean ? ((Boolean) got ? 1 : 0) : (Integer) got;
    }

    private static long due(String answer) {
        return answer.equals("true") ? 1 : answer.equals("false") ? 0 : number(answer);
    }

    private static long number(String text) {
        return Long.parseLong(text.replace("_", ""));
    }

    private static String[] parts(String arguments) {
        return arguments.isBlank() ? new String[0] : arguments.split(", *");
    }

    private static void theTablesHaveEveryCall(String readme) {
        TreeSet<String> found = new TreeSet<>();
        Matcher row = TABLE_ROW.matcher(readme);
        while (row.find()) {
            CHECKS.due("a call has one row: " + row.group(1), found.add(row.group(1)), true);
            CHECKS.due("arguments of " + row.group(1), parts(row.group(2)).length, argumentsOf(row.group(1)));
        }
        CHECKS.due("the tables have " + found, found.equals(names()), true);
    }

    private static int argumentsOf(String name) {
        for (Method method : CarSeeds.class.getDeclaredMethods()) {
            if (method.getName().equals(name)) {
                return method.getParameterCount();
            }
        }
        return -1;
    }

    private static TreeSet<String> names() {
        TreeSet<String> names = new TreeSet<>();
        for (Method method : CarSeeds.class.getDeclaredMethods()) {
            if (Modifier.isPublic(method.getModifiers())) {
                names.add(method.getName());
            }
        }
        return names;
    }

    private static void everyTestIsNamed(String readme) throws IOException {
        try (DirectoryStream<Path> files = Files.newDirectoryStream(Path.of("src/test/java"), "*.java")) {
            for (Path file : files) {
                String name = file.getFileName().toString().replace(".java", "");
                CHECKS.due("README.md names " + name, readme.contains("`" + name + "`"), true);
            }
        }
    }
}
