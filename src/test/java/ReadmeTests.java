import java.lang.reflect.Field;
import java.lang.reflect.Method;
import java.lang.reflect.Modifier;
import java.nio.file.DirectoryStream;
import java.nio.file.Files;
import java.nio.file.Path;
import java.util.Set;
import java.util.TreeSet;
import java.util.regex.Matcher;
import java.util.regex.Pattern;

/** README.md tells of every call, its example's answers are those of the class, and it names every test. */
public final class ReadmeTests extends Checks {
    private static final Pattern CALL = Pattern.compile("x\\.(\\w+)\\(([-\\d, ]*)\\); +// (-?\\d+|true|false)( .*)?");
    private static String text;

    public static void main(String[] args) throws Exception {
        text = Files.readString(Path.of("README.md"));
        example();
        calls();
        constants();
        kinds();
        tests();
        end("the README is as due");
    }

    private static void dueIn(String what, boolean holds) {
        due(what, holds, true);
    }

    private static void example() throws Exception {
        about = "the example";
        String begin = "```java\nLoanChecker x = new LoanChecker();\n";
        int from = text.indexOf(begin);
        dueIn("it is there", from >= 0);
        if (from < 0) return;
        String code = text.substring(from + begin.length(), text.indexOf("```", from + begin.length()));
        LoanChecker x = new LoanChecker();
        Set<String> called = new TreeSet<>();
        for (String line : code.split("\n")) {
            Matcher parts = CALL.matcher(line);
            dueIn("a call with its answer: " + line, parts.matches());
            if (!parts.matches()) continue;
            due(line, answer(x, parts.group(1), parts.group(2)), number(parts.group(3)));
            called.add(parts.group(1));
        }
        for (Method method : publicMethods()) dueIn("it calls " + method.getName(), called.contains(method.getName()));
    }

    private static int number(String answer) {
        if (answer.equals("true")) return 1;
        return answer.equals("false") ? 0 : Integer.parseInt(answer);
    }

    private static int answer(LoanChecker x, String name, String list) throws Exception {
        String[] numbers = list.isEmpty() ? new String[0] : list.split(", ");
        Object[] arguments = new Object[numbers.length];
        for (int i = 0; i < numbers.length; i++) arguments[i] = Integer.parseInt(numbers[i]);
        for (Method method : publicMethods()) {
            if (!method.getName().equals(name) || method.getParameterCount() != numbers.length) continue;
            return number(method.invoke(x, arguments).toString());
        }
        dueIn("there is a call " + name + " with so many arguments", false);
        return LEAST;
    }

    private static Method[] publicMethods() {
        return java.util.Arrays.stream(LoanChecker.class.getDeclaredMethods())
            .filter(method -> Modifier.isPublic(method.getModifiers())).toArray(Method[]::new);
    }

    private static void calls() {
        about = "what each call answers";
        for (Method method : publicMethods()) {
            Matcher row = Pattern.compile("(?m)^\\| `" + method.getName() + "\\(([a-z, ]*)\\)` +\\| \\S.* \\|$").matcher(text);
            boolean isThere = row.find();
            dueIn("a row for " + method.getName(), isThere);
            if (!isThere) continue;
            int names = row.group(1).isEmpty() ? 0 : row.group(1).split(", ").length;
            due("the arguments of " + method.getName(), names, method.getParameterCount());
        }
    }

    private static void constants() throws Exception {
        about = "the constants";
        for (Field field : LoanChecker.class.getFields()) {
            String row = "(?m)^\\| `" + field.getName() + "` +\\| " + field.getInt(null) + " +\\| \\S.* \\|$";
            dueIn("a row for " + field.getName(), Pattern.compile(row).matcher(text).find());
        }
    }

    /** The ranges that the table of kinds names are those that point takes. */
    private static void kinds() {
        about = "the kinds";
        for (int kind = SET; kind <= STOP; kind++) {
            Matcher row = Pattern.compile("(?m)^\\| " + kind + " +\\| \\S[^|]*\\|([^|]*)\\|([^|]*)\\|$").matcher(text);
            boolean isThere = row.find();
            dueIn("a row for kind " + kind, isThere);
            if (!isThere) continue;
            int greatestX = greatest(row.group(1).trim());
            int greatestY = greatest(row.group(2).trim());
            due("the greatest of kind " + kind, new LoanChecker().point(kind, greatestX, greatestY), 0);
            if (greatestX < GREATEST) due("a greater x of kind " + kind, new LoanChecker().point(kind, greatestX + 1, greatestY), BAD);
            if (greatestY < GREATEST) due("a greater y of kind " + kind, new LoanChecker().point(kind, greatestX, greatestY + 1), BAD);
        }
    }

    private static int greatest(String range) {
        switch (range) {
            case "": return GREATEST;
            case "owner": case "reference": return 3;
            case "point, 0 to 24": return 24;
            default:
                dueIn("a range that is known: " + range, false);
                return 0;
        }
    }

    private static void tests() throws Exception {
        about = "how the tests are run";
        dueIn("the script", text.contains("```sh\n.ci/run\n```"));
        try (DirectoryStream<Path> files = Files.newDirectoryStream(Path.of("src/test/java"))) {
            for (Path file : files) dueIn("it names " + file, text.contains("- `" + file + "`: "));
        }
        for (Matcher named = Pattern.compile("- `(src/\\S+\\.java)`").matcher(text); named.find(); ) {
            dueIn("there is " + named.group(1), Files.exists(Path.of(named.group(1))));
        }
    }
}
