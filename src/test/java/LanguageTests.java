import java.nio.file.Files;
import java.nio.file.Path;
import java.util.Map;
import java.util.Set;
import java.util.TreeMap;
import java.util.TreeSet;
import java.util.regex.Matcher;
import java.util.regex.Pattern;

/** The rules of LANGUAGE.md that the text of the source shows; FaceTests has what the class itself shows. */
public final class LanguageTests {
    private static final Pattern HEAD = Pattern.compile("(?m)^    (?:public|private)(?: static)? \\w+ (\\w+)\\([^)]*\\) \\{$");
    private static final Pattern NAME = Pattern.compile("\\b(\\w+)\\(");
    private static final int LONGEST_METHOD = 60;
    private static final int DEEPEST = 6;
    private static final int MOST_FIELDS = 40;

    private static int wrong = 0;
    private static String code;
    private static final Map<String, String> bodies = new TreeMap<>();

    public static void main(String[] args) throws Exception {
        String text = Files.readString(Path.of("src/main/java/LoanChecker.java"));
        code = text.replaceAll("//[^\n]*", "").replaceAll("(?s)/\\*.*?\\*/", "");
        readMethods();
        words();
        fields();
        loops();
        for (String name : bodies.keySet()) {
            lines(name);
            callsInArguments(name);
            depth(name);
        }
        System.out.println(wrong == 0 ? "the language is kept to" : wrong + " faults of the language");
        if (wrong != 0) System.exit(1);
    }

    private static void check(boolean holds, String what) {
        if (!holds) {
            wrong++;
            System.out.println("language: " + what);
        }
    }

    private static void readMethods() {
        for (Matcher head = HEAD.matcher(code); head.find(); ) {
            String body = code.substring(head.end(), code.indexOf("\n    }\n", head.end()));
            check(bodies.put(head.group(1), body) == null, "rule 1: two methods are named " + head.group(1));
        }
        int declared = LoanChecker.class.getDeclaredMethods().length;
        check(bodies.size() == declared, "the methods cannot be read: " + bodies.size() + " of " + declared);
    }

    private static void words() {
        String[] ruledOut = {"import", "package", "throw", "throws", "try", "catch", "synchronized", "assert",
            "instanceof", "null", "float", "double", "String", "Math", "Integer", "Long", "System", "Arrays",
            "Object", "equals", "hashCode", "toString", "clone", "getClass", "wait", "notify", "notifyAll", "finalize",
            "interface", "enum", "record", "var"};
        for (String word : ruledOut) {
            check(!Pattern.compile("\\b" + word + "\\b").matcher(code).find(), "rules 2, 3, 6: the source has " + word);
        }
        check(!code.contains("->") && !code.contains("::"), "rule 6: a lambda or a method reference");
        check(!code.contains("\""), "rule 2: a text");
        check(!code.contains("[]["), "rule 2: an array of arrays");
        check(code.split("\\bclass\\b").length == 2, "rule 1: not just one class");
    }

    private static void fields() {
        int fields = 0;
        for (String line : code.split("\n")) {
            boolean isArray = line.matches("    private final (int|boolean)\\[\\] \\w+ = new \\w+\\[[A-Z_]+\\];");
            boolean isNumber = line.matches("    private (int|boolean) \\w+ = \\w+;");
            boolean isConstant = line.matches("    (public|private) static final int [A-Z_]+ = [-+*<\\w ]+;");
            boolean isMember = line.matches("    \\S.*;");
            check(isArray || !line.matches(".*\\bnew\\b.*"), "rule 4: made outside a field: " + line);
            check(isArray || isNumber || isConstant || !isMember, "rules 4, 5: no such field: " + line);
            check(isConstant || !line.matches(".*\\bstatic\\b.*"), "rule 5: static: " + line);
            if (isArray || isNumber) fields++;
        }
        check(fields > 0 && fields <= MOST_FIELDS, "rule 10: " + fields + " fields");
    }

    private static void loops() {
        String bound = "(?s).*\\bfor \\(int (\\w+) = [^;]+;[^;]*\\b\\1 (<|>=) [^;]+; \\1(\\+\\+|--)\\) \\{.*";
        for (String line : code.split("\n")) {
            check(!line.matches(".*\\b(while|do)\\b.*"), "rule 8: a loop without a counter: " + line);
            check(!line.matches(".*\\bfor\\b.*") || line.matches(bound), "rule 8: a loop without a bound: " + line);
        }
    }

    private static void lines(String name) {
        int lines = bodies.get(name).split("\n").length + 1;
        check(lines <= LONGEST_METHOD, "rule 10: " + name + " has " + lines + " lines");
    }

    private static void callsInArguments(String name) {
        String body = bodies.get(name);
        for (Matcher call = NAME.matcher(body); call.find(); ) {
            if (!bodies.containsKey(call.group(1))) continue;
            String arguments = body.substring(call.end(), closing(body, call.end()));
            check(!NAME.matcher(arguments).find(), "rule 10: a call inside " + call.group() + arguments + ") in " + name);
        }
    }

    private static int closing(String body, int from) {
        int open = 1;
        int i = from;
        for (; open > 0; i++) open += body.charAt(i) == '(' ? 1 : body.charAt(i) == ')' ? -1 : 0;
        return i - 1;
    }

    private static Set<String> calledBy(String name) {
        Set<String> called = new TreeSet<>();
        for (Matcher call = NAME.matcher(bodies.get(name)); call.find(); ) called.add(call.group(1));
        called.retainAll(bodies.keySet());
        return called;
    }

    /** Recursion would go deeper than any bound, so this finds it too. */
    private static void depth(String name) {
        Set<String> level = Set.of(name);
        int deep = 0;
        for (; !level.isEmpty() && deep <= DEEPEST; deep++) {
            Set<String> next = new TreeSet<>();
            for (String caller : level) next.addAll(calledBy(caller));
            level = next;
        }
        check(deep <= DEEPEST, "rules 8, 10: calls go more than " + DEEPEST + " deep from " + name);
    }
}
