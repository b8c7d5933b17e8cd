import java.io.IOException;
import java.lang.reflect.Method;
import java.lang.reflect.Modifier;
import java.nio.file.Files;
import java.nio.file.Path;
import java.util.Arrays;
import java.util.Set;
import java.util.TreeSet;
import java.util.regex.Matcher;
import java.util.regex.Pattern;
import java.util.stream.Stream;

/** What README.md says is as the class and the tests are: its answers, its table, its list of tests. */
public final class ReadmeTest {
    private static final Check CHECK = new Check();
    private static final Pattern ANSWER = Pattern.compile("temple\\.(\\w+\\([^()]*\\)); +// (-?\\w+).*");
    private static final Pattern ROW = Pattern.compile("\\| `(\\w+)\\(([\\w, ]*)\\)` \\| [^|]+ \\| `([-\\w]+)` \\| [^|]+ \\|");
    private static final Pattern TEST = Pattern.compile("`(\\w+Test)`");

    public static void main(String[] args) throws IOException {
        String text = Files.readString(Path.of("README.md"));
        answers(text.substring(text.indexOf("```java"), text.indexOf("## What can't be done")));
        refusals(text.substring(text.indexOf("## What can't be done"), text.indexOf("## How it is built")));
        tests(text.substring(text.indexOf("## Tests")));
        CHECK.end();
    }

    private static int number(String word) {
        return switch (word) {
            case "true" -> 1;
            case "false" -> 0;
            case "NONE" -> TempleRaised.NONE;
            default -> Integer.parseInt(word);
        };
    }

    private static void answers(String code) {
        Run run = new Run();
        for (String line : code.split("\n")) {
            if (line.startsWith("temple.")) {
                Matcher answer = ANSWER.matcher(line);
                boolean told = answer.matches();
                CHECK.due("an answer is told: " + line, told, true);
                if (told) {
                    CHECK.due(answer.group(1), run.make(Call.of(answer.group(1))), number(answer.group(2)));
                }
            }
        }
        CHECK.due("the example has calls", run.length() > 0, true);
    }

    /** No call can do anything with the least int, and no plan can be found for the least limit. */
    private static void refusals(String text) {
        Set<String> told = new TreeSet<>();
        for (String line : text.split("\n")) {
            Matcher row = ROW.matcher(line);
            if (row.matches()) {
                int parameters = row.group(2).isEmpty() ? 0 : row.group(2).split(",").length;
                told.add(row.group(1) + "/" + parameters);
                int[] numbers = new int[parameters];
                Arrays.fill(numbers, Integer.MIN_VALUE);
                Call call = new Call(row.group(1), numbers);
                Run run = new Run();
                run.make(Call.of("limit(1)"));
                Seen before = new Seen(run);
                CHECK.due(call.toString(), run.make(call), number(row.group(3)));
                CHECK.due(call + " changes nothing", new Seen(run).firstUnlike(before).isEmpty(), true);
            }
        }
        Set<String> face = new TreeSet<>();
        for (Method method : TempleRaised.class.getDeclaredMethods()) {
            if (Modifier.isPublic(method.getModifiers())) {
                face.add(method.getName() + "/" + method.getParameterCount());
            }
        }
        CHECK.due("the table has " + told + ", the face has " + face, told.equals(face), true);
    }

    private static void tests(String text) throws IOException {
        Set<String> told = new TreeSet<>();
        Matcher test = TEST.matcher(text);
        while (test.find()) {
            told.add(test.group(1) + ".java");
        }
        Set<String> there = new TreeSet<>();
        try (Stream<Path> files = Files.list(Path.of("src/test/java"))) {
            files.map(file -> file.getFileName().toString()).filter(name -> name.endsWith("Test.java")).forEach(there::add);
        }
        CHECK.due("the list has " + told + ", there are " + there, told.equals(there), true);
        CHECK.due("the one command is told", text.contains("\n.ci/run\n"), true);
        CHECK.due("the one command is there", Files.isExecutable(Path.of(".ci/run")), true);
    }
}
