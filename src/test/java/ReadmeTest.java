import java.io.IOException;
import java.lang.reflect.Field;
import java.lang.reflect.Method;
import java.lang.reflect.Modifier;
import java.nio.file.Files;
import java.nio.file.Path;
import java.util.ArrayList;
import java.util.Arrays;
import java.util.HashSet;
import java.util.List;
import java.util.Set;
import java.util.regex.Matcher;
import java.util.regex.Pattern;
import java.util.stream.Stream;

/** README.md says how to use the class and how to run its tests: what it shows is so, and nothing is left out. */
public final class ReadmeTest {
    private static final Pattern CALL = Pattern.compile("x\\.(\\w+)\\((.*)\\);\\s*// ([-\\w +]+)(:.*)?");
    private static final Pattern QUESTION = Pattern.compile("ask\\(x, \"(.*)\"\\);");
    private static final Check check = new Check();

    private final BlockTruths x = new BlockTruths();
    private final Set<String> shown = new HashSet<>();

    public static void main(String[] args) throws Exception {
        String page = Files.readString(Path.of("README.md"));
        new ReadmeTest().runExamples(page);
        constantsAreNamed(page);
        testsAreNamed(page);
        check.end("ReadmeTest");
    }

    private void runExamples(String page) throws ReflectiveOperationException {
        for (String line : page.split("\n")) {
            Matcher call = CALL.matcher(line);
            Matcher question = QUESTION.matcher(line);
            if (call.matches()) {
                shown.add(call.group(1));
                check.due(line, answerOf(call.group(1), call.group(2)), numberOf(call.group(3)));
            } else if (question.matches()) {
                check.ask(x, question.group(1));
                check.due(line, x.fault(), Check.NONE);
            } else {
                check.holds("an example without its answer: " + line, !line.startsWith("x."));
            }
        }
        for (Method method : BlockTruths.class.getDeclaredMethods()) {
            if (Modifier.isPublic(method.getModifiers())) {
                check.holds("an example of " + method.getName(), shown.contains(method.getName()));
            }
        }
    }

    private int answerOf(String name, String arguments) throws ReflectiveOperationException {
        List<Object> values = new ArrayList<>();
        for (String argument : arguments.isEmpty() ? new String[0] : arguments.split(", ")) {
            values.add(argument.startsWith("'") ? (int) argument.charAt(1) : Integer.parseInt(argument));
        }
        Class<?>[] types = new Class<?>[values.size()];
        Arrays.fill(types, int.class);
        return (int) BlockTruths.class.getMethod(name, types).invoke(x, values.toArray());
    }

    /** A number, the name of a constant, or two of them added. */
    private static int numberOf(String words) throws ReflectiveOperationException {
        int sum = 0;
        for (String word : words.split(" \\+ ")) {
            sum += word.matches("-?\\d+") ? Integer.parseInt(word) : BlockTruths.class.getField(word).getInt(null);
        }
        return sum;
    }

    private static void constantsAreNamed(String page) throws ReflectiveOperationException {
        for (Field field : BlockTruths.class.getFields()) {
            String value = Integer.toString(field.getInt(null));
            boolean named = page.contains("`" + field.getName() + "` | " + value + " |")
                || page.replaceAll("\\s+", " ").contains("`" + field.getName() + "` (" + value + ")");
            check.holds(field.getName() + " is told with its number " + value, named);
        }
    }

    private static void testsAreNamed(String page) throws IOException {
        check.holds("it says what runs the tests", page.contains("## How to run its tests\n\n    .ci/run\n"));
        Set<String> there = new HashSet<>();
        try (Stream<Path> files = Files.list(Path.of("src/test/java"))) {
            files.forEach(file -> there.add(file.getFileName().toString().replace(".java", "")));
        }
        for (String name : there) {
            boolean helps = name.equals("Check") || name.equals("Document");
            check.holds("it says what " + name + " is about", helps || page.contains("`" + name + "`"));
        }
        Matcher named = Pattern.compile("`(\\w+(?:Test|Edges))`").matcher(page);
        while (named.find()) {
            check.holds(named.group(1) + " is there", there.contains(named.group(1)));
        }
    }
}
