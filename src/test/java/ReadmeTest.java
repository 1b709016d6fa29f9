import java.io.IOException;
import java.lang.reflect.Method;
import java.lang.reflect.Modifier;
import java.nio.file.Files;
import java.nio.file.Path;
import java.util.List;
import java.util.regex.Matcher;
import java.util.regex.Pattern;
import java.util.stream.Collectors;
import java.util.stream.Stream;

/** What README.md says: the answers of its run, and that it names each call and each test. */
public final class ReadmeTest {
    private static final Pattern TOLD = Pattern.compile("tell\\(x, \"(.*)\"\\); +// (\\S+?):.*");
    private static final Pattern CALLED = Pattern.compile("x\\.(\\w+\\(.*\\)); +// (\\S+?):.*");

    public static void main(String[] args) throws IOException {
        String page = Files.readString(Path.of("README.md"));
        run(page.lines().collect(Collectors.toList()));
        for (Method m : DogLeases.class.getDeclaredMethods()) {
            if (Modifier.isPublic(m.getModifiers())) {
                Due.same("the page names " + m.getName(), true, () -> page.contains("`" + m.getName() + "`"));
            }
        }
        for (String name : testFiles()) {
            Due.same("the page names " + name, true, () -> page.contains("`" + name + "`"));
        }
        Due.end();
    }

    private static void run(List<String> lines) {
        DogLeases x = new DogLeases();
        int answers = 0;
        for (String line : lines) {
            Matcher told = TOLD.matcher(line);
            Matcher called = CALLED.matcher(line);
            if (told.matches()) {
                Due.same(line, told.group(2), () -> Due.tell(x, told.group(1)));
                answers++;
            } else if (called.matches()) {
                Due.same(line, bare(called.group(2)), () -> Edge.answer(x, called.group(1).replace(" ", "")));
                answers++;
            }
        }
        int many = answers;
        Due.same("answers of the page", 19, () -> many);
    }

    /** Edge has short names for what is thrown. */
    private static String bare(String answer) {
        return answer.equals("NoSuchElementException") ? "NoSuch" : answer.equals("IllegalArgumentException") ? "Illegal" : answer;
    }

    private static List<String> testFiles() throws IOException {
        try (Stream<Path> files = Files.list(Path.of("src/test/java"))) {
            return files.map(file -> file.getFileName().toString().replace(".java", "")).sorted().collect(Collectors.toList());
        }
    }
}
