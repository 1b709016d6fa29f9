import java.io.IOException;
import java.lang.reflect.Method;
import java.lang.reflect.Modifier;
import java.nio.file.Files;
import java.nio.file.Path;
import java.util.Arrays;
import java.util.List;
import java.util.Set;
import java.util.TreeSet;
import java.util.regex.Matcher;
import java.util.regex.Pattern;
import java.util.stream.Collectors;

/** What of LANGUAGE.md a look at the source and at the face can show. */
public final class SourceTest {
    private static final String FACE = "DogLeases.NONE beside buy cats count empty envy fault feed forget game gets house image lead leastChops "
        + "liking look loses most oldest pockets purse quarters restore row ruin sealed see share temper tenant terrace then toWin undo years";
    private static final String[] FORBIDDEN = {"->", "::", "Exact\\(", "\\bcatch\\b", "\\bfinally\\b", "\\bsynchronized\\b", "\\bassert\\b",
        "while \\(true\\)", "for \\(;;\\)", "\\bSystem\\.(?!arraycopy)", "\\bRandom\\b", "\\bThread\\b", "\\bvar\\b", "\\bHashMap\\b", "\\bstatic \\{", "\" \\+|\\+ \""};

    public static void main(String[] args) throws IOException {
        String source = Files.readString(Path.of("src/main/java/DogLeases.java"));
        String bare = source.replaceAll("(?s)/\\*.*?\\*/", "").replaceAll("//.*", "");
        for (String odd : FORBIDDEN) {
            Due.same("none of " + odd, false, () -> Pattern.compile(odd).matcher(bare).find());
        }
        Due.same("one import", List.of("import java.util.NoSuchElementException;"),
            () -> bare.lines().filter(line -> line.startsWith("import")).collect(Collectors.toList()));
        Due.same("signs", true, () -> source.chars().allMatch(c -> c < 127));
        face();
        signatures();
        names();
        methods(bare);
        classes(bare);
        Due.end();
    }

    private static void face() {
        Set<String> seen = new TreeSet<>();
        Arrays.stream(DogLeases.class.getDeclaredMethods()).filter(m -> !Modifier.isPrivate(m.getModifiers())).forEach(m -> seen.add(m.getName()));
        Arrays.stream(DogLeases.class.getDeclaredFields()).filter(f -> !Modifier.isPrivate(f.getModifiers())).forEach(f -> seen.add("DogLeases." + f.getName()));
        Due.same("the face", FACE, () -> String.join(" ", seen));
        Due.same("final", true, () -> Modifier.isFinal(DogLeases.class.getModifiers()));
        Due.same("one constructor", 1, () -> DogLeases.class.getDeclaredConstructors().length);
        Due.same("static fields are final", true, () -> Arrays.stream(DogLeases.class.getDeclaredFields())
            .allMatch(f -> !Modifier.isStatic(f.getModifiers()) || Modifier.isFinal(f.getModifiers())));
    }

    /** Each method of the document's face, with what it takes, gives and throws, and none beside. */
    private static void signatures() throws IOException {
        Set<String> told = new TreeSet<>();
        Matcher m = Pattern.compile("(?m)^    public (\\w+) (\\w+)\\((.*?)\\)( throws (.*))?;$").matcher(Files.readString(Path.of("../shared/DOC.md")));
        while (m.find()) {
            String takes = m.group(3).replaceAll("(\\w+) \\w+", "$1");
            told.add(m.group(1) + " " + m.group(2) + "(" + takes + ") " + (m.group(5) == null ? "" : m.group(5)));
        }
        Set<String> seen = new TreeSet<>();
        for (Method one : DogLeases.class.getDeclaredMethods()) {
            if (Modifier.isPublic(one.getModifiers())) {
                seen.add(one.getReturnType().getSimpleName() + " " + one.getName() + "(" + simpleNames(one.getParameterTypes()) + ") " + simpleNames(one.getExceptionTypes()));
            }
        }
        Due.same("so many methods", 36, () -> told.size());
        Due.same("signatures", told, () -> seen);
    }

    private static String simpleNames(Class<?>[] types) {
        return Arrays.stream(types).map(Class::getSimpleName).collect(Collectors.joining(", "));
    }

    private static void names() {
        Set<String> face = Set.of(FACE.split(" "));
        for (Class<?> one : DogLeases.class.getDeclaredClasses()) {
            for (Method m : one.getDeclaredMethods()) {
                Due.same(one.getSimpleName() + "." + m.getName() + " has a name of its own", false, () -> face.contains(m.getName()));
            }
            Due.same(one.getSimpleName() + " is private and static", true,
                () -> Modifier.isPrivate(one.getModifiers()) && Modifier.isStatic(one.getModifiers()));
        }
        for (Method m : DogLeases.class.getDeclaredMethods()) {
            Due.same(m.getName() + " is public or has a name of its own", true, () -> Modifier.isPublic(m.getModifiers()) || !face.contains(m.getName()));
            Due.same(m.getName() + " takes seven at most", true, () -> m.getParameterCount() <= 7);
        }
    }

    private static void methods(String bare) {
        Matcher m = Pattern.compile("(?m)^( {4,8})[a-zA-Z].*\\) (throws .*)?\\{$").matcher(bare);
        while (m.find()) {
            int end = bare.indexOf("\n" + m.group(1) + "}", m.end());
            long lines = bare.substring(m.start(), end).lines().count() + 1;
            Due.same(m.group().strip() + " is short", true, () -> lines <= 60);
        }
    }

    private static void classes(String bare) {
        Due.same("some twelve classes", true, () -> Pattern.compile("\\bclass\\b").matcher(bare).results().count() <= 12);
        for (Class<?> one : DogLeases.class.getDeclaredClasses()) {
            Due.same(one.getSimpleName() + ": some twenty fields", true,
                () -> Arrays.stream(one.getDeclaredFields()).filter(f -> !Modifier.isStatic(f.getModifiers())).count() <= 20);
        }
    }
}
