import java.io.IOException;
import java.io.PrintWriter;
import java.io.StringWriter;
import java.nio.file.Files;
import java.nio.file.Path;
import java.util.Map;
import java.util.Optional;
import java.util.Set;
import java.util.TreeMap;
import java.util.TreeSet;
import java.util.regex.Matcher;
import java.util.regex.Pattern;
import java.util.spi.ToolProvider;
import java.util.stream.Collectors;
import java.util.stream.Stream;

/** Which method calls which, by the compiled class: LANGUAGE.md's rules 4 (the library), 8 (recursion) and 11 (eight deep). */
public final class CallsTest {
    private static final int DEEPEST = 8;
    private static final Set<String> LIBRARY = Set.of("java/lang/Object.<init>", "java/lang/Integer.bitCount", "java/lang/Math.max", "java/lang/Math.min",
        "java/lang/String.charAt", "java/lang/String.length", "java/lang/System.arraycopy", "java/util/NoSuchElementException.<init>", "java/lang/IllegalArgumentException.<init>");
    private static final Pattern CLASS = Pattern.compile("^(?:\\w+ )*class ([\\w$]+).*");
    private static final Pattern METHOD = Pattern.compile("^  (?:[\\w\\[\\]$.]+ )*([\\w$]+)\\(.*;");
    private static final Pattern CALL = Pattern.compile(".*: invoke.*// Method (?:([\\w$/]+)\\.)?\"?([\\w$<>]+)\"?:.*");

    private static final Map<String, Set<String>> CALLED = new TreeMap<>();

    public static void main(String[] args) throws Exception {
        Optional<ToolProvider> reader = ToolProvider.findFirst("javap");
        if (reader.isEmpty()) {
            System.out.println("nothing here reads class files: calls are not looked at");
            return;
        }
        gather(reader.get());
        Due.same("methods were found", true, () -> CALLED.containsKey("DogLeases.look") && CALLED.size() > 100);
        for (String method : CALLED.keySet()) {
            Due.same("too deep from " + method, "", () -> tooDeep(method, "", 0));
            for (String called : CALLED.get(method)) {
                Due.same(method + " calls " + called, true, () -> CALLED.containsKey(called) || LIBRARY.contains(called));
            }
        }
        Due.end();
    }

    private static void gather(ToolProvider reader) throws Exception {
        String type = "";
        String method = "";
        for (String line : readClasses(reader).split("\n")) {
            Matcher isClass = CLASS.matcher(line);
            Matcher isMethod = METHOD.matcher(line);
            Matcher isCall = CALL.matcher(line);
            if (isClass.matches()) {
                type = isClass.group(1);
            } else if (isMethod.matches()) {
                method = type + "." + (isMethod.group(1).equals(type) ? "<init>" : isMethod.group(1));
                CALLED.putIfAbsent(method, new TreeSet<>());
            } else if (isCall.matches()) {
                CALLED.get(method).add((isCall.group(1) == null ? type : isCall.group(1)) + "." + isCall.group(2));
            }
        }
    }

    private static String readClasses(ToolProvider reader) throws Exception {
        Path folder = Path.of(DogLeases.class.getProtectionDomain().getCodeSource().getLocation().toURI());
        StringWriter told = new StringWriter();
        StringWriter odd = new StringWriter();
        int code = reader.run(new PrintWriter(told), new PrintWriter(odd), classFiles(folder));
        Due.same("class files are read " + odd, 0, () -> code);
        return told.toString();
    }

    private static String[] classFiles(Path folder) throws IOException {
        try (Stream<Path> files = Files.list(folder)) {
            return Stream.concat(Stream.of("-c", "-p"), files.filter(file -> file.getFileName().toString().matches("DogLeases(\\$\\w+)?\\.class")).map(Path::toString).sorted())
                .collect(Collectors.toList()).toArray(new String[0]);
        }
    }

    /** The first chain of calls that goes too deep; a method that calls itself does so too. */
    private static String tooDeep(String method, String chain, int depth) {
        String longer = chain + " " + method;
        if (depth >= DEEPEST) {
            return longer;
        }
        for (String called : CALLED.getOrDefault(method, Set.of())) {
            String found = tooDeep(called, longer, depth + 1);
            if (!found.isEmpty()) {
                return found;
            }
        }
        return "";
    }
}
