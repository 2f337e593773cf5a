import java.lang.reflect.Method;
import java.nio.file.Files;
import java.nio.file.Path;
import java.util.regex.Matcher;
import java.util.regex.Pattern;
import java.util.stream.Stream;

/** What README.md shows is so: run it in the project's folder. */
public final class ReadmeTest {
    private static final Pattern MADE = Pattern.compile("FlagSignals x = new FlagSignals\\(\\);");
    private static final Pattern FED = Pattern.compile("for \\(char c : \"([^\"]*)\"\\.toCharArray\\(\\)\\) x\\.feed\\(c\\);");
    private static final Pattern CALLED = Pattern.compile("x\\.(\\w+)\\(([^()]*)\\); +// (-?\\d+): .+");
    private static int wrong = 0;

    private static void check(boolean holds, String what) {
        if (!holds) {
            wrong++;
            System.out.println("README.md: " + what);
        }
    }

    private static Method call(String name) {
        for (Method m : FlagSignals.class.getMethods()) {
            if (m.getDeclaringClass() == FlagSignals.class && m.getName().equals(name)) return m;
        }
        return null;
    }

    private static Object[] arguments(String list) {
        return Stream.of(list.split(", ")).filter(s -> !s.isEmpty())
            .map(s -> s.matches("true|false") ? (Object) Boolean.valueOf(s) : (Object) Integer.valueOf(s)).toArray();
    }

    private static void example(String block) throws Exception {
        FlagSignals x = null;
        int calls = 0;
        for (String line : block.split("\n")) {
            if (line.isEmpty() || line.startsWith("//")) continue;
            Matcher fed = FED.matcher(line);
            Matcher called = CALLED.matcher(line);
            if (MADE.matcher(line).matches()) {
                x = new FlagSignals();
            } else if (x != null && fed.matches()) {
                for (char c : fed.group(1).toCharArray()) x.feed(c);
            } else if (x != null && called.matches() && call(called.group(1)) != null) {
                Object got = call(called.group(1)).invoke(x, arguments(called.group(2)));
                check(got.toString().equals(called.group(3)), "'" + line + "' answers " + got);
                calls++;
            } else {
                check(false, "'" + line + "' is not understood");
            }
        }
        check(calls > 0, "the example calls nothing");
    }

    private static void allAreNamed(String page) throws Exception {
        for (Method m : FlagSignals.class.getMethods()) {
            if (m.getDeclaringClass() == FlagSignals.class) check(page.contains("`" + m.getName() + "("), m.getName() + " is not named");
        }
        try (Stream<Path> files = Files.list(Path.of("src/test/java"))) {
            for (Path file : files.toList()) check(page.contains("`" + file.getFileName() + "`"), file + " is not named");
        }
        Matcher named = Pattern.compile("`(\\w+\\.java)`").matcher(page);
        while (named.find()) check(Files.exists(Path.of("src/test/java", named.group(1))), named.group(1) + " is not there");
        check(page.contains(".ci/run") && Files.isExecutable(Path.of(".ci/run")), ".ci/run cannot be run as told");
    }

    public static void main(String[] args) throws Exception {
        String page = Files.readString(Path.of("README.md"));
        Matcher block = Pattern.compile("(?s)```java\n(.*?)```").matcher(page);
        check(block.find(), "there is no example");
        if (wrong == 0) example(block.group(1));
        allAreNamed(page);
        System.out.println(wrong == 0 ? "the page shows what is so" : wrong + " things on the page are not so");
        if (wrong != 0) System.exit(1);
    }
}
