import java.lang.reflect.Constructor;
import java.lang.reflect.Field;
import java.lang.reflect.Method;
import java.lang.reflect.Modifier;
import java.nio.file.Files;
import java.nio.file.Path;
import java.util.HashSet;
import java.util.Set;
import java.util.TreeSet;
import java.util.regex.Matcher;
import java.util.regex.Pattern;

/** The public face, and what can be seen of LANGUAGE.md without reading: run it in the project's folder. */
public final class FaceTest {
    private static final String[] FACE = {
        "int NONE", "int UNKNOWN", "int OUTSIDE", "int NOT", "int FULL", "FlagSignals()",
        "int feed(int)", "int ship()", "int fault()", "int told(int)", "int flag(int,int)", "int signal(int,int)",
        "int line(int,int)", "int needs(int,int)", "int hoist(int,int)", "int haul(int)", "int day(int)", "int sew(int)",
        "int anew(int,int,int,int)", "int weather(int,boolean)", "int drift(int)", "int undo()", "int look(int,int,boolean)",
        "int together(int)", "int turns(int,int)", "int clear(int,int)", "int read(int,int)", "int write(int,int)", "int tear()",
        "int judge()", "int seed(int)", "int keep(int)", "int goBack(int)",
    };
    private static final String[] BANNED = {
        "throw", "throws", "try", "catch", "synchronized", "assert", "import", "package", "protected", "volatile", "native", "record",
    };
    private static int wrong = 0;

    private static void check(boolean holds, String what) {
        if (!holds) {
            wrong++;
            System.out.println(what);
        }
    }

    private static String parameters(Class<?>[] types) {
        StringBuilder s = new StringBuilder("(");
        for (Class<?> type : types) s.append(s.length() > 1 ? "," : "").append(type.getSimpleName());
        return s.append(")").toString();
    }

    private static void face() {
        Set<String> found = new TreeSet<>();
        Set<String> publicNames = new HashSet<>();
        for (Field f : FlagSignals.class.getDeclaredFields()) {
            boolean constant = f.getModifiers() == (Modifier.PUBLIC | Modifier.STATIC | Modifier.FINAL);
            check(constant || Modifier.isPrivate(f.getModifiers()), f.getName() + " is neither a public constant nor private");
            if (constant) found.add(f.getType().getSimpleName() + " " + f.getName());
            if (Modifier.isStatic(f.getModifiers())) check(Modifier.isFinal(f.getModifiers()), f.getName() + " is static and not final");
        }
        for (Constructor<?> c : FlagSignals.class.getDeclaredConstructors()) {
            check(Modifier.isPublic(c.getModifiers()), c + " is not public");
            found.add("FlagSignals" + parameters(c.getParameterTypes()));
        }
        for (Method m : FlagSignals.class.getDeclaredMethods()) {
            if (Modifier.isPrivate(m.getModifiers())) continue;
            check(m.getModifiers() == Modifier.PUBLIC, m + " is not public alone");
            found.add(m.getReturnType().getSimpleName() + " " + m.getName() + parameters(m.getParameterTypes()));
            publicNames.add(m.getName());
        }
        check(found.equals(new TreeSet<>(Set.of(FACE))), "the face is " + found);
        check(FlagSignals.class.getModifiers() == (Modifier.PUBLIC | Modifier.FINAL), "the class is not public and final");
        members(FlagSignals.class, publicNames);
        check(FlagSignals.class.getDeclaredClasses().length < 12, "too many classes");
        for (Class<?> inside : FlagSignals.class.getDeclaredClasses()) {
            check(Modifier.isStatic(inside.getModifiers()), inside + " is not static");
            check(!Modifier.isPublic(inside.getModifiers()), inside + " is public");
            members(inside, publicNames);
        }
    }

    private static void members(Class<?> of, Set<String> publicNames) {
        int fields = 0;
        for (Field f : of.getDeclaredFields()) if (!Modifier.isStatic(f.getModifiers())) fields++;
        check(fields <= 20, of + " has " + fields + " fields");
        for (Method m : of.getDeclaredMethods()) {
            check(m.getParameterCount() <= 7, m + " takes too much");
            boolean own = of != FlagSignals.class || Modifier.isPrivate(m.getModifiers());
            check(!own || !publicNames.contains(m.getName()), m + " bears the name of a public one");
        }
    }

    private static void source() throws Exception {
        String all = Files.readString(Path.of("src/main/java/FlagSignals.java"));
        String code = all.replaceAll("(?s)/\\*.*?\\*/", "").replaceAll("//[^\n]*", "").replaceAll("'.'", "' '");
        for (String word : BANNED) check(!Pattern.compile("\\b" + word + "\\b").matcher(code).find(), "the source says " + word);
        check(!code.contains("->") && !code.contains("::"), "the source has a lambda or a method reference");
        Matcher library = Pattern.compile("\\b(System|Integer|Long|Math|Arrays)\\.(\\w+)").matcher(code);
        Set<String> known = Set.of("System.arraycopy", "Integer.bitCount", "Math.max", "Math.min");
        while (library.find()) check(known.contains(library.group()), "the source uses " + library.group());
        int length = 0;
        for (String line : all.split("\n")) {
            length = line.matches("    (    )?[^ }/*].*\\{") ? 0 : length + 1;
            check(length <= 60 || !line.matches("    (    )?}"), "a method of " + length + " lines");
        }
    }

    public static void main(String[] args) throws Exception {
        face();
        source();
        System.out.println(wrong == 0 ? "the face is as told" : wrong + " faults of the face");
        if (wrong != 0) System.exit(1);
    }
}
