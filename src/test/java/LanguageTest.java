import java.io.IOException;
import java.lang.reflect.Constructor;
import java.lang.reflect.Field;
import java.lang.reflect.Member;
import java.lang.reflect.Method;
import java.lang.reflect.Modifier;
import java.nio.file.Files;
import java.nio.file.Path;
import java.util.Arrays;
import java.util.HashSet;
import java.util.Set;
import java.util.TreeSet;
import java.util.regex.Matcher;
import java.util.regex.Pattern;
import java.util.stream.Collectors;

/** The rules of LANGUAGE.md that can be looked up, and the public face of the document. */
public final class LanguageTest {
    private static final Checks CHECKS = new Checks("LanguageTest");

    private static final String FACE = """
            int feed(int,int,int,int,int)|int back(int)|int read()|int place()|int minute(int,int)|int family(int,int)
            int lease(int)|int worth(int,int,int)|boolean change(int,int)|boolean let(int,int)|boolean syrup(boolean)
            boolean dust(boolean)|int weeks(int)|boolean undo()|int odds(int)|int falls(int,int)|int value(int,int)
            int have(int)|int mode(int,int)|int mean()|int both(int,int)|int with(int,int)|int buy(int,int)
            int swap(int,int)|int sure(int,int)|int cover(int,int)|int pepper(int)|int soothes(int)
            int game(int,int,int)|int cure()|int richest(int)|int likely(int)|int gains(int,int)|int partsIn(int)
            int year(int,int,int)|int tell(int,int,boolean)|int forget()|int when(int,int)|int ask(int)
            boolean hold(int)|boolean restore(int)|int count(int)""";

    private static final Set<String> CONSTANTS = Set.of("int", "long", "boolean", "char", "String");

    public static void main(String[] args) throws IOException {
        face();
        namesOfOthers();
        shapes(CoughParts.class);
        for (Class<?> inside : CoughParts.class.getDeclaredClasses()) {
            shapes(inside);
        }
        words(Files.readString(Path.of(args.length > 0 ? args[0] : "src/main/java/CoughParts.java")));
        CHECKS.end();
    }

    private static void due(String what, boolean is) {
        CHECKS.due(what, is, true);
    }

    private static void face() {
        Set<String> due = new TreeSet<>(Arrays.asList(FACE.split("[|\n]")));
        Set<String> found = new TreeSet<>();
        for (Method method : CoughParts.class.getDeclaredMethods()) {
            if (Modifier.isPublic(method.getModifiers())) {
                found.add(method.getReturnType() + " " + method.getName() + "("
                        + Arrays.stream(method.getParameterTypes()).map(Class::getName).collect(Collectors.joining(","))
                        + ")");
            } else {
                due(method + " is private", isPrivate(method));
            }
        }
        due("methods " + found, found.equals(due));
        for (Field field : CoughParts.class.getDeclaredFields()) {
            due(field + " is private", isPrivate(field) || field.getName().equals("NONE"));
            due(field + " is final", Modifier.isFinal(field.getModifiers()) || !Modifier.isStatic(field.getModifiers()));
        }
        Constructor<?>[] constructors = CoughParts.class.getDeclaredConstructors();
        due("one constructor", constructors.length == 1 && constructors[0].getParameterCount() == 0);
        due("a final class", Modifier.isFinal(CoughParts.class.getModifiers()));
        CHECKS.due("NONE", CoughParts.NONE, -1);
    }

    private static boolean isPrivate(Member member) {
        return Modifier.isPrivate(member.getModifiers());
    }

    private static void namesOfOthers() {
        Set<String> faceNames = new HashSet<>();
        for (Method method : CoughParts.class.getMethods()) {
            faceNames.add(method.getName());
        }
        for (Class<?> inside : CoughParts.class.getDeclaredClasses()) {
            due(inside + " is static", Modifier.isStatic(inside.getModifiers()));
            for (Method method : inside.getDeclaredMethods()) {
                due(method + " has a name of its own", !faceNames.contains(method.getName()));
            }
        }
        for (Method method : CoughParts.class.getDeclaredMethods()) {
            due(method + " has a name of its own", !isPrivate(method) || !faceNames.contains(method.getName()));
        }
    }

    /** Rules 5 and 11: constants alone are static, seven parameters, some twenty fields. */
    private static void shapes(Class<?> some) {
        int fields = 0;
        for (Field field : some.getDeclaredFields()) {
            if (Modifier.isStatic(field.getModifiers())) {
                due(field + " is final", Modifier.isFinal(field.getModifiers()));
                due(field + " is a constant", CONSTANTS.contains(field.getType().getSimpleName()));
            } else {
                fields++;
            }
        }
        due(some + " has twenty fields at most", fields <= 20);
        for (Method method : some.getDeclaredMethods()) {
            due(method + " has seven parameters at most", method.getParameterCount() <= 7);
        }
    }

    private static void words(String source) {
        String code = source.replaceAll("(?s)/\\*.*?\\*/", "").replaceAll("//[^\n]*", "").replaceAll("\"[^\"\n]*\"", "\"\"");
        Matcher matcher = Pattern.compile("\\b(throw|throws|try|catch|finally|synchronized|assert|package|protected|equals"
                + "|hashCode|toString|\\w+Exact|System\\.(?!arraycopy)\\w+|Exception)\\b|->|::|\"\\s*\\+|\\+\\s*\"").matcher(code);
        while (matcher.find()) {
            due("no '" + matcher.group() + "'", false);
        }
        Matcher imports = Pattern.compile("import ([^;]+);").matcher(code);
        while (imports.find()) {
            due("import " + imports.group(1), imports.group(1).equals("java.util.Arrays"));
        }
        due("signs 0 to 127", source.chars().allMatch(sign -> sign < 128));
        due("twelve classes", CoughParts.class.getDeclaredClasses().length < 12);
    }
}
