import java.lang.reflect.Constructor;
import java.lang.reflect.Field;
import java.lang.reflect.Method;
import java.lang.reflect.Modifier;
import java.nio.file.Files;
import java.nio.file.Path;
import java.util.Arrays;
import java.util.Set;
import java.util.TreeSet;
import java.util.regex.Matcher;
import java.util.regex.Pattern;

/** The public face, and some of what LANGUAGE.md leaves out. */
final class FaceTest {
    private static final String[] FACE = {
        "way int int int int", "brings int int int", "bestWay int", "sky int long", "weather int", "feed int long",
        "rule", "person int int", "sees int int", "lives int int", "plants int int", "show int", "of int int",
        "next int", "go int", "share int", "fares int", "wrong int", "alike int", "gain int int int", "rest int",
        "ifAll int int", "bestRule int", "part int int int int", "edge int int int int", "lessSeen int int",
        "shown int int", "blind int", "image", "restore", "count int",
    };
    /** All that the class asks of the library; LANGUAGE.md has more. */
    private static final Pattern LIBRARY = Pattern.compile(
            "(Math\\.(min|max)|Arrays\\.fill|System\\.arraycopy)\\(");
    private static final Pattern LIBRARY_CALL = Pattern.compile(
            "\\b(Math|Arrays|System|Integer|Long|String|StringBuilder|List|ArrayList)\\.\\w+\\(");
    private static final int LONGEST_METHOD = 60;
    private static final int MOST_PARAMETERS = 7;
    private static final String[] LEFT_OUT = {
        "\\bthrow\\b", "\\bthrows\\b", "\\btry\\b", "\\bcatch\\b", "\\bsynchronized\\b", "\\bassert\\b",
        "->", "::", "\\w+Exact\\b", "\\bpackage\\b", "\\bMath\\.random\\b", "\\bSystem\\.(?!arraycopy\\b)", "\\bstatic\\s*\\{",
    };
    private final Checks checks = new Checks();

    public static void main(String[] args) throws Exception {
        FaceTest test = new FaceTest();
        test.methods();
        test.otherMembers();
        String source = Files.readString(Path.of("src/main/java/YamIsland.java"));
        source = source.replaceAll("(?s)/\\*.*?\\*/", "").replaceAll("//[^\n]*", "");
        test.words(source);
        test.libraryCalls(source);
        test.methodSizes(source);
        test.checks.end();
    }

    private static String told(Method method) {
        StringBuilder told = new StringBuilder(method.getName());
        for (Class<?> type : method.getParameterTypes()) {
            told.append(' ').append(type.getName());
        }
        return told.toString();
    }

    private void methods() {
        Set<String> open = new TreeSet<>();
        Set<String> openNames = new TreeSet<>();
        Set<String> closedNames = new TreeSet<>();
        for (Method method : YamIsland.class.getDeclaredMethods()) {
            if (Modifier.isPrivate(method.getModifiers())) {
                closedNames.add(method.getName());
                continue;
            }
            open.add(told(method));
            openNames.add(method.getName());
            checks.dueTrue(method + " is public", Modifier.isPublic(method.getModifiers()));
            checks.dueTrue(method + " is no static one", !Modifier.isStatic(method.getModifiers()));
            checks.dueTrue(method + " answers int", method.getReturnType() == int.class);
        }
        for (Class<?> inside : YamIsland.class.getDeclaredClasses()) {
            for (Method method : inside.getDeclaredMethods()) {
                closedNames.add(method.getName());
            }
        }
        checks.dueTrue("the methods are the face: " + open, open.equals(new TreeSet<>(Arrays.asList(FACE))));
        closedNames.retainAll(openNames);
        checks.dueTrue("no other method bears a public name: " + closedNames, closedNames.isEmpty());
    }

    private void otherMembers() {
        Class<?> face = YamIsland.class;
        checks.dueTrue("public and final", Modifier.isPublic(face.getModifiers()) && Modifier.isFinal(face.getModifiers()));
        Constructor<?>[] constructors = face.getDeclaredConstructors();
        checks.due("constructors", constructors.length, 1);
        checks.dueTrue("the constructor is public", Modifier.isPublic(constructors[0].getModifiers()));
        checks.due("its parameters", constructors[0].getParameterCount(), 0);
        for (Field field : face.getDeclaredFields()) {
            checks.dueTrue(field + " is private", Modifier.isPrivate(field.getModifiers()));
            checks.dueTrue(field + " is final, if static",
                    !Modifier.isStatic(field.getModifiers()) || Modifier.isFinal(field.getModifiers()));
        }
        for (Class<?> inside : face.getDeclaredClasses()) {
            checks.dueTrue(inside + " is static", Modifier.isStatic(inside.getModifiers()));
            checks.dueTrue(inside + " has some twenty fields at most", inside.getDeclaredFields().length <= 22);
        }
    }

    private void words(String source) {
        for (String word : LEFT_OUT) {
            Matcher found = Pattern.compile(word).matcher(source);
            checks.dueTrue("the class has no " + word, !found.find());
        }
        Matcher imports = Pattern.compile("import\\s+([^;]+);").matcher(source);
        while (imports.find()) {
            checks.dueTrue("import of " + imports.group(1), imports.group(1).equals("java.util.Arrays"));
        }
    }

    private void libraryCalls(String source) {
        Matcher calls = LIBRARY_CALL.matcher(source);
        while (calls.find()) {
            checks.dueTrue("call of " + calls.group(), LIBRARY.matcher(calls.group()).matches());
        }
    }

    private void methodSizes(String source) {
        Matcher methods = Pattern.compile("(?m)^( +)[\\w\\[\\] ]+\\(([^)]*)\\) \\{\n(?s:.*?)^\\1\\}$").matcher(source);
        while (methods.find()) {
            String head = methods.group().substring(0, methods.group().indexOf('{')).trim();
            checks.dueTrue(head + " is short", methods.group().split("\n").length <= LONGEST_METHOD);
            checks.dueTrue(head + " takes few", methods.group(2).split(",").length <= MOST_PARAMETERS);
        }
    }
}
