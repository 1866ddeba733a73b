import java.io.IOException;
import java.lang.reflect.Constructor;
import java.lang.reflect.Field;
import java.lang.reflect.Method;
import java.lang.reflect.Modifier;
import java.nio.file.Files;
import java.nio.file.Path;
import java.util.Set;
import java.util.TreeSet;
import java.util.regex.Matcher;
import java.util.regex.Pattern;

/** The public face, and those rules of LANGUAGE.md that can be seen from outside or by single words. */
public final class FaceTest {
    private static final Check check = new Check();
    private static final Set<String> METHODS = new TreeSet<>(Set.of("add/5", "drop/2", "anew/1", "cell/3", "summary/3",
        "listed/4", "say/1", "wipe/0"));

    public static void main(String[] args) throws Exception {
        METHODS.addAll(Set.of("fault/0", "truth/2", "range/3", "may/2", "verdict/2", "answer/1", "total/2", "image/1",
            "restore/1", "told/1"));
        constantsAreThere();
        methodsAreThere();
        nothingElseIsSeen();
        classesInside();
        wordsOfTheSource();
        faceOfTheDocument();
        check.end("FaceTest");
    }

    private static void constantsAreThere() throws Exception {
        String[] names = {"NONE", "UNKNOWN", "OUTSIDE", "STATE", "FULL", "NO", "GONE"};
        int[] values = {-2000000, -1, -2, -3, -4, -5, -3000000};
        for (int i = 0; i < names.length; i++) {
            Field field = BlockTruths.class.getField(names[i]);
            check.due(names[i], field.getInt(null), values[i]);
            check.holds(names[i] + " is final", Modifier.isFinal(field.getModifiers()));
        }
        check.due("as many constants", BlockTruths.class.getFields().length, names.length);
    }

    private static void methodsAreThere() {
        Set<String> seen = new TreeSet<>();
        for (Method method : BlockTruths.class.getDeclaredMethods()) {
            if (Modifier.isPublic(method.getModifiers())) {
                seen.add(method.getName() + "/" + method.getParameterCount());
                check.holds(method.getName() + " is no static one", !Modifier.isStatic(method.getModifiers()));
                check.holds(method.getName() + " answers an int", method.getReturnType() == int.class);
                for (Class<?> parameter : method.getParameterTypes()) {
                    check.holds(method.getName() + " takes ints", parameter == int.class);
                }
            }
        }
        check.holds("the document's methods, not " + seen, seen.equals(METHODS));
        Constructor<?>[] constructors = BlockTruths.class.getDeclaredConstructors();
        check.due("constructors", constructors.length, 1);
        check.holds("it is public", Modifier.isPublic(constructors[0].getModifiers()));
        check.due("it takes nothing", constructors[0].getParameterCount(), 0);
    }

    private static void nothingElseIsSeen() {
        int face = BlockTruths.class.getModifiers();
        check.holds("the class is public and final", Modifier.isPublic(face) && Modifier.isFinal(face));
        for (Field field : BlockTruths.class.getDeclaredFields()) {
            int m = field.getModifiers();
            check.holds(field + " is private or public", Modifier.isPrivate(m) || Modifier.isPublic(m));
        }
        for (Method method : BlockTruths.class.getDeclaredMethods()) {
            int m = method.getModifiers();
            check.holds(method + " is private or public", Modifier.isPrivate(m) || Modifier.isPublic(m));
            if (Modifier.isPrivate(m)) {
                check.holds(method + " bears no public name", !bearsPublicName(method));
            }
        }
    }

    private static boolean bearsPublicName(Method method) {
        for (String known : METHODS) {
            if (known.startsWith(method.getName() + "/")) {
                return true;
            }
        }
        return false;
    }

    private static void classesInside() {
        Class<?>[] inside = BlockTruths.class.getDeclaredClasses();
        check.holds("at most twelve classes", inside.length + 1 <= 12);
        for (Class<?> c : inside) {
            int m = c.getModifiers();
            check.holds(c + " is static", Modifier.isStatic(m));
            check.holds(c + " is not seen", !Modifier.isPublic(m) && !Modifier.isProtected(m));
            check.holds(c + " has few fields", c.getDeclaredFields().length <= 20);
            for (Method method : c.getDeclaredMethods()) {
                check.holds(method + " bears no public name", !bearsPublicName(method));
                check.holds(method + " takes at most seven", method.getParameterCount() <= 7);
            }
            staticsAreFinal(c);
        }
        staticsAreFinal(BlockTruths.class);
    }

    private static void staticsAreFinal(Class<?> c) {
        for (Field field : c.getDeclaredFields()) {
            int m = field.getModifiers();
            check.holds(field + " is final if it is static", !Modifier.isStatic(m) || Modifier.isFinal(m));
        }
    }

    private static void wordsOfTheSource() throws IOException {
        String source = Files.readString(Path.of("src/main/java/BlockTruths.java"));
        for (int i = 0; i < source.length(); i++) {
            check.holds("sign " + i + " is plain", source.charAt(i) < 127);
        }
        String code = source.replaceAll("(?s)/\\*.*?\\*/", " ").replaceAll("//[^\n]*", " ");
        String banned = "\\b(throw|throws|try|catch|finally|synchronized|assert|import|package|native|volatile|transient"
            + "|protected|double|float|Object|equals|hashCode|toString|System\\.(?!arraycopy)\\w+|\\w+Exact|Thread|Random)\\b|->|::|@";
        Matcher found = Pattern.compile(banned).matcher(code);
        check.holds("no word that the rules leave out", !found.find());
    }

    /** Each line of the document's face stands in the program, with the names of its parameters. */
    private static void faceOfTheDocument() throws IOException {
        String document = Files.readString(Path.of("../shared/DOC.md"));
        String source = Files.readString(Path.of("src/main/java/BlockTruths.java"));
        int begin = document.indexOf("```java");
        int end = document.indexOf("```", begin + 7);
        check.holds("the document has a face", begin >= 0 && end > begin);
        for (String line : document.substring(begin + 7, end).split("\n")) {
            String due = line.trim().replaceAll("\\);$", ") {");
            check.holds("the face has: " + due, source.contains(due));
        }
    }
}
