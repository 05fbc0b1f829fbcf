import java.lang.reflect.Constructor;
import java.lang.reflect.Field;
import java.lang.reflect.Method;
import java.lang.reflect.Modifier;
import java.nio.file.Files;
import java.nio.file.Path;
import java.util.List;
import java.util.Set;
import java.util.TreeSet;
import java.util.regex.Matcher;
import java.util.regex.Pattern;

/** The face of the document, and those rules of LANGUAGE.md that a look at the source can tell. */
public final class LanguageTest {
    private static final Set<String> FACE = Set.of("int para(int,int,int)", "int drops(int,int)", "int widths(int,int)",
            "int sets(int,int)", "int ties(int,int,int)", "int unties(int)", "int of(int,int,int)",
            "int word(int,int,int,int)", "int tie(int,int)", "int crossing(int,int)", "int lawful(int,int)",
            "int opening(int,int)", "int count(int)", "int type(int)", "int clear()", "int does()", "int back()",
            "int told(int)", "long digest()");
    private static final Set<String> CONSTANTS = Set.of("NONE", "BAD", "NO", "FULL");
    private static final List<String> FORBIDDEN = List.of("\\bthrows?\\b", "\\btry\\b", "\\bcatch\\b", "\\bsynchronized\\b",
            "\\bassert\\b", "->", "::", "\\bimport\\b", "\\bpackage\\b", "\\bprotected\\b", "\\bequals\\b", "\\bhashCode\\b",
            "\\btoString\\b", "Exact\\b", "\\bMAX_VALUE\\b", "\\bMIN_VALUE\\b", "\\bvar\\b", "\\bfloat\\b", "\\bdouble\\b",
            "\\bstatic\\s*\\{", "\\[\\]\\s*\\[\\]");
    /** Of what rule 4 allows, that which the class has a use for. */
    private static final Set<String> LIBRARY = Set.of("System.arraycopy", "Math.min", "Math.max", "Integer.bitCount");
    private static final Set<Class<?>> STATIC_TYPES = Set.of(int.class, long.class, boolean.class, char.class, String.class,
            int[].class, long[].class, char[].class, byte[].class);
    private static final int LONGEST_METHOD = 60;
    private static final int MOST_PARAMETERS = 7;
    private static final int MOST_CLASSES = 12;
    private static final int MOST_FIELDS = 20;

    public static void main(String[] args) throws Exception {
        String source = withoutComments(Files.readString(Path.of("src/main/java/FacingPages.java")));
        for (String word : FORBIDDEN) {
            Check.isTrue("no " + word, !Pattern.compile(word).matcher(source).find());
        }
        Check.isTrue("signs 1 to 127 alone", source.chars().allMatch(c -> c > 0 && c < 128));
        Check.isTrue("public members are the face's", count(source, "\\bpublic\\b") == FACE.size() + 3);
        methodsAreShort(source);
        libraryIsSmall(source);
        faceIsWhole();
        classesAreSmall();
        Check.end();
    }

    private static String withoutComments(String source) {
        return source.replaceAll("(?s)/\\*.*?\\*/", "").replaceAll("//[^\n]*", "");
    }

    private static int count(String source, String pattern) {
        return (int) Pattern.compile(pattern).matcher(source).results().count();
    }

    /** A method's head and its closing brace stand at one indent, 4 or 8. */
    private static void methodsAreShort(String source) {
        Matcher m = Pattern.compile("(?ms)^( {4}| {8})(?:private|public)[^;={]*\\([^;{]*\\{.*?^\\1\\}").matcher(source);
        int methods = 0;
        while (m.find()) {
            methods++;
            long lines = m.group().lines().count();
            Check.isTrue(m.group().lines().findFirst().orElse("") + " has " + lines + " lines", lines <= LONGEST_METHOD);
        }
        Check.isTrue("methods are found", methods > FACE.size());
    }

    /** A name with a great letter ahead of a point is one of the library's classes or of the class's own. */
    private static void libraryIsSmall(String source) {
        Set<String> own = new TreeSet<>();
        for (Class<?> c : FacingPages.class.getDeclaredClasses()) {
            own.add(c.getSimpleName());
        }
        Matcher m = Pattern.compile("\\b([A-Z]\\w*)\\.\\w+").matcher(source);
        int calls = 0;
        while (m.find()) {
            calls++;
            Check.isTrue(m.group() + " is of the library that is allowed", own.contains(m.group(1)) || LIBRARY.contains(m.group()));
        }
        Check.isTrue("calls of the library are found", calls > 0);
        Check.isTrue("no name with java ahead", !Pattern.compile("\\bjavax?\\.").matcher(source).find());
    }

    private static void faceIsWhole() {
        Set<String> found = new TreeSet<>();
        Set<String> privateNames = new TreeSet<>();
        for (Method m : FacingPages.class.getDeclaredMethods()) {
            if (Modifier.isPublic(m.getModifiers())) {
                found.add(m.toGenericString().replaceAll("^public ", "").replace("FacingPages.", ""));
            } else {
                Check.isTrue(m + " is private", Modifier.isPrivate(m.getModifiers()));
                privateNames.add(m.getName());
            }
        }
        Check.isTrue("the face is " + found, found.equals(new TreeSet<>(FACE)));
        for (String name : privateNames) {
            Check.isTrue(name + " is no public name", FACE.stream().noneMatch(f -> f.contains(" " + name + "(")));
        }
        for (Constructor<?> c : FacingPages.class.getDeclaredConstructors()) {
            Check.isTrue("the constructor is public, without parameters",
                    Modifier.isPublic(c.getModifiers()) && c.getParameterCount() == 0);
        }
        for (Field f : FacingPages.class.getDeclaredFields()) {
            boolean constant = CONSTANTS.contains(f.getName()) && Modifier.isPublic(f.getModifiers());
            Check.isTrue(f + " is private or a constant of the face", constant || Modifier.isPrivate(f.getModifiers()));
        }
        Check.isTrue("the class is public and final", Modifier.isPublic(FacingPages.class.getModifiers())
                && Modifier.isFinal(FacingPages.class.getModifiers()));
    }

    private static void classesAreSmall() {
        Class<?>[] inside = FacingPages.class.getDeclaredClasses();
        Check.isTrue("few classes", inside.length < MOST_CLASSES);
        lookAt(FacingPages.class);
        for (Class<?> c : inside) {
            Check.isTrue(c + " is static", Modifier.isStatic(c.getModifiers()));
            lookAt(c);
        }
    }

    private static void lookAt(Class<?> c) {
        int fields = 0;
        for (Field f : c.getDeclaredFields()) {
            if (Modifier.isStatic(f.getModifiers())) {
                Check.isTrue(f + " is final", Modifier.isFinal(f.getModifiers()));
                Check.isTrue(f + " is of a type for constants", STATIC_TYPES.contains(f.getType()));
            } else {
                fields++;
            }
        }
        Check.isTrue(c + " has few fields", fields <= MOST_FIELDS);
        for (Method m : c.getDeclaredMethods()) {
            boolean inFace = FACE.stream().anyMatch(f -> f.contains(" " + m.getName() + "("));
            Check.isTrue(m + " bears no public name", !inFace || Modifier.isPublic(m.getModifiers()));
            Check.isTrue(m + " has few parameters", m.getParameterCount() <= MOST_PARAMETERS);
        }
    }
}
