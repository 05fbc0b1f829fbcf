import java.io.IOException;
import java.lang.reflect.Method;
import java.lang.reflect.Modifier;
import java.net.URL;
import java.net.URLClassLoader;
import java.nio.file.Files;
import java.nio.file.Path;
import java.util.ArrayList;
import java.util.Comparator;
import java.util.List;
import java.util.Set;
import java.util.TreeSet;
import java.util.regex.Matcher;
import java.util.regex.Pattern;
import java.util.stream.Stream;
import javax.tools.JavaCompiler;
import javax.tools.ToolProvider;

/** What README.md says that a call answers is what it answers to someone who does as README.md shows. */
public final class ReadmeTest {
    private static final Pattern BLOCK = Pattern.compile("(?ms)^```java\\n(.*?)^```$");
    private static final Pattern OBJECT = Pattern.compile("FacingPages (\\w+) = new FacingPages\\(\\);");
    private static final Pattern TYPING = Pattern.compile("for \\(char c : \"[^\"]*\"\\.toCharArray\\(\\)\\) (\\w+)\\.type\\(c\\);");
    private static final Pattern CALL = Pattern.compile("((\\w+)\\.\\w+\\([-0-9, ]*\\));\\s+// (-?\\d+): .+");
    private static final Pattern TABLE_ROW = Pattern.compile("(?m)^\\| `(\\w+)\\(([^)]*)\\)` \\| .+ \\|$");

    private static final List<String> CALLS = new ArrayList<>();
    private static final List<Long> ANSWERS_TOLD = new ArrayList<>();

    public static void main(String[] args) throws Exception {
        String readme = Files.readString(Path.of("README.md"));
        List<String> blocks = new ArrayList<>();
        Matcher m = BLOCK.matcher(readme);
        while (m.find()) {
            blocks.add(m.group(1));
        }
        Check.isTrue("blocks of calls are found", blocks.size() >= 2);
        // All in one method: pasted one behind the other they are to compile and to hold, too.
        StringBuilder all = new StringBuilder();
        for (String block : blocks) {
            all.append(withAnswersKept(block));
        }
        Check.isTrue("calls with an answer are found", CALLS.size() >= blocks.size());
        run("public final class ReadmeBlocks {\npublic static void run(long[] answers) {\n" + all + "}\n}\n");
        tableHasTheFace(readme);
        Check.end();
    }

    /** The same lines, but that the answer of each call is kept. */
    private static String withAnswersKept(String block) {
        StringBuilder lines = new StringBuilder();
        String object = "";
        for (String line : block.split("\n")) {
            Matcher made = OBJECT.matcher(line);
            Matcher typing = TYPING.matcher(line);
            Matcher call = CALL.matcher(line);
            if (made.matches()) {
                object = made.group(1);
                lines.append(line);
            } else if (typing.matches()) {
                Check.isTrue(line + " is of the block's own object", typing.group(1).equals(object));
                lines.append(line);
            } else if (call.matches()) {
                Check.isTrue(line + " is of the block's own object", call.group(2).equals(object));
                lines.append("answers[" + CALLS.size() + "] = " + call.group(1) + ";");
                CALLS.add(call.group(1));
                ANSWERS_TOLD.add(Long.parseLong(call.group(3)));
            } else {
                Check.isTrue("README.md has a line that can be looked at: " + line, line.isBlank());
            }
            lines.append('\n');
        }
        return lines.toString();
    }

    private static void run(String source) throws Exception {
        JavaCompiler compiler = ToolProvider.getSystemJavaCompiler();
        Check.isTrue("java comes with its compiler", compiler != null);
        if (compiler == null) {
            return;
        }
        Path dir = Files.createTempDirectory("readme");
        try {
            Path file = Files.writeString(dir.resolve("ReadmeBlocks.java"), source);
            String path = System.getProperty("java.class.path");
            int code = compiler.run(null, System.out, System.out, "-proc:none", "-cp", path, "-d", dir.toString(), file.toString());
            Check.due("README.md's blocks compile", code, 0);
            if (code == 0) {
                compare(dir);
            }
        } finally {
            remove(dir);
        }
    }

    private static void compare(Path dir) throws Exception {
        long[] answers = new long[CALLS.size()];
        try (URLClassLoader loader = new URLClassLoader(new URL[] {dir.toUri().toURL()}, ReadmeTest.class.getClassLoader())) {
            loader.loadClass("ReadmeBlocks").getMethod("run", long[].class).invoke(null, (Object) answers);
        }
        for (int i = 0; i < answers.length; i++) {
            Check.due("README.md: " + CALLS.get(i), answers[i], ANSWERS_TOLD.get(i));
        }
    }

    private static void remove(Path dir) throws IOException {
        try (Stream<Path> paths = Files.walk(dir)) {
            for (Path p : paths.sorted(Comparator.reverseOrder()).toList()) {
                Files.delete(p);
            }
        }
    }

    private static void tableHasTheFace(String readme) {
        Set<String> told = new TreeSet<>();
        Matcher m = TABLE_ROW.matcher(readme);
        while (m.find()) {
            int parameters = m.group(2).isEmpty() ? 0 : m.group(2).split(",").length;
            Check.isTrue(m.group(1) + " is told once", told.add(m.group(1) + "/" + parameters));
        }
        Set<String> face = new TreeSet<>();
        for (Method method : FacingPages.class.getDeclaredMethods()) {
            if (Modifier.isPublic(method.getModifiers())) {
                face.add(method.getName() + "/" + method.getParameterCount());
            }
        }
        Check.isTrue("README.md's table " + told + " is the face " + face, told.equals(face));
    }
}
