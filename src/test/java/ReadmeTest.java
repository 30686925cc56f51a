import java.lang.reflect.Method;
import java.lang.reflect.Modifier;
import java.net.URL;
import java.net.URLClassLoader;
import java.nio.file.Files;
import java.nio.file.Path;
import java.util.ArrayList;
import java.util.List;
import java.util.Set;
import java.util.TreeSet;
import java.util.regex.Matcher;
import java.util.regex.Pattern;
import java.util.stream.Stream;
import javax.tools.JavaCompiler;
import javax.tools.ToolProvider;

/** The code of README.md, compiled and run as it stands there: each answer must be the one that is shown. */
public final class ReadmeTest {
    private static final int MOST_CALLS = 512;
    private static final Pattern BLOCK = Pattern.compile("(?s)```java\n(.*?)```");
    private static final Pattern SHOWN = Pattern.compile("x\\.(\\w+)\\((.*)\\);\\s+// (-?\\d+):? .+");
    private static Trial t;

    private final StringBuilder members = new StringBuilder();
    private final StringBuilder body = new StringBuilder();
    private final List<String> calls = new ArrayList<>();
    private final List<Integer> shown = new ArrayList<>();
    private final Set<String> names = new TreeSet<>();

    public static void main(String[] args) throws Exception {
        t = new Trial("ReadmeTest");
        String page = Files.readString(Path.of("README.md"));
        ReadmeTest test = new ReadmeTest();
        test.takeCode(page);
        test.compareAnswers();
        test.showsEveryCall();
        namesEveryTest(page);
        t.close();
    }

    private void takeCode(String page) {
        Matcher block = BLOCK.matcher(page);
        while (block.find()) {
            if (block.group(1).startsWith("static ")) {
                members.append(block.group(1));
            } else {
                block.group(1).lines().forEach(this::takeLine);
            }
        }
    }

    private void takeLine(String line) {
        Matcher call = SHOWN.matcher(line);
        if (call.matches()) {
            body.append("answers[").append(calls.size()).append("] = x.").append(call.group(1)).append('(')
                    .append(call.group(2)).append(");\n");
            calls.add("x." + call.group(1) + "(" + call.group(2) + ")");
            shown.add(Integer.valueOf(call.group(3)));
            names.add(call.group(1));
        } else {
            t.holds("'" + line + "' shows what it answers", !line.startsWith("x."));
            body.append(line).append('\n');
        }
    }

    private void compareAnswers() throws Exception {
        t.holds("calls are shown, and no more than an object's", !calls.isEmpty() && calls.size() < MOST_CALLS / 2);
        int[] answers = run("public final class Shown {\n" + members + "public static int[] answers() {\n"
                + "int[] answers = new int[" + calls.size() + "];\n" + body + "return answers;\n}\n}\n");
        for (int i = 0; i < calls.size(); i++) {
            t.due("call " + i + ", " + calls.get(i) + ", (due: as README.md shows)", answers[i], shown.get(i));
        }
    }

    private static int[] run(String source) throws Exception {
        Path out = Files.createTempDirectory("readme");
        Path file = out.resolve("Shown.java");
        try {
            Files.writeString(file, source);
            JavaCompiler javac = ToolProvider.getSystemJavaCompiler();
            int code = javac.run(null, null, null, "-cp", System.getProperty("java.class.path"), "-d", out.toString(),
                    file.toString());
            t.due("javac of the code that README.md shows", code, 0);
            try (URLClassLoader loader = new URLClassLoader(new URL[] {out.toUri().toURL()})) {
                return (int[]) loader.loadClass("Shown").getMethod("answers").invoke(null);
            }
        } finally {
            Files.deleteIfExists(out.resolve("Shown.class"));
            Files.deleteIfExists(file);
            Files.deleteIfExists(out);
        }
    }

    private void showsEveryCall() {
        for (Method m : BeanTrug.class.getDeclaredMethods()) {
            if (Modifier.isPublic(m.getModifiers())) {
                t.holds(m.getName() + " is shown", names.contains(m.getName()));
            }
        }
    }

    private static void namesEveryTest(String page) throws Exception {
        Set<String> there = new TreeSet<>();
        try (Stream<Path> files = Files.list(Path.of("src/test/java"))) {
            files.map(f -> f.getFileName().toString()).filter(f -> f.endsWith("Test.java"))
                    .forEach(f -> there.add(f.replace(".java", "")));
        }
        Set<String> named = new TreeSet<>();
        Matcher name = Pattern.compile("`(\\w+Test)`").matcher(page);
        while (name.find()) {
            named.add(name.group(1));
        }
        t.holds("the tests are " + there + ", README.md names " + named, there.equals(named));
    }
}
