import java.lang.reflect.Constructor;
import java.lang.reflect.Field;
import java.lang.reflect.Method;
import java.lang.reflect.Modifier;
import java.nio.file.Files;
import java.nio.file.Path;
import java.util.ArrayList;
import java.util.Arrays;
import java.util.List;
import java.util.Set;
import java.util.TreeSet;
import java.util.regex.Matcher;
import java.util.regex.Pattern;

/** The public face, to the letter, and the rules of LANGUAGE.md that a look at the source can check. */
public final class FaceTest {
    private static final String FACE = "feed 5;end 1;trug 0;rule 0;force 1;sorrow 2;carrier 1;step 0;take 1;await 1;"
            + "lay 2;lighten 2;undo 0;ahead 2;when 2;dusk 1;order 1;chain 1;rings 0;taken 1;slack 1;carry 1;pole 1;"
            + "light 1;took 2;game 1;pence 2;note 2;ruled 1;look 1;seed 1;years 2;count 1;image 1;back 1";
    private static Trial t;

    public static void main(String[] args) throws Exception {
        t = new Trial("FaceTest");
        members();
        nested();
        source(Files.readString(Path.of("src/main/java/BeanTrug.java")));
        t.close();
    }

    private static void members() {
        Class<BeanTrug> c = BeanTrug.class;
        t.holds("the class is public and final", Modifier.isPublic(c.getModifiers()) && Modifier.isFinal(c.getModifiers()));
        Constructor<?>[] constructors = c.getDeclaredConstructors();
        t.holds("one public constructor without arguments", constructors.length == 1
                && Modifier.isPublic(constructors[0].getModifiers()) && constructors[0].getParameterCount() == 0);
        Set<String> due = new TreeSet<>(Arrays.asList(FACE.split(";")));
        Set<String> found = new TreeSet<>();
        Set<String> names = new TreeSet<>();
        for (Method m : c.getDeclaredMethods()) {
            if (Modifier.isPrivate(m.getModifiers())) {
                continue;
            }
            found.add(m.getName() + " " + m.getParameterCount());
            names.add(m.getName());
            boolean ints = m.getReturnType() == int.class
                    && Arrays.stream(m.getParameterTypes()).allMatch(p -> p == int.class);
            t.holds(m.getName() + " is public, of the object, of ints", ints && m.getModifiers() == Modifier.PUBLIC);
        }
        t.holds("the methods are " + found, found.equals(due));
        for (Method m : c.getDeclaredMethods()) {
            boolean hidden = Modifier.isPrivate(m.getModifiers());
            t.holds(m.getName() + " bears no public name", !hidden || !names.contains(m.getName()));
        }
        for (Field f : c.getDeclaredFields()) {
            boolean isConstant = f.getName().equals("NONE") && f.getType() == int.class
                    && f.getModifiers() == (Modifier.PUBLIC | Modifier.STATIC | Modifier.FINAL);
            t.holds(f.getName() + " is the constant or private", isConstant || Modifier.isPrivate(f.getModifiers()));
        }
    }

    private static void nested() {
        Class<?>[] classes = BeanTrug.class.getDeclaredClasses();
        t.holds("some twelve classes", classes.length <= 12);
        List<Class<?>> all = new ArrayList<>(Arrays.asList(classes));
        all.add(BeanTrug.class);
        for (Class<?> c : all) {
            boolean isOuter = c == BeanTrug.class;
            boolean hidden = !Modifier.isPublic(c.getModifiers()) && !Modifier.isProtected(c.getModifiers());
            t.holds(c.getName() + " is static and hidden", isOuter || hidden && Modifier.isStatic(c.getModifiers()));
            int fields = 0;
            for (Field f : c.getDeclaredFields()) {
                boolean isStatic = Modifier.isStatic(f.getModifiers());
                fields += isStatic ? 0 : 1;
                t.holds(f.getName() + " is no static state", !isStatic || Modifier.isFinal(f.getModifiers()));
            }
            t.holds(c.getName() + " has some twenty fields at most", fields <= 20);
            for (Method m : c.getDeclaredMethods()) {
                t.holds(m.getName() + " has seven parameters at most", m.getParameterCount() <= 7);
            }
        }
    }

    private static void source(String text) {
        String bare = text.replaceAll("(?s)/\\*.*?\\*/", "").replaceAll("//[^\n]*", "")
                .replaceAll("\"[^\"\n]*\"", "TEXT").replaceAll("'[^'\n]+'", "SIGN");
        String[] banned = {"\\bthrow\\b", "\\btry\\b", "\\bcatch\\b", "\\bfinally\\b", "\\bsynchronized\\b",
            "\\bassert\\b", "->", "::", "\\bpackage\\b", "\\bimport\\b", "@", "\\bnative\\b", "\\bdouble\\b",
            "\\bfloat\\b", "\\bequals\\b", "\\bhashCode\\b", "\\btoString\\b", "Exact\\b", "\\bstatic\\s*\\{",
            "\\bThread\\b", "\\bRandom\\b", "System\\.(?!arraycopy)", "TEXT\\s*\\+", "\\+\\s*TEXT", "while\\s*\\(true\\)"};
        for (String b : banned) {
            Matcher m = Pattern.compile(b).matcher(bare);
            t.holds("the source is without " + b, !m.find());
        }
        for (char c : text.toCharArray()) {
            if (c > 126 || c < 32 && c != '\n') {
                t.holds("only plain signs", false);
            }
        }
        shortMethods(text.split("\n"));
    }

    private static void shortMethods(String[] lines) {
        int begin = -1;
        String indent = "";
        for (int i = 0; i < lines.length; i++) {
            Matcher head = Pattern.compile("^( {4}| {8})\\w.*\\(.*\\) \\{$").matcher(lines[i]);
            if (head.find()) {
                begin = i;
                indent = head.group(1);
            }
            if (begin >= 0 && lines[i].equals(indent + "}")) {
                t.holds("a short method at line " + (begin + 1), i - begin < 60);
                begin = -1;
            }
        }
    }
}
