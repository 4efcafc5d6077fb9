import java.io.IOException;
import java.lang.reflect.Constructor;
import java.lang.reflect.Field;
import java.lang.reflect.Method;
import java.lang.reflect.Modifier;
import java.nio.file.Files;
import java.nio.file.Path;
import java.util.ArrayList;
import java.util.Arrays;
import java.util.List;
import java.util.TreeSet;
import java.util.regex.Matcher;
import java.util.regex.Pattern;

/** The public face, and what can be read off the class and its source of the rules of LANGUAGE.md. */
public final class FaceTest {
    private static final Path SOURCE = Path.of("src/main/java/WellMap.java");
    private static final String[] FACE = {
        "boolean rectangle(int,int)", "int season(int)", "int sink(int,int,int,int)", "int fill(int)",
        "int become(int,int,int)", "int well(int,int)", "int ask(int,int)", "int count(int)", "int serves(int,int,int)",
        "int next(int,int,int,int)", "int corners(int)", "long corner(int,int,int)", "int beside(int,int)",
        "int border(int,int)", "long end(int,int,int,int)", "int about(int)", "int rings()", "int ring(int)",
        "long round(int,int)", "long largest(int)", "int closest(int)", "int nearest(int)", "int tree()",
        "int pipe(int,int)", "int hull()", "int around(int)", "int keep(int,int)", "boolean sheet(int,int)",
        "boolean line(int,int,int,int,int,int)", "int lay(int)", "int undo()"};
    /** No more than the rules rule out in plain words, so that any program within them passes. */
    private static final String[] FORBIDDEN = {
        "\\bthrow\\b", "\\bthrows\\b", "\\btry\\b", "\\bcatch\\b", "\\bfinally\\b", "\\bsynchronized\\b", "\\bassert\\b",
        "^(?!.*\\b(case|default)\\b).*->", "::", "Exact\\b", "^package\\b", "\\bThread\\b", "\\bSystem\\.(?!arraycopy\\b)",
        "\\bArrays\\.(?!(fill|copyOf|copyOfRange)\\b)", "\\bMath\\.(random|sqrt|sin|cos|pow|floor|ceil|round)\\b",
        "^import (?!java\\.util\\.(Arrays|ArrayList|List|Iterator);)", "\\bwhile\\s*\\(\\s*true", "\\bfor\\s*\\(\\s*;\\s*;"};

    private static int wrong = 0;

    private static void hold(boolean ok, String what) {
        if (!ok) {
            wrong++;
            System.out.println("not so: " + what);
        }
    }

    private static String told(Method m) {
        StringBuilder text = new StringBuilder();
        text.append(m.getReturnType()).append(' ').append(m.getName()).append('(');
        for (int i = 0; i < m.getParameterCount(); i++) text.append(i == 0 ? "" : ",").append(m.getParameterTypes()[i]);
        return text.append(')').toString();
    }

    private static TreeSet<String> face() {
        Class<?> c = WellMap.class;
        hold(Modifier.isPublic(c.getModifiers()) && Modifier.isFinal(c.getModifiers()), "the class is public and final");
        TreeSet<String> names = new TreeSet<>();
        TreeSet<String> found = new TreeSet<>();
        for (Method m : c.getDeclaredMethods()) {
            if (Modifier.isPublic(m.getModifiers())) {
                found.add(told(m));
                names.add(m.getName());
                hold(!Modifier.isStatic(m.getModifiers()), m + " belongs to an object");
            } else {
                hold(Modifier.isPrivate(m.getModifiers()), m + " is private");
            }
        }
        hold(found.equals(new TreeSet<>(Arrays.asList(FACE))), "the methods are the document's, but they are " + found);
        Constructor<?>[] made = c.getDeclaredConstructors();
        hold(made.length == 1 && made[0].getParameterCount() == 0 && Modifier.isPublic(made[0].getModifiers()), "one constructor");
        for (Field f : c.getDeclaredFields()) {
            hold(Modifier.isPrivate(f.getModifiers()) != f.getName().equals("NONE"), f + " is private unless it is NONE");
        }
        return names;
    }

    private static void classesInside(TreeSet<String> names) {
        List<Class<?>> all = new ArrayList<>(Arrays.asList(WellMap.class.getDeclaredClasses()));
        all.add(WellMap.class);
        hold(all.size() <= 14, "some twelve classes");
        for (Class<?> c : all) {
            if (c != WellMap.class) {
                hold(Modifier.isStatic(c.getModifiers()), c + " is static");
                hold(!Modifier.isPublic(c.getModifiers()) && !Modifier.isProtected(c.getModifiers()), c + " is not public");
            }
            int fields = 0;
            for (Field f : c.getDeclaredFields()) {
                boolean shared = Modifier.isStatic(f.getModifiers());
                fields += shared ? 0 : 1;
                hold(!shared || Modifier.isFinal(f.getModifiers()), f + " is final");
            }
            hold(fields <= 24, c + " has some twenty fields");
            for (Method m : c.getDeclaredMethods()) {
                hold(m.getParameterCount() <= 7, m + " takes at most seven");
                boolean hidden = Modifier.isPrivate(m.getModifiers());
                hold(!hidden || !names.contains(m.getName()), m + " is private and bears a public name");
            }
        }
    }

    private static String withoutComments(String source) {
        String bare = Pattern.compile("/\\*.*?\\*/", Pattern.DOTALL).matcher(source).replaceAll("");
        return Pattern.compile("//[^\n]*").matcher(bare).replaceAll("");
    }

    private static void source() throws IOException {
        String source = Files.readString(SOURCE);
        for (char c : source.toCharArray()) hold(c < 128, "only plain signs, but there is " + (int) c);
        String bare = withoutComments(source);
        for (String word : FORBIDDEN) {
            Matcher m = Pattern.compile(word, Pattern.MULTILINE).matcher(bare);
            hold(!m.find(), "nothing like " + word);
        }
        int from = -1;
        String[] lines = bare.split("\n");
        Pattern begin = Pattern.compile("^( {4}| {8})(\\w[^=;]*)\\) \\{$");
        for (int i = 0; i < lines.length; i++) {
            if (begin.matcher(lines[i]).find()) from = i;
            boolean ends = lines[i].equals("    }") || lines[i].equals("        }");
            if (ends && from >= 0) {
                hold(i - from <= 75, "a method of some sixty lines: " + lines[from]);
                from = -1;
            }
        }
    }

    public static void main(String[] args) throws IOException {
        classesInside(face());
        source();
        System.out.println(wrong == 0 ? "the face and the form are as due" : wrong + " faults");
        if (wrong != 0) System.exit(1);
    }
}
