import java.lang.reflect.Constructor;
import java.lang.reflect.Field;
import java.lang.reflect.Method;
import java.lang.reflect.Modifier;
import java.nio.file.Files;
import java.nio.file.Path;
import java.util.Arrays;
import java.util.Set;
import java.util.TreeSet;
import java.util.regex.Matcher;
import java.util.regex.Pattern;

/** The document's public face, and those rules of LANGUAGE.md that can be seen from the text. */
final class FaceTest {
    private static final String[] FACE = {
        "int feed(int)", "int pack()", "int ship(int, int)", "int wind(int)", "int blow(int, int, int)",
        "int set(int, int)", "int go(int)", "int far(int, int)", "int open(int, int, int)", "long behind(int, int)",
        "int meet(int, int)", "int nearest(int, int, int, int)", "int there(int, int)", "int back(int, int)",
        "int news(int)", "int know(int, int)", "int lost()", "int groups()", "int hungry(int)", "int lasts(int)",
        "int share(int, int)", "int givenUp(int, int)", "int home(int, int, int, int)",
        "int kinds(int, int, int, int, int)", "int row(int)", "int judge(int)", "int lots(int, int, int)",
        "int image()", "int restore()", "int count(int)",
    };
    private static final String[] RULED_OUT = {
        "\\bthrows?\\b", "\\btry\\b", "\\bcatch\\b", "\\bsynchronized\\b", "\\bassert\\b", "\\bimport\\b",
        "\\bpackage\\b", "\\bprotected\\b", "->", "::", "Exact\\b", "@", "\\bSystem\\b", "\\bThread\\b",
        "\\bstatic\\s*\\{", "\\bequals\\b", "\\bhashCode\\b", "\\btoString\\b", "\\bdouble\\b", "\\bfloat\\b",
    };
    private static final Set<String> CALLED_OF_MATH = Set.of("max", "min", "abs", "floorMod");
    private static final Due due = new Due();

    public static void main(String[] args) throws Exception {
        face();
        innerClasses();
        String source = Files.readString(Path.of("src/main/java/NineInThePack.java"));
        String code = source.replaceAll("(?s)/\\*.*?\\*/", "").replaceAll("//[^\n]*", "");
        ruledOut(code);
        library(code);
        lengths(code);
        due.end();
    }

    private static String told(Method m) {
        String types = Arrays.toString(Arrays.stream(m.getParameterTypes()).map(Class::getName).toArray());
        return m.getReturnType() + " " + m.getName() + "(" + types.substring(1, types.length() - 1) + ")";
    }

    private static void face() {
        Class<?> c = NineInThePack.class;
        due.is("public and final", c.getModifiers(), Modifier.PUBLIC | Modifier.FINAL);
        Set<String> seen = new TreeSet<>();
        Set<String> names = new TreeSet<>();
        for (Method m : c.getDeclaredMethods()) {
            if (!Modifier.isPrivate(m.getModifiers())) {
                due.is("modifiers of " + m.getName(), m.getModifiers(), Modifier.PUBLIC);
                seen.add(told(m));
                names.add(m.getName());
            }
        }
        due.is("the face is " + seen, seen.equals(new TreeSet<>(Arrays.asList(FACE))) ? 1 : 0, 1);
        for (Method m : c.getDeclaredMethods()) {
            boolean isTwice = Modifier.isPrivate(m.getModifiers()) && names.contains(m.getName());
            due.is("a private " + m.getName(), isTwice ? 1 : 0, 0);
        }
        for (Field f : c.getDeclaredFields()) {
            due.is("private " + f.getName(), Modifier.isPrivate(f.getModifiers()) ? 1 : 0, 1);
        }
        noStaticState(c);
        Constructor<?>[] makers = c.getDeclaredConstructors();
        due.is("constructors", makers.length, 1);
        due.is("a public constructor", makers[0].getModifiers(), Modifier.PUBLIC);
        due.is("without arguments", makers[0].getParameterCount(), 0);
    }

    private static void innerClasses() {
        Class<?>[] inside = NineInThePack.class.getDeclaredClasses();
        due.is("classes in the file: " + inside.length, inside.length + 1 <= 12 ? 1 : 0, 1);
        for (Class<?> c : inside) {
            due.is("static " + c, Modifier.isStatic(c.getModifiers()) ? 1 : 0, 1);
            due.is("not public " + c, Modifier.isPublic(c.getModifiers()) ? 1 : 0, 0);
            due.is("fields of " + c, c.getDeclaredFields().length <= 20 ? 1 : 0, 1);
            for (Method m : c.getDeclaredMethods()) {
                for (String told : FACE) {
                    due.is("a name of the face in " + c, told.contains(" " + m.getName() + "(") ? 1 : 0, 0);
                }
            }
            noStaticState(c);
        }
    }

    private static void noStaticState(Class<?> c) {
        for (Field f : c.getDeclaredFields()) {
            boolean isState = Modifier.isStatic(f.getModifiers()) && !Modifier.isFinal(f.getModifiers());
            due.is("static state " + f, isState ? 1 : 0, 0);
        }
    }

    private static void ruledOut(String code) {
        for (String word : RULED_OUT) {
            Matcher m = Pattern.compile(word).matcher(code);
            due.is("ruled out: " + word, m.find() ? m.start() : -1, -1);
        }
        for (int i = 0; i < code.length(); i++) {
            if (code.charAt(i) > 126) {
                due.is("a sign at " + i, code.charAt(i), 126);
            }
        }
    }

    private static void library(String code) {
        Matcher math = Pattern.compile("\\bMath\\.(\\w+)").matcher(code);
        while (math.find()) {
            due.is("Math." + math.group(1), CALLED_OF_MATH.contains(math.group(1)) ? 1 : 0, 1);
        }
        Pattern other = Pattern.compile("\\b(Integer|Long|String|Arrays|List|Object)\\b");
        due.is("no other library", other.matcher(code).find() ? 1 : 0, 0);
    }

    /** Methods stay short and take seven parameters at most. */
    private static void lengths(String code) {
        String[] lines = code.split("\n");
        Pattern head = Pattern.compile("^( {4}| {8})(?! )[\\w\\[\\] ]*\\b(\\w+)\\(([^()]*)\\) \\{$");
        int methods = 0;
        for (int i = 0; i < lines.length; i++) {
            Matcher m = head.matcher(lines[i]);
            if (m.matches() && !Set.of("if", "for", "while", "switch").contains(m.group(2))) {
                int end = i;
                while (!lines[end].equals(m.group(1) + "}")) {
                    end++;
                }
                methods++;
                due.is("length of " + m.group(2), end - i <= 60 ? 1 : 0, 1);
                due.is("parameters of " + m.group(2), m.group(3).split(",").length <= 7 ? 1 : 0, 1);
            }
        }
        due.is("methods found: " + methods, methods > FACE.length ? 1 : 0, 1);
    }
}
