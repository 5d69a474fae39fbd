import java.lang.reflect.Method;
import java.lang.reflect.Modifier;
import java.nio.file.Files;
import java.nio.file.Path;
import java.util.Arrays;
import java.util.regex.Matcher;
import java.util.regex.Pattern;

/** README.md tells how to use the class: its example answers as it says, and it names every call. */
final class ReadmeTest {
    private static final Pattern TOLD = Pattern.compile("\"([^\"]*)\"\\.toCharArray");
    private static final Pattern CALL = Pattern.compile("ice\\.(\\w+\\([-0-9, ]*\\));\\s*// (-?\\d+)\\b.*");
    private static final Due due = new Due();

    public static void main(String[] args) throws Exception {
        String page = Files.readString(Path.of("README.md"));
        example(page);
        everyCall(page);
        due.is("it tells how to run the tests", page.contains("\n.ci/run\n") ? 1 : 0, 1);
        due.end();
    }

    private static void example(String page) {
        int start = page.indexOf("```java");
        String code = page.substring(start, page.indexOf("```", start + 3));
        Matcher told = TOLD.matcher(code);
        boolean isTold = told.find();
        due.is("the example tells a pack", isTold ? 1 : 0, 1);
        NineInThePack ice = new NineInThePack();
        Bounds.letters(ice, isTold ? told.group(1) : "");
        Matcher call = CALL.matcher(code);
        int calls = 0;
        while (call.find()) {
            calls++;
            due.is("README.md: " + call.group(1), Bounds.answer(ice, call.group(1)), Long.parseLong(call.group(2)));
        }
        due.is("calls of the example", calls, code.split("// ", -1).length - 1);
        due.is("the example has calls", calls > 0 ? 1 : 0, 1);
    }

    private static void everyCall(String page) {
        for (Method m : NineInThePack.class.getDeclaredMethods()) {
            if (Modifier.isPublic(m.getModifiers())) {
                Matcher row = Pattern.compile("\n\\| `" + m.getName() + "\\(([^)]*)\\)` \\|").matcher(page);
                boolean isThere = row.find();
                due.is("README.md names " + m.getName(), isThere ? 1 : 0, 1);
                long told = isThere ? Arrays.stream(row.group(1).split(", ")).filter(s -> !s.isEmpty()).count() : -1;
                due.is("arguments of " + m.getName(), told, m.getParameterCount());
            }
        }
    }
}
