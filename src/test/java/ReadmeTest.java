import java.io.IOException;
import java.lang.reflect.Method;
import java.lang.reflect.Modifier;
import java.nio.file.Files;
import java.nio.file.Path;
import java.util.ArrayList;
import java.util.List;

/** README.md's example answers what its comments say, and its table has every call of the face. */
public final class ReadmeTest {
    private static int wrong = 0;
    private static int lineCount = 0;
    private static List<String> example = new ArrayList<>();

    private static void due(String what, Object got, Object want) {
        if (!got.equals(want)) {
            wrong++;
            System.out.println(what + ": " + got + ", due is " + want);
        }
    }

    /** The example's next line must be this call, so that the example and this test stay the same. */
    private static void line(String call, Object got, Object want) {
        String there = lineCount < example.size() ? example.get(lineCount) : "(no line)";
        lineCount++;
        due("README.md's example, line " + lineCount, there, call);
        due(call, got, want);
    }

    private static List<String> linesOfExample(List<String> readme) {
        List<String> lines = new ArrayList<>();
        boolean inside = false;
        for (String text : readme) {
            if (text.equals("```java")) inside = true;
            else if (text.equals("```")) inside = false;
            else if (inside && !text.isBlank()) lines.add(text.substring(0, text.indexOf(';')));
        }
        return lines;
    }

    private static void runExample() {
        LogDisk disk = new LogDisk(1024, 7);
        line("LogDisk disk = new LogDisk(1024, 7)", disk.state(4), 7);
        line("disk.save(1, 2)", disk.save(1, 2), 1);
        line("disk.feed(0x6F6C6C6568L, 5)", disk.feed(0x6F6C6C6568L, 5), 5);
        line("disk.append(1, 2)", disk.append(1, 2), 1);
        line("disk.sync()", disk.sync(), true);
        line("disk.append(1, 0)", disk.append(1, 0), 2);
        disk.keep(4, 0);
        line("disk.keep(4, 0)", disk.state(6), 2);
        line("disk.crash(9)", disk.crash(9), 1);
        line("disk.contentAt(1, 1)", disk.contentAt(1, 1), 101);
        line("disk.compact(1, 3)", disk.compact(1, 3), 1);
        due("how many lines README.md's example has", example.size(), lineCount);
    }

    /** The call's row begins with its name, and names what it throws in the document's order. */
    private static void lookForRow(List<String> readme, Method m) {
        int rows = 0;
        for (String text : readme) {
            if (!text.startsWith("| `" + m.getName() + "(")) continue;
            rows++;
            int at = 0;
            String thrown = text.substring(text.lastIndexOf(" | ", text.length() - 3));
            for (Class<?> e : m.getExceptionTypes()) {
                int next = thrown.indexOf("`" + e.getSimpleName() + "`", at);
                due("README.md's row of " + m.getName() + " names " + e.getSimpleName(), next >= at, true);
                at = Math.max(at, next);
            }
            int named = thrown.split("Exception`", -1).length - 1;
            due("how many exceptions README.md names for " + m.getName(), named, m.getExceptionTypes().length);
        }
        due("rows for " + m.getName() + " in README.md", rows, 1);
    }

    public static void main(String[] args) throws IOException {
        List<String> readme = Files.readAllLines(Path.of("README.md"));
        example = linesOfExample(readme);
        runExample();
        for (Method m : LogDisk.class.getDeclaredMethods()) {
            if (Modifier.isPublic(m.getModifiers())) lookForRow(readme, m);
        }
        due("README.md tells how the tests are run", readme.contains(".ci/run"), true);
        System.out.println(wrong == 0 ? "README.md is as due" : wrong + " things in README.md are not as due");
        if (wrong != 0) System.exit(1);
    }
}
