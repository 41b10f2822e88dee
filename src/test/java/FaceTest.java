import java.lang.reflect.Constructor;
import java.lang.reflect.Field;
import java.lang.reflect.Method;
import java.lang.reflect.Modifier;
import java.util.Set;
import java.util.TreeSet;

/** The class shows the document's face, and nothing else. */
public final class FaceTest {
    private static final String[] FACE = {
        "public LogDisk(int,int)",
        "public static final int LogDisk.NONE",
        "public int LogDisk.feed(long,int)"
            + " throws java.lang.IllegalArgumentException,java.lang.IllegalStateException",
        "public int LogDisk.save(int,int)"
            + " throws java.lang.IllegalArgumentException,java.lang.UnsupportedOperationException",
        "public int LogDisk.append(int,int)"
            + " throws java.lang.IllegalArgumentException,java.lang.IllegalStateException,java.lang.UnsupportedOperationException",
        "public int LogDisk.cutFrom(int)"
            + " throws java.lang.IndexOutOfBoundsException",
        "public int LogDisk.compact(int,int)"
            + " throws java.lang.IndexOutOfBoundsException,java.lang.UnsupportedOperationException",
        "public int LogDisk.take(int,int,int)"
            + " throws java.lang.IllegalArgumentException,java.lang.UnsupportedOperationException",
        "public boolean LogDisk.sync()",
        "public void LogDisk.keep(int,int)"
            + " throws java.lang.IndexOutOfBoundsException,java.lang.IllegalArgumentException",
        "public int LogDisk.crash(long)",
        "public int LogDisk.state(int)"
            + " throws java.lang.IndexOutOfBoundsException",
        "public int LogDisk.entry(int,int)"
            + " throws java.lang.IndexOutOfBoundsException",
        "public int LogDisk.contentAt(int,int)"
            + " throws java.lang.IndexOutOfBoundsException,java.util.NoSuchElementException",
        "public int LogDisk.snapshotAt(int)"
            + " throws java.lang.IndexOutOfBoundsException",
        "public int LogDisk.segment(int,int)"
            + " throws java.lang.IndexOutOfBoundsException",
        "public int LogDisk.file(int,int)"
            + " throws java.lang.IndexOutOfBoundsException",
        "public int LogDisk.byteAt(int,int)"
            + " throws java.lang.IndexOutOfBoundsException"
    };

    private static int wrong = 0;

    private static void due(String what, boolean holds) {
        if (!holds) {
            wrong++;
            System.out.println(what);
        }
    }

    public static void main(String[] args) {
        Set<String> want = new TreeSet<>(Set.of(FACE));
        Set<String> seen = new TreeSet<>();
        Set<String> publicNames = new TreeSet<>();
        for (Constructor<?> c : LogDisk.class.getDeclaredConstructors()) {
            if (!Modifier.isPrivate(c.getModifiers())) seen.add(c.toString());
        }
        for (Field f : LogDisk.class.getDeclaredFields()) {
            if (!Modifier.isPrivate(f.getModifiers())) seen.add(f.toString());
            if (Modifier.isStatic(f.getModifiers())) due("static but not final: " + f, Modifier.isFinal(f.getModifiers()));
        }
        for (Method m : LogDisk.class.getDeclaredMethods()) {
            if (m.isSynthetic() || Modifier.isPrivate(m.getModifiers())) continue;
            seen.add(m.toString());
            publicNames.add(m.getName());
        }
        for (Method m : LogDisk.class.getDeclaredMethods()) {
            if (Modifier.isPrivate(m.getModifiers())) {
                due("private, with the name of a public one: " + m, !publicNames.contains(m.getName()));
            }
        }
        for (String s : want) due("missing: " + s, seen.contains(s));
        for (String s : seen) due("not of the face: " + s, want.contains(s));
        int modifiers = LogDisk.class.getModifiers();
        due("the class is not public and final", Modifier.isPublic(modifiers) && Modifier.isFinal(modifiers));
        for (Class<?> c : LogDisk.class.getDeclaredClasses()) {
            due("a class inside that is not static: " + c, Modifier.isStatic(c.getModifiers()));
            due("a class inside that is public: " + c, !Modifier.isPublic(c.getModifiers()));
        }
        due("NONE is not -1", LogDisk.NONE == -1);
        System.out.println(wrong == 0 ? "the face is as due" : wrong + " faults of the face");
        if (wrong != 0) System.exit(1);
    }
}
