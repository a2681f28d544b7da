import java.io.IOException;
import java.lang.reflect.Constructor;
import java.lang.reflect.Field;
import java.lang.reflect.Method;
import java.lang.reflect.Modifier;
import java.nio.file.Files;
import java.nio.file.Path;
import java.util.Arrays;
import java.util.HashSet;
import java.util.Set;
import java.util.TreeSet;

/** The public face, and what of LANGUAGE.md can be seen in the classes or in the program's lines. */
public final class ShapeTest {
    private static final Set<String> FACE = Set.of(
            "public static final int ProofReader.NONE",
            "public ProofReader()",
            "public int ProofReader.feed(int,long) throws java.lang.IllegalArgumentException",
            "public int ProofReader.read()",
            "public int ProofReader.fault()",
            "public int ProofReader.place()",
            "public int ProofReader.clear()",
            "public int ProofReader.constants()",
            "public int ProofReader.constant(int,int) throws java.lang.IllegalArgumentException,java.lang.IndexOutOfBoundsException",
            "public int ProofReader.printed()",
            "public long ProofReader.paper(int)",
            "public int ProofReader.wipe()");
    private static final String[] LEFT_OUT = {"\nimport ", "\npackage ", "finally", "synchronized", "assert ", "getMessage",
        "hashCode", "->", "::", "static {", "System.out", "new Random", "Thread", "float ", "double ", "Exact(", "catch ("};

    public static void main(String[] args) throws IOException {
        face();
        Class<?>[] inside = ProofReader.class.getDeclaredClasses();
        Desk.due("not too many classes", inside.length < 12 ? 1 : 0, 1);
        for (Class<?> c : inside) {
            Desk.due(c.getName() + " is static", Modifier.isStatic(c.getModifiers()) ? 1 : 0, 1);
            Desk.due(c.getName() + " is not public", c.getModifiers() & (Modifier.PUBLIC | Modifier.PROTECTED), 0);
            Desk.due(c.getName() + " has no class inside", c.getDeclaredClasses().length, 0);
            members(c);
        }
        members(ProofReader.class);
        lines();
        Desk.end();
    }

    /** Each member of the document's face is there as it stands there, and all others are private. */
    private static void face() {
        Set<String> seen = new TreeSet<>();
        for (Field f : ProofReader.class.getDeclaredFields()) {
            see(seen, f.getModifiers(), f.toString(), f.isSynthetic());
        }
        for (Constructor<?> c : ProofReader.class.getDeclaredConstructors()) {
            see(seen, c.getModifiers(), c.toString(), c.isSynthetic());
        }
        for (Method m : ProofReader.class.getDeclaredMethods()) {
            see(seen, m.getModifiers(), m.toString(), m.isSynthetic());
        }
        Desk.due("the face", seen.toString(), new TreeSet<>(FACE).toString());
        int modifiers = ProofReader.class.getModifiers();
        Desk.due("public and final", modifiers, Modifier.PUBLIC | Modifier.FINAL);
        Desk.due("no other class above it", ProofReader.class.getSuperclass().getName(), "java.lang.Object");
        Desk.due("no interface", ProofReader.class.getInterfaces().length, 0);
        Desk.due("no package", ProofReader.class.getPackageName(), "");
    }

    private static void see(Set<String> seen, int modifiers, String member, boolean synthetic) {
        if (!Modifier.isPrivate(modifiers) && !synthetic) {
            seen.add(member);
        }
    }

    private static void members(Class<?> c) {
        Set<String> publicNames = new HashSet<>();
        for (String member : FACE) {
            publicNames.add(member.replaceAll(".*ProofReader\\.(\\w+).*", "$1"));
        }
        for (Method m : c.getDeclaredMethods()) {
            Desk.due(m + " takes at most seven", m.getParameterCount() <= 7 ? 1 : 0, 1);
            boolean hides = Modifier.isPrivate(m.getModifiers()) && publicNames.contains(m.getName());
            Desk.due(m + " has a name of its own", hides ? 1 : 0, 0);
        }
        int fields = 0;
        for (Field f : c.getDeclaredFields()) {
            boolean isStatic = Modifier.isStatic(f.getModifiers());
            fields += isStatic ? 0 : 1;
            Desk.due(f + " is final if it is static", isStatic && !Modifier.isFinal(f.getModifiers()) ? 1 : 0, 0);
        }
        Desk.due(c.getName() + " has not too many fields", fields <= 20 ? 1 : 0, 1);
    }

    private static void lines() throws IOException {
        String program = "\n" + Files.readString(Path.of("src/main/java/ProofReader.java"));
        for (String left : LEFT_OUT) {
            Desk.due("the program has " + left.trim(), program.contains(left) ? 1 : 0, 0);
        }
        Desk.due("methods are short", Arrays.stream(program.split("\n\n")).mapToLong(s -> s.lines().count()).max().getAsLong() <= 60 ? 1 : 0, 1);
    }
}
