import java.io.IOException;
import java.lang.reflect.Constructor;
import java.lang.reflect.Field;
import java.lang.reflect.Method;
import java.lang.reflect.Modifier;
import java.nio.file.Files;
import java.nio.file.Path;
import java.util.List;
import java.util.Set;
import java.util.TreeSet;

/** The public face of the document, and the rules of LANGUAGE.md that can be seen from outside or in single words. */
public final class FaceTest {
    private static final Check check = new Check();

    private static final String[] FACE = {"int net(int)", "int edge(int,int)", "int face(int,int,int)",
        "int corner(int,int,int)", "int form(int,int)", "int set(int,int,int)", "int get(int,int)",
        "int slope(int,int)", "int rim(int,int)", "int cup(int,int,int)", "int mix(int,int,int,int,int)",
        "int about(int,int)", "int holes(int)", "int potential(int,int)", "long split(int,int,int,int)",
        "int wall(int,int)", "int open(int)", "int field()", "long fieldAt(int,int)", "int wave(int)",
        "int raise(int)", "long height(int)", "long flow(int)", "long sum()", "int count(int)", "long digest()"};

    private static final String[] RULED_OUT = {"throw", "try", "catch", "assert", "synchronized", "Exact",
        "->", "::", "hashCode", "System", "Random", "Thread", "protected", "volatile"};

    public static void main(String[] args) throws IOException {
        methods();
        constants();
        constructors();
        nestedClasses();
        sizes(NetForms.class);
        for (Class<?> c : NetForms.class.getDeclaredClasses()) {
            sizes(c);
        }
        lengths();
        words();
        check.end();
    }

    private static void methods() {
        Set<String> want = new TreeSet<>(Set.of(FACE));
        Set<String> got = new TreeSet<>();
        Set<String> publicNames = new TreeSet<>();
        for (Method m : NetForms.class.getDeclaredMethods()) {
            if (Modifier.isPublic(m.getModifiers())) {
                got.add(m.getReturnType().getName() + " " + m.getName() + parameters(m.getParameterTypes()));
                publicNames.add(m.getName());
            }
        }
        for (Method m : NetForms.class.getDeclaredMethods()) {
            boolean isPrivate = Modifier.isPrivate(m.getModifiers());
            if (!Modifier.isPublic(m.getModifiers())) {
                check.due(m + " is private under a name of its own", isPrivate && !publicNames.contains(m.getName()) ? 1 : 0, 1);
            }
        }
        for (String method : want) {
            check.due("the face has " + method, got.contains(method) ? 1 : 0, 1);
        }
        check.due("methods in the face", got.size(), want.size());
        check.due("the class is public and final", NetForms.class.getModifiers(), Modifier.PUBLIC | Modifier.FINAL);
    }

    private static String parameters(Class<?>[] types) {
        StringBuilder text = new StringBuilder();
        for (Class<?> type : types) {
            text.append(text.length() == 0 ? "" : ",").append(type.getName());
        }
        return "(" + text + ")";
    }

    private static void constants() {
        check.due("NONE", NetForms.NONE, -1);
        check.due("BAD", NetForms.BAD, -2);
        check.due("NO", NetForms.NO, -3);
        check.due("FULL", NetForms.FULL, -4);
        check.due("BEYOND", NetForms.BEYOND, -5);
        int open = 0;
        for (Field f : NetForms.class.getDeclaredFields()) {
            open += Modifier.isPrivate(f.getModifiers()) ? 0 : 1;
            boolean isFixed = !Modifier.isStatic(f.getModifiers()) || Modifier.isFinal(f.getModifiers());
            check.due(f + " is final if static", isFixed ? 1 : 0, 1);
        }
        check.due("fields that are not private", open, 5);
    }

    private static void constructors() {
        Constructor<?>[] all = NetForms.class.getDeclaredConstructors();
        check.due("constructors", all.length, 1);
        check.due("the constructor's parameters", all[0].getParameterCount(), 0);
        check.due("the constructor is public", Modifier.isPublic(all[0].getModifiers()) ? 1 : 0, 1);
    }

    private static void nestedClasses() {
        check.due("at most twelve classes", NetForms.class.getDeclaredClasses().length < 12 ? 1 : 0, 1);
        for (Class<?> c : NetForms.class.getDeclaredClasses()) {
            boolean isHidden = !Modifier.isPublic(c.getModifiers()) && !Modifier.isProtected(c.getModifiers());
            check.due(c + " is static and not public", isHidden && Modifier.isStatic(c.getModifiers()) ? 1 : 0, 1);
        }
    }

    /** Rules 5 and 11: no static state, few fields, few parameters. */
    private static void sizes(Class<?> c) {
        int fields = 0;
        for (Field f : c.getDeclaredFields()) {
            boolean isStatic = Modifier.isStatic(f.getModifiers());
            boolean isConstant = Modifier.isFinal(f.getModifiers()) && f.getType() == int.class;
            check.due(f + " is a constant if static", !isStatic || isConstant ? 1 : 0, 1);
            fields += isStatic ? 0 : 1;
        }
        check.due(c + " has at most twenty fields", fields <= 20 ? 1 : 0, 1);
        for (Method m : c.getDeclaredMethods()) {
            check.due(m + " takes at most seven", m.getParameterCount() <= 7 ? 1 : 0, 1);
        }
    }

    /** Rule 11: a method begins behind one or two steps of four blanks, and ends at the brace below its first letter. */
    private static void lengths() throws IOException {
        List<String> lines = Files.readAllLines(Path.of("src/main/java/NetForms.java"));
        int methods = 0;
        for (int i = 0; i < lines.size(); i++) {
            String line = lines.get(i);
            String blanks = line.substring(0, line.length() - line.stripLeading().length());
            if (blanks.length() <= 8 && line.matches(" +(\\w+ )+\\w+\\(.*\\) \\{")) {
                int end = i + lines.subList(i, lines.size()).indexOf(blanks + "}");
                check.due("at most sixty lines: " + line.trim(), end > i && end - i < 60 ? 1 : 0, 1);
                methods++;
            }
        }
        check.due("the methods were found", methods > 26 ? 1 : 0, 1);
    }

    private static void words() throws IOException {
        String source = Files.readString(Path.of("src/main/java/NetForms.java"));
        String code = source.replaceAll("(?s)/\\*.*?\\*/", " ").replaceAll("//[^\n]*", " ");
        for (String word : RULED_OUT) {
            check.due("the source has '" + word + "'", code.contains(word) ? 1 : 0, 0);
        }
        for (String line : code.split("\n")) {
            boolean isRow = line.contains(" final ") || line.trim().equals("forms[f] = new Form();");
            check.due("objects made by a call: " + line.trim(), line.contains("new ") && !isRow ? 1 : 0, 0);
        }
        check.due("imports beside java.util.Arrays",
            code.replace("import java.util.Arrays;", "").contains("import") ? 1 : 0, 0);
        check.due("characters above 255", source.chars().filter(c -> c > 255).count(), 0);
    }
}
