import java.io.IOException;
import java.lang.reflect.Constructor;
import java.lang.reflect.Field;
import java.lang.reflect.Method;
import java.lang.reflect.Modifier;
import java.nio.file.Files;
import java.nio.file.Path;
import java.util.ArrayList;
import java.util.Arrays;
import java.util.List;
import java.util.Set;
import java.util.TreeSet;
import java.util.regex.Matcher;
import java.util.regex.Pattern;

/** The public face of the document, and those rules of LANGUAGE.md that can be seen without reading. */
public final class FaceTest {
    private static final Check CHECK = new Check();

    private static final List<String> FACE = List.of(
            "int key(int)", "int wipe()", "int manner(int)", "int margin(int)", "int jump(int)",
            "int arrive(int,int,int,int)", "int anew()", "int ofFrame(int,int)", "int ofSpurt(int,int)",
            "int inOrder(int)", "int wish(int)", "int spike(int)", "int late(int)", "int history(int)", "int loss(int)",
            "long drift(int)", "int waiting(int)", "int playing(int)", "int text(int,int)", "int word(int)",
            "int many(int)");
    private static final Set<String> CONSTANTS = Set.of("UNKNOWN", "OUTSIDE", "STATE", "FULL", "NONE", "LOST");

    public static void main(String[] args) throws IOException {
        members();
        inside();
        asTheDocumentWritesIt(Path.of(args.length > 0 ? args[0] : ".", "..", "shared", "DOC.md"));
        source(Files.readString(Path.of(args.length > 0 ? args[0] : ".", "src/main/java/SpurtClock.java")));
        CHECK.end();
    }

    private static String lineOf(Method m) {
        List<String> types = Arrays.stream(m.getParameterTypes()).map(Class::getSimpleName).toList();
        return m.getReturnType().getSimpleName() + " " + m.getName() + "(" + String.join(",", types) + ")";
    }

    private static void members() {
        Class<?> face = SpurtClock.class;
        CHECK.holds("public and final", Modifier.isPublic(face.getModifiers()) && Modifier.isFinal(face.getModifiers()));
        Set<String> open = new TreeSet<>();
        Set<String> openNames = new TreeSet<>();
        for (Method m : face.getDeclaredMethods()) {
            if (Modifier.isPublic(m.getModifiers())) {
                open.add(lineOf(m));
                openNames.add(m.getName());
                CHECK.holds(m + " belongs to the object", !Modifier.isStatic(m.getModifiers()));
            } else {
                CHECK.holds(m + " is private", Modifier.isPrivate(m.getModifiers()));
            }
        }
        CHECK.holds("the face is " + open, open.equals(new TreeSet<>(FACE)));
        for (Method m : face.getDeclaredMethods()) {
            CHECK.holds(m + " bears its own name", Modifier.isPublic(m.getModifiers()) || !openNames.contains(m.getName()));
        }
        Constructor<?>[] makers = face.getDeclaredConstructors();
        CHECK.holds("one constructor", makers.length == 1 && Modifier.isPublic(makers[0].getModifiers())
                && makers[0].getParameterCount() == 0);
        Set<String> constants = new TreeSet<>();
        for (Field f : face.getDeclaredFields()) {
            if (Modifier.isPublic(f.getModifiers())) {
                constants.add(f.getName());
                CHECK.holds(f + " is a constant", Modifier.isStatic(f.getModifiers()) && Modifier.isFinal(f.getModifiers())
                        && f.getType() == (f.getName().equals("LOST") ? long.class : int.class));
            } else {
                CHECK.holds(f + " is private", Modifier.isPrivate(f.getModifiers()));
            }
        }
        CHECK.holds("the constants are " + constants, constants.equals(CONSTANTS));
    }

    /** The document's own lines of the face are those that members() asks for. */
    private static void asTheDocumentWritesIt(Path document) throws IOException {
        if (!Files.isReadable(document)) {
            System.out.println("the document is not at " + document + ": its face is not looked up");
            return;
        }
        Matcher block = Pattern.compile("(?s)```java\n(public final class SpurtClock .*?)```").matcher(Files.readString(document));
        CHECK.holds("the document has a face", block.find());
        Set<String> written = new TreeSet<>();
        Matcher lines = Pattern.compile("public (int|long) (\\w+)\\(([^)]*)\\);").matcher(block.group(1));
        while (lines.find()) {
            written.add(lines.group(1) + " " + lines.group(2) + "(" + lines.group(3).replaceAll("int \\w+", "int").replace(" ", "") + ")");
        }
        CHECK.holds("the document's face is " + written, written.equals(new TreeSet<>(FACE)));
        CHECK.holds("its constructor", block.group(1).contains("public SpurtClock();"));
    }

    private static void inside() {
        List<Class<?>> all = new ArrayList<>(List.of(SpurtClock.class.getDeclaredClasses()));
        CHECK.holds("at most twelve classes", all.size() < 12);
        for (Class<?> c : all) {
            CHECK.holds(c + " is static", Modifier.isStatic(c.getModifiers()));
            CHECK.holds(c + " is not open", !Modifier.isPublic(c.getModifiers()) && !Modifier.isProtected(c.getModifiers()));
            CHECK.holds(c + " has no class inside", c.getDeclaredClasses().length == 0);
        }
        all.add(SpurtClock.class);
        for (Class<?> c : all) {
            int own = 0;
            for (Field f : c.getDeclaredFields()) {
                own += Modifier.isStatic(f.getModifiers()) ? 0 : 1;
                CHECK.holds(f + " is final, if static", !Modifier.isStatic(f.getModifiers()) || Modifier.isFinal(f.getModifiers()));
            }
            CHECK.holds(c + " has at most twenty fields", own <= 20);
            for (Method m : c.getDeclaredMethods()) {
                CHECK.holds(m + " takes at most seven", m.getParameterCount() <= 7);
            }
        }
    }

    private static void source(String whole) {
        String code = whole.replaceAll("(?s)/\\*.*?\\*/", " ").replaceAll("//[^\n]*", " ");
        String bare = code.replaceAll("\"[^\"\n]*\"", "\"\"");
        for (String no : List.of("throw", "throws", "try", "catch", "synchronized", "assert", "import", "package", "native",
                "volatile", "transient", "System", "Thread", "Object", "equals", "hashCode", "toString", "Exact")) {
            CHECK.holds("no " + no, !Pattern.compile("\\b" + no + "\\b").matcher(bare).find());
        }
        CHECK.holds("no lambda, no method reference", !bare.contains("->") && !bare.contains("::"));
        CHECK.holds("only the library that is listed", onlyListed(bare));
        for (char sign : whole.toCharArray()) {
            if (sign > 127) {
                CHECK.holds("signs up to 127", false);
            }
        }
        for (String line : whole.split("\n")) {
            CHECK.holds("a line of at most 130 signs: " + line, line.length() <= 130);
        }
    }

    private static boolean onlyListed(String bare) {
        Matcher calls = Pattern.compile("\\b(Math|Integer|Long|Arrays)\\.(\\w+)").matcher(bare);
        while (calls.find()) {
            if (!Set.of("max", "min", "abs", "floorDiv", "MIN_VALUE").contains(calls.group(2))) {
                return false;
            }
        }
        return true;
    }
}
