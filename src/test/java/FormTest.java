import java.io.IOException;
import java.lang.reflect.Field;
import java.lang.reflect.Member;
import java.lang.reflect.Method;
import java.lang.reflect.Modifier;
import java.nio.charset.StandardCharsets;
import java.nio.file.Files;
import java.nio.file.Path;
import java.util.ArrayList;
import java.util.Arrays;
import java.util.List;
import java.util.Set;
import java.util.TreeSet;
import java.util.regex.Matcher;
import java.util.regex.Pattern;

/** The rules of LANGUAGE.md that can be seen in the source, or in the class that was compiled from it. */
public final class FormTest {
    private static final String SOURCE = "src/main/java/DoorVotes.java";
    private static final String[] FACE = {
        "int row(int,int,int)", "int set(int,int,int)", "int copy(int,int,int,int,int)", "int drop(int)",
        "int feed(int)", "int town()", "int fault()", "int undo()", "int knock(int,int)", "int days(int)",
        "int gift(int,int)", "int build(int,int)", "int person(int,int)", "int door(int,int)", "int at(int,int,int)",
        "int favour(int,int)", "int way(int,int,int)", "int reach(int)", "int locked()", "int gifts(int,int,int)",
        "int parade(int,int,int)", "int newDoor(int,int,int)", "int bents(int,int,int,int,int,int)",
        "int who(int,int,int,int,int)", "long awake(int,int,int,int)", "int drawn(int,int,int)", "int image(int)",
        "int restore(int)", "int kind(int)", "int as(int,int)", "int ask(int,int)", "int trace(int)",
        "int count(int)", "int status()"};
    /** Less than rule 4 leaves: what the class has a use for. */
    private static final Set<String> LIBRARY = Set.of("Arrays.fill", "Integer.bitCount", "Integer.compare", "Math.max",
            "Math.min", "System.arraycopy");
    private static final Set<String> CONSTANTS = Set.of("NONE", "BAD", "STATE", "FULL");
    private static final Set<Class<?>> CONSTANT_TYPES = Set.of(int.class, long.class, boolean.class, char.class,
            String.class, int[].class, long[].class, char[].class, byte[].class);

    private FormTest() {
    }

    public static void main(String[] args) throws IOException {
        theFaceIsTheDocuments();
        membersAreHidden();
        classesAreSmall();
        wordsAreAllowed(Files.readString(Path.of(SOURCE), StandardCharsets.ISO_8859_1));
        methodsAreShort(Files.readAllLines(Path.of(SOURCE), StandardCharsets.ISO_8859_1));
        objectsAreMadeOnce(Files.readAllLines(Path.of(SOURCE), StandardCharsets.ISO_8859_1));
        Check.end();
    }

    private static List<Class<?>> classes() {
        List<Class<?>> all = new ArrayList<>(Arrays.asList(DoorVotes.class.getDeclaredClasses()));
        all.add(DoorVotes.class);
        return all;
    }

    private static void theFaceIsTheDocuments() {
        Set<String> face = new TreeSet<>();
        for (Method m : DoorVotes.class.getDeclaredMethods()) {
            if (Modifier.isPublic(m.getModifiers())) {
                String takes = Arrays.toString(m.getParameterTypes()).replaceAll("[\\[\\] ]", "");
                face.add(m.getReturnType() + " " + m.getName() + "(" + takes + ")");
            }
        }
        Check.dueTrue("the public methods are the face's", face.equals(new TreeSet<>(Arrays.asList(FACE))));
        Check.dueTrue("the class is final", Modifier.isFinal(DoorVotes.class.getModifiers()));
        Check.due("constructors", DoorVotes.class.getDeclaredConstructors().length, 1);
        Check.dueTrue("a constructor without parameters", DoorVotes.class.getConstructors()[0].getParameterCount() == 0);
        Set<String> constants = new TreeSet<>();
        for (Field f : DoorVotes.class.getFields()) {
            constants.add(f.getName());
        }
        Check.dueTrue("the public constants are the face's", constants.equals(CONSTANTS));
    }

    private static boolean isHidden(Member m) {
        return Modifier.isPrivate(m.getModifiers()) || m.isSynthetic();
    }

    private static void membersAreHidden() {
        for (Field f : DoorVotes.class.getDeclaredFields()) {
            Check.dueTrue(f + " is private", isHidden(f) || CONSTANTS.contains(f.getName()));
        }
        Set<String> names = new TreeSet<>();
        for (String call : FACE) {
            names.add(call.replaceAll("^\\w+ (\\w+).*", "$1"));
        }
        for (Class<?> c : classes()) {
            for (Method m : c.getDeclaredMethods()) {
                boolean ofFace = c == DoorVotes.class && Modifier.isPublic(m.getModifiers());
                Check.dueTrue(m + " does not bear a public name", ofFace || !names.contains(m.getName()));
                Check.dueTrue(m + " is of the face, or private", ofFace || isHidden(m));
                Check.dueTrue(m + " takes seven at most", m.getParameterCount() <= 7);
            }
        }
    }

    private static void classesAreSmall() {
        Check.dueTrue("some twelve classes at most", classes().size() <= 12);
        for (Class<?> c : classes()) {
            Check.dueTrue(c + " is static", c == DoorVotes.class || Modifier.isStatic(c.getModifiers()));
            Check.due(c + " has classes inside", c == DoorVotes.class ? 0 : c.getDeclaredClasses().length, 0);
            int fields = 0;
            for (Field f : c.getDeclaredFields()) {
                boolean constant = Modifier.isStatic(f.getModifiers());
                fields += constant ? 0 : 1;
                Check.dueTrue(f + " may be static", !constant
                        || Modifier.isFinal(f.getModifiers()) && CONSTANT_TYPES.contains(f.getType()));
            }
            Check.dueTrue(c + " has some twenty fields at most", fields <= 20);
        }
    }

    private static void wordsAreAllowed(String source) {
        for (int k = 0; k < source.length(); k++) {
            if (source.charAt(k) > 126) {
                Check.dueTrue("signs of the source are 1 to 126", false);
            }
        }
        String code = source.replaceAll("(?s)/\\*.*?\\*/", " ").replaceAll("//[^\\n]*", " ");
        String[] no = {"throw", "throws", "try", "catch", "synchronized", "assert", "package", "double", "float",
            "Random", "Thread", "System\\.(?!arraycopy)\\w*", "Math\\.\\w*Exact", "Object", "hashCode", "toString",
            "native", "volatile", "transient", "protected", "var", "yield"};
        for (String word : no) {
            Check.dueTrue("the source is without " + word, !Pattern.compile("\\b" + word + "\\b").matcher(code).find());
        }
        Check.dueTrue("no lambda", !code.contains("->"));
        Check.dueTrue("no method reference", !code.contains("::"));
        Check.dueTrue("no text", !code.contains("\""));
        Check.dueTrue("no block that is static", !Pattern.compile("static\\s*\\{").matcher(code).find());
        Matcher imports = Pattern.compile("import ([\\w.*]+);").matcher(code);
        while (imports.find()) {
            Check.dueTrue(imports.group(1) + " may be imported",
                    Set.of("java.util.Arrays", "java.util.ArrayList", "java.util.List").contains(imports.group(1)));
        }
        Matcher library = Pattern.compile("\\b(Arrays|Integer|Long|Math|System)\\.(\\w+)")
                .matcher(code.replaceAll("import [^;]*;", ""));
        while (library.find()) {
            Check.dueTrue(library.group() + " may be used", LIBRARY.contains(library.group()));
        }
    }

    private static void methodsAreShort(List<String> lines) {
        Pattern head = Pattern.compile("^\\s+(public|private)[^=;]*\\(.*\\{$");
        for (int k = 0; k < lines.size(); k++) {
            if (head.matcher(lines.get(k)).find()) {
                String end = lines.get(k).replaceAll("\\S.*", "") + "}";
                int length = 0;
                while (k + length < lines.size() && !lines.get(k + length).equals(end)) {
                    length++;
                }
                Check.dueTrue(lines.get(k).trim() + " has some sixty lines at most", length <= 60);
            }
        }
    }

    /** All calls of a run live in one room: an object makes its parts as it is made, and no call makes any. */
    private static void objectsAreMadeOnce(List<String> lines) {
        boolean constructor = false;
        for (String line : lines) {
            constructor = constructor ? !line.equals("    }") : line.startsWith("    public DoorVotes()");
            String code = line.replaceAll("//.*|^ *\\*.*|/\\*.*", "");
            if (Pattern.compile("\\bnew\\b|\\.clone\\(|copyOf").matcher(code).find()) {
                Check.dueTrue("made once: " + line.trim(), constructor || line.trim().startsWith("private final "));
            }
        }
    }
}
