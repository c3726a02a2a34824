import java.io.IOException;
import java.lang.reflect.Constructor;
import java.lang.reflect.Field;
import java.lang.reflect.Method;
import java.lang.reflect.Modifier;
import java.nio.file.Files;
import java.nio.file.Path;
import java.util.ArrayList;
import java.util.List;
import java.util.Set;
import java.util.TreeSet;
import java.util.regex.Matcher;
import java.util.regex.Pattern;
import java.util.stream.Stream;

/** The public face is that of ../shared/DOC.md, and the file keeps to what can be seen of ../shared/LANGUAGE.md. */
public final class FaceTest {
    private static final Path DOCUMENT = Path.of("../shared/DOC.md");
    private static final Path SOURCE = Path.of("src/main/java/DeductionDesk.java");
    private static final int LONGEST_METHOD = 60;
    private static final Check CHECK = new Check("FaceTest");

    private FaceTest() {
    }

    public static void main(String[] args) throws IOException {
        testFace();
        testMembers();
        testClassesInside();
        testWords(Files.readString(SOURCE));
        testLengths(Files.readAllLines(SOURCE));
        testSections();
        CHECK.end();
    }

    private static Set<String> faceOfDocument() throws IOException {
        Set<String> face = new TreeSet<>();
        boolean isFace = false;
        for (String line : Files.readAllLines(DOCUMENT)) {
            isFace = line.startsWith("```") ? line.equals("```java") : isFace;
            if (isFace && line.startsWith("    public ")) {
                face.add(line.strip().replaceAll("(int|boolean) [a-zA-Z]+(?=[,)])", "$1").replace(";", ""));
            }
        }
        return face;
    }

    private static String list(Class<?>[] types) {
        List<String> names = new ArrayList<>();
        for (Class<?> type : types) {
            names.add(type.getSimpleName());
        }
        return String.join(", ", names);
    }

    private static void testFace() throws IOException {
        Set<String> face = new TreeSet<>();
        for (Constructor<?> each : DeductionDesk.class.getConstructors()) {
            face.add("public DeductionDesk(" + list(each.getParameterTypes()) + ")");
        }
        for (Method each : DeductionDesk.class.getDeclaredMethods()) {
            if (!Modifier.isPrivate(each.getModifiers())) {
                Class<?>[] thrown = each.getExceptionTypes();
                String throwing = thrown.length == 0 ? "" : " throws " + list(thrown);
                face.add(Modifier.toString(each.getModifiers()) + " " + each.getReturnType().getSimpleName() + " "
                        + each.getName() + "(" + list(each.getParameterTypes()) + ")" + throwing);
            }
        }
        CHECK.same("the face", String.join("\n", face), String.join("\n", faceOfDocument()));
        CHECK.same("calls of the face", face.size(), 50);
        CHECK.same("the class", Modifier.toString(DeductionDesk.class.getModifiers()), "public final");
    }

    private static void testMembers() {
        Set<String> names = new TreeSet<>();
        for (Method each : DeductionDesk.class.getDeclaredMethods()) {
            if (Modifier.isPublic(each.getModifiers())) {
                names.add(each.getName());
            }
        }
        List<Class<?>> classes = new ArrayList<>(List.of(DeductionDesk.class.getDeclaredClasses()));
        classes.add(DeductionDesk.class);
        for (Class<?> type : classes) {
            int fields = 0;
            for (Field each : type.getDeclaredFields()) {
                boolean isStatic = Modifier.isStatic(each.getModifiers());
                fields += isStatic ? 0 : 1;
                CHECK.same("rule 5: " + each, !isStatic || Modifier.isFinal(each.getModifiers()), true);
                CHECK.same("rule 1: " + each, type != DeductionDesk.class || Modifier.isPrivate(each.getModifiers()),
                        true);
            }
            CHECK.same("rule 11: fields of " + type, fields <= 20, true);
            for (Method each : type.getDeclaredMethods()) {
                boolean isFace = Modifier.isPublic(each.getModifiers());
                CHECK.same("rule 1: " + each, isFace || !names.contains(each.getName()), true);
                CHECK.same("rule 11: parameters of " + each, each.getParameterCount() <= 7, true);
            }
        }
    }

    private static void testClassesInside() {
        Class<?>[] inside = DeductionDesk.class.getDeclaredClasses();
        CHECK.same("rule 11: at most some twelve classes", inside.length <= 11, true);
        for (Class<?> each : inside) {
            CHECK.same("rule 1: " + each, Modifier.isStatic(each.getModifiers()), true);
            CHECK.same("rule 1: " + each, !Modifier.isPublic(each.getModifiers()), true);
        }
    }

    private static void testWords(String source) {
        String code = source.replaceAll("(?s)/\\*.*?\\*/", "").replaceAll("//[^\n]*", "")
                .replaceAll("\"[^\"\n]*\"", "\"\"");
        String[] forbidden = {"->", "::", "finally", "synchronized", "assert", "try", "catch", "Exact", "hashCode",
            "toString", "System", "Thread", "Random", "Math", "instanceof", "protected", "package", "lambda"};
        for (String each : forbidden) {
            CHECK.same("the rules: " + each, code.contains(each), false);
        }
        Matcher imported = Pattern.compile("import ([^;]+);").matcher(code);
        while (imported.find()) {
            CHECK.same("rule 4: imports", imported.group(1), "java.util.NoSuchElementException");
        }
        Matcher thrown = Pattern.compile("throw new (\\w+)\\(\"\"\\);").matcher(code);
        int count = 0;
        while (thrown.find()) {
            count++;
            CHECK.same("rule 6: throws " + thrown.group(1), List.of("IllegalStateException",
                    "IllegalArgumentException", "IndexOutOfBoundsException", "ArithmeticException",
                    "UnsupportedOperationException", "NoSuchElementException").contains(thrown.group(1)), true);
        }
        CHECK.same("rule 6: each throw is of this form", code.split("throw ", -1).length - 1, count);
        // Row alone indexes arrays, behind a test of the index.
        CHECK.same("rule 7: arrays are indexed in Row", code.replaceAll("(?s)class Row .*?\n    }\n", "")
                .contains("["), false);
    }

    private static void testLengths(List<String> lines) {
        for (int i = 0; i < lines.size(); i++) {
            CHECK.same("a line of 120 signs at most: " + (i + 1), lines.get(i).length() <= 120, true);
        }
        for (String indent : new String[] {"    ", "        "}) {
            int start = 0;
            for (int i = 0; i < lines.size(); i++) {
                String line = lines.get(i);
                if (line.matches(indent + "[a-z][^;=]*\\(.*") && !line.endsWith(";")) {
                    start = i;
                } else if (line.equals(indent + "}") && start > 0) {
                    CHECK.same("rule 11: the method from line " + (start + 1), i - start < LONGEST_METHOD, true);
                    start = 0;
                }
            }
        }
    }

    /** Each section of the document that promises something is gone through by a test, sentence by sentence. */
    private static void testSections() throws IOException {
        StringBuilder tests = new StringBuilder();
        try (Stream<Path> files = Files.list(Path.of("src/test/java"))) {
            for (Path each : files.filter(x -> x.getFileName().toString().startsWith("EdgesOf")).toList()) {
                tests.append(Files.readString(each));
            }
        }
        for (String heading : Edges.readDocument().keySet()) {
            boolean isGoneThrough = !heading.equals("The public face") && !heading.equals("Not promised");
            CHECK.same("the section " + heading, tests.indexOf("(\"" + heading + "\"") >= 0, isGoneThrough);
        }
    }
}
