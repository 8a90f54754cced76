import java.io.IOException;
import java.lang.reflect.Constructor;
import java.lang.reflect.Field;
import java.lang.reflect.Method;
import java.lang.reflect.Modifier;
import java.nio.file.Files;
import java.nio.file.Path;
import java.util.ArrayList;
import java.util.List;
import java.util.Set;
import java.util.TreeSet;
import java.util.regex.Matcher;
import java.util.regex.Pattern;

/** The public face: every constant, constructor and method as the document writes it, with what it throws; no more. */
public final class FaceTest {
    private static final Path DOCUMENT = Path.of("../shared/DOC.md");
    private static final Path PROGRAM = Path.of("src/main/java/TollOnVowels.java");

    private static int wrong = 0;

    public static void main(String[] args) throws IOException, ReflectiveOperationException {
        String document = Files.readString(DOCUMENT);
        List<String> face = face(document);
        must(face.size() == 42, "the document's face has " + face.size() + " members");
        sameMembers(face);
        sameWords(face);
        promisesTellTheFace(document, face);
        System.out.println(wrong == 0 ? face.size() + " members are as the document writes them" : wrong + " things are not");
        if (wrong != 0) {
            System.exit(1);
        }
    }

    private static void must(boolean fine, String what) {
        if (!fine) {
            wrong++;
            System.out.println(what);
        }
    }

    /** The lines of the document's class, each without what stands around it. */
    private static List<String> face(String document) {
        List<String> lines = new ArrayList<>();
        Matcher m = Pattern.compile("(?s)## The public face\\s+```java\n(.*?)```").matcher(document);
        must(m.find(), "the document shows no face");
        for (String line : m.group(1).split("\n")) {
            if (line.matches("\\s+public .*;")) {
                lines.add(line.trim());
            }
        }
        must(m.group(1).contains("public final class TollOnVowels {"), "the document shows another class");
        return lines;
    }

    private static void sameMembers(List<String> face) throws ReflectiveOperationException {
        Class<?> c = TollOnVowels.class;
        must(c.getModifiers() == (Modifier.PUBLIC | Modifier.FINAL) && c.getPackageName().isEmpty()
            && c.getSuperclass() == Object.class && c.getInterfaces().length == 0, "the class is another one: " + c.toGenericString());
        Set<String> due = new TreeSet<>();
        for (String line : face) {
            // Names of parameters are not kept in the class.
            due.add(line.replaceAll("(int) \\w+(?=[,)])", "$1").replace(", ", ","));
        }
        Set<String> there = new TreeSet<>();
        for (Field f : c.getDeclaredFields()) {
            if (!Modifier.isPrivate(f.getModifiers())) {
                there.add(f.toGenericString().replace("TollOnVowels.", "") + " = " + f.get(null) + ";");
            }
        }
        for (Constructor<?> k : c.getDeclaredConstructors()) {
            there.add(k.toGenericString() + ";");
        }
        for (Method m : c.getDeclaredMethods()) {
            if (!Modifier.isPrivate(m.getModifiers())) {
                there.add(m.toGenericString().replace("TollOnVowels.", "").replace("java.util.", "") + ";");
            }
        }
        compare(due, there);
    }

    private static void compare(Set<String> due, Set<String> there) {
        for (String member : due) {
            must(there.contains(member), "it is not there: " + member);
        }
        for (String member : there) {
            must(due.contains(member), "the document does not have it: " + member);
        }
    }

    /** With the document's names of parameters, too. */
    private static void sameWords(List<String> face) throws IOException {
        List<String> program = new ArrayList<>();
        for (String line : Files.readAllLines(PROGRAM)) {
            program.add(line.trim());
        }
        for (String line : face) {
            must(program.contains(line) || program.contains(line.replace(";", " {")), "the program does not write: " + line);
        }
    }

    private static void promisesTellTheFace(String document, List<String> face) {
        Matcher m = Pattern.compile("(?m)^## Promise (\\d+): .*\\s+`([^`]*)`:").matcher(document);
        int promises = 0;
        while (m.find()) {
            promises++;
            must(face.contains("public " + m.group(2) + ";"), "promise " + m.group(1) + " is of no member: " + m.group(2));
        }
        must(promises == face.size() - 1, promises + " promises tell of members");
    }
}
