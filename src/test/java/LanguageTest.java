import java.io.IOException;
import java.lang.reflect.Constructor;
import java.lang.reflect.Field;
import java.lang.reflect.Method;
import java.lang.reflect.Modifier;
import java.nio.file.Files;
import java.nio.file.Path;
import java.util.List;
import java.util.Set;
import java.util.TreeSet;
import java.util.regex.Matcher;
import java.util.regex.Pattern;

/** What of LANGUAGE.md a machine can look at: the face, and what may not stand in the program's file. */
public final class LanguageTest {
    private static final String FACE = "int sign(int); boolean end(int); int road(int); int words(); int travellers();"
        + " int errands(); int rule(); int word(int,int); int traveller(int,int); int errand(int,int); int book(int,int);"
        + " int sheet(int,int,int,int); int toll(int,int); int walk(int,int); int pause(int); int say(int,int);"
        + " int alms(int,int,int); int journey(); int undo(); int cheapest(int,int); int sentence(int); int when(int,int);"
        + " int shortest(int,int,int); int differ(int,int); int near(int); int heard(int,int,int); int code(int);"
        + " int trip(int,int); int haste(int); int best(int); int takes(int,int); int greed(int); int law(int); int said();"
        + " int ask(); int years(int,int); boolean keep(int); boolean again(int); int count(int); long row(int)";
    private static final String[] NOT_THERE = {"->", "::", "\\btry\\b", "\\bcatch\\b", "\\bfinally\\b", "\\bsynchronized\\b",
        "\\bassert\\b", "Exact\\b", "@", "\\bpackage\\b", "\\bprotected\\b", "static\\s*\\{", "\\bnative\\b", "\\bvar\\b",
        "\\bSystem\\.(?!arraycopy)", "\\bArrays\\.(?!fill|copyOf)", "\\b(?:Integer|Long)\\.(?!bitCount|compare)",
        "\\bMath\\.(?!min|max|abs|floor)", "\\bdouble\\b", "\\bfloat\\b", "\\bString\\b", "\\bThread\\b", "\\bRandom\\b",
        "throw new (?!NoSuchElementException\\(\\))", "\\bgetClass\\b", "\\bhashCode\\b", "\\bequals\\b", "\\btoString\\b"};

    private static int wrong = 0;

    public static void main(String[] args) throws IOException {
        face();
        for (Class<?> c : TollOnVowels.class.getDeclaredClasses()) {
            inside(c);
        }
        most("classes", TollOnVowels.class.getDeclaredClasses().length + 1, 12);
        file(Files.readAllLines(Path.of("src/main/java/TollOnVowels.java")));
        System.out.println(wrong == 0 ? "the program keeps to what was looked at" : wrong + " things are not as they must be");
        if (wrong != 0) {
            System.exit(1);
        }
    }

    private static void must(boolean fine, String what) {
        if (!fine) {
            wrong++;
            System.out.println(what);
        }
    }

    private static void most(String what, int many, int limit) {
        must(many <= limit, what + ": " + many + ", at most " + limit);
    }

    private static void face() {
        Class<?> c = TollOnVowels.class;
        must(Modifier.isPublic(c.getModifiers()) && Modifier.isFinal(c.getModifiers()), "the class is not public and final");
        Set<String> due = new TreeSet<>(List.of(FACE.split("; ")));
        Set<String> there = new TreeSet<>();
        Set<String> names = new TreeSet<>();
        for (Method m : c.getDeclaredMethods()) {
            if (!Modifier.isPrivate(m.getModifiers())) {
                must(Modifier.isPublic(m.getModifiers()), m + " is neither public nor private");
                there.add(m.toGenericString().replaceAll("public |TollOnVowels\\.| throws .*", ""));
                names.add(m.getName());
            }
        }
        must(there.equals(due), "the face is " + there + ", due is " + due);
        for (Constructor<?> k : c.getDeclaredConstructors()) {
            must(Modifier.isPublic(k.getModifiers()) && k.getParameterCount() == 0, k + " is not in the face");
        }
        looks(c, names);
        for (Class<?> inside : c.getDeclaredClasses()) {
            looks(inside, names);
        }
        for (Field f : c.getDeclaredFields()) {
            must(Modifier.isPrivate(f.getModifiers()) || f.getName().equals("NONE"), f + " is not private");
        }
    }

    private static void looks(Class<?> c, Set<String> names) {
        int fields = 0;
        for (Field f : c.getDeclaredFields()) {
            fields += Modifier.isStatic(f.getModifiers()) ? 0 : 1;
            must(!Modifier.isStatic(f.getModifiers()) || Modifier.isFinal(f.getModifiers()), f + " is static and not final");
        }
        most("fields of " + c, fields, 20);
        for (Method m : c.getDeclaredMethods()) {
            most("parameters of " + m, m.getParameterCount(), 7);
            must(Modifier.isPublic(m.getModifiers()) || !names.contains(m.getName()), m + " bears the name of a public one");
        }
    }

    private static void inside(Class<?> c) {
        must(Modifier.isStatic(c.getModifiers()), c + " is not static");
        must(Modifier.isPrivate(c.getModifiers()), c + " is not private");
    }

    private static void file(List<String> lines) {
        Set<String> imports = new TreeSet<>();
        int opened = 0;
        for (int i = 0; i < lines.size(); i++) {
            String line = lines.get(i);
            if (line.startsWith("import ")) {
                imports.add(line);
            }
            must(line.chars().allMatch(sign -> sign >= 32 && sign < 127), "line " + (i + 1) + " has another sign");
            String code = line.replaceAll("//.*|^\\s*/?\\*.*", "").replaceAll("'.'", "' '");
            for (String not : NOT_THERE) {
                Matcher m = Pattern.compile(not).matcher(code);
                must(!m.find(), "line " + (i + 1) + " has " + not);
            }
            if (code.matches("(    |        )[a-z].*\\) (throws \\w+ )?\\{")) {
                opened = i;
            } else if (code.matches("(    |        )}")) {
                most("lines of the method at line " + (opened + 1), i - opened + 1, 60);
            }
        }
        must(imports.equals(new TreeSet<>(List.of("import java.util.Arrays;", "import java.util.NoSuchElementException;"))),
            "imports are " + imports);
    }
}
