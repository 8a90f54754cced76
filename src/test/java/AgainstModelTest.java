import java.util.ArrayList;
import java.util.List;
import java.util.NoSuchElementException;
import java.util.Random;

/** Random runs of calls on the program and on the model: all answers and all that can be seen must be the same. */
public final class AgainstModelTest {
    private static final int RUNS = 600;
    private static final int CALLS = 220;
    private static final String[] NAMES = {"sign", "end", "road", "words", "travellers", "errands", "rule", "word",
        "traveller", "errand", "book", "sheet", "toll", "walk", "pause", "say", "alms", "journey", "undo", "cheapest",
        "sentence", "when", "shortest", "differ", "near", "heard", "code", "trip", "haste", "best", "takes", "greed",
        "law", "said", "ask", "years", "keep", "again", "count", "row"};

    private final Random random;
    private final TollOnVowels program = new TollOnVowels();
    private final Model model = new Model();
    private final List<String> run = new ArrayList<>();

    private AgainstModelTest(long seed) {
        random = new Random(seed);
    }

    public static void main(String[] args) {
        int wrong = 0;
        for (int seed = 0; seed < RUNS && wrong < 3; seed++) {
            wrong += new AgainstModelTest(seed).goes() ? 0 : 1;
        }
        System.out.println(wrong == 0 ? RUNS + " runs are as the model's" : "runs differ from the model's");
        if (wrong != 0) {
            System.exit(1);
        }
    }

    private boolean goes() {
        for (int i = 0; i < CALLS; i++) {
            String name = NAMES[i < 6 ? 2 + i % 5 : random.nextInt(NAMES.length)];
            if ((name.equals("road") || name.equals("words")) && i > 12 && random.nextInt(4) > 0) {
                continue;
            }
            int[] a = arguments(name);
            giveText(name);
            String got = answer(name, a, true);
            String want = answer(name, a, false);
            run.add(name + java.util.Arrays.toString(a) + " -> " + want);
            String seen = seen(true);
            String due = seen(false);
            if (!got.equals(want) || !seen.equals(due)) {
                run.forEach(System.out::println);
                System.out.println("answered " + got + ", the model " + want + "\nseen  " + seen + "\nmodel " + due);
                return false;
            }
        }
        return true;
    }

    // ---- texts

    private void giveText(String name) {
        String text = text(name);
        if (text == null || random.nextInt(12) == 0) {
            return;
        }
        if (random.nextInt(5) == 0) {
            text = spoil(text);
        }
        program.end(0);
        model.end(0);
        text = text.length() > 80 ? text.substring(0, 80) : text;
        for (int i = 0; i < text.length(); i += 4) {
            int v = 0;
            for (int k = i; k < i + 4; k++) {
                v = v << 8 | (k < text.length() ? text.charAt(k) : 0);
            }
            program.sign(v);
            model.sign(v);
        }
        program.end(text.length());
        model.end(text.length());
        run.add("text " + text);
    }

    private String spoil(String text) {
        String signs = "aeioubcdw0123456789;:=<>!()+-*/vshlpnd\u0000\u00ffxA ";
        StringBuilder b = new StringBuilder(text);
        for (int n = 1 + random.nextInt(2); n > 0; n--) {
            int at = random.nextInt(b.length() + 1);
            char sign = signs.charAt(random.nextInt(signs.length()));
            switch (random.nextInt(4)) {
                case 0 -> b.insert(at, sign);
                case 1 -> b.setLength(at);
                case 2 -> {
                    if (at < b.length()) {
                        b.setCharAt(at, sign);
                    }
                }
                default -> {
                    if (at < b.length()) {
                        b.deleteCharAt(at);
                    }
                }
            }
        }
        return b.toString();
    }

    private String text(String name) {
        switch (name) {
            case "words": return lines(1 + random.nextInt(random.nextInt(3) == 0 ? 11 : 4), 0);
            case "travellers": return lines(1 + random.nextInt(random.nextInt(6) == 0 ? 5 : 2), 1);
            case "errands": return lines(1 + random.nextInt(random.nextInt(6) == 0 ? 9 : 4), 2);
            case "journey": return lines(1 + random.nextInt(random.nextInt(6) == 0 ? 25 : 6), 3);
            case "rule":
            case "law": return random.nextInt(8) == 0 ? "" : expression(random.nextInt(7));
            case "sentence": return digits(random.nextInt(random.nextInt(4) == 0 ? 14 : 6), 4);
            case "said": return digits(random.nextInt(12) == 0 ? random.nextInt(8) : 5, 3);
            default: return null;
        }
    }

    private String lines(int many, int kind) {
        StringBuilder b = new StringBuilder();
        for (int i = 0; i < many; i++) {
            b.append(i == 0 ? "" : ";");
            switch (kind) {
                case 0 -> b.append(digits(1 + random.nextInt(3) / 2, 4)).append(letters(1 + random.nextInt(6)));
                case 1 -> b.append(random.nextInt(3)).append(':').append(digits(1 + random.nextInt(3), 10));
                case 2 -> b.append((char) ('a' + random.nextInt(Math.max(1, model.count(2))))).append(random.nextInt(4))
                    .append(random.nextInt(model.count(0))).append('=').append(digits(1 + random.nextInt(2), 10));
                default -> b.append(anAct());
            }
        }
        return b.toString();
    }

    private String anAct() {
        if (random.nextInt(6) == 0) {
            return "w" + random.nextInt(random.nextInt(2) == 0 ? 5 : 100);
        }
        String what = random.nextInt(2) == 0 ? "<>!" : "0123456789";
        return "" + (char) ('a' + random.nextInt(random.nextInt(5) == 0 ? 4 : Math.max(1, model.count(2))))
            + what.charAt(random.nextInt(what.length()));
    }

    private String digits(int many, int below) {
        StringBuilder b = new StringBuilder();
        for (int i = 0; i < many; i++) {
            b.append(random.nextInt(below));
        }
        return b.toString();
    }

    private String letters(int many) {
        String signs = "aeiouaeiouaeboxz";
        StringBuilder b = new StringBuilder();
        for (int i = 0; i < many; i++) {
            b.append(signs.charAt(random.nextInt(signs.length())));
        }
        return b.toString();
    }

    private String expression(int deep) {
        if (deep == 0 || random.nextInt(4) == 0) {
            String things = "vshlpnd";
            return random.nextInt(3) == 0 ? digits(1 + random.nextInt(3), 10)
                : "" + things.charAt(random.nextInt(things.length()));
        }
        switch (random.nextInt(6)) {
            case 0: return "-" + expression(deep - 1);
            case 1: return "(" + expression(deep - 1) + ")";
            default:
                String signs = "++--**//<>=";
                return expression(deep - 1) + signs.charAt(random.nextInt(signs.length())) + expression(deep - 1);
        }
    }

    // ---- calls

    private int near(int many) {
        return random.nextInt(15) == 0 ? odd(many) : random.nextInt(Math.max(1, many));
    }

    private int odd(int many) {
        int[] odd = {-1, many, many + 1, Integer.MIN_VALUE, Integer.MAX_VALUE, -2, 100};
        return odd[random.nextInt(odd.length)];
    }

    private int[] arguments(String name) {
        int stations = model.count(0);
        int words = model.count(1);
        int people = model.count(2);
        switch (name) {
            case "sign": return new int[] {random.nextInt()};
            case "end": return new int[] {near(model.count(11) + 1)};
            case "road": return new int[] {random.nextInt(3) == 0 ? near(8) : 3 + random.nextInt(4)};
            case "word": return new int[] {near(words), near(9)};
            case "traveller": return new int[] {near(people), near(5)};
            case "errand": return new int[] {near(model.count(3)), near(5)};
            case "book": return new int[] {near(stations), near(5)};
            case "sheet": return new int[] {near(4), near(5), random.nextInt(3) == 0 ? random.nextInt() : random.nextInt(400),
                random.nextInt(3) == 0 ? random.nextInt() : random.nextInt(90)};
            case "toll":
            case "when": return new int[] {near(words), near(stations)};
            case "walk": return new int[] {near(people), near(2)};
            case "pause": return new int[] {near(random.nextInt(3) == 0 ? 100 : 3)};
            case "say": return new int[] {near(people), near(words)};
            case "alms": return new int[] {near(people), near(people), 1 + near(random.nextInt(4) == 0 ? 9999 : 20)};
            case "cheapest": return new int[] {near(random.nextInt(3) == 0 ? 10 : 4), near(stations)};
            case "sentence":
            case "greed":
            case "law": return new int[] {near(stations)};
            case "shortest": return new int[] {near(4), near(stations), near(random.nextInt(4) == 0 ? 10000 : 40)};
            case "differ": return new int[] {near(words), near(words)};
            case "near": return new int[] {near(words)};
            case "heard": return new int[] {near(words), near(11), near(3)};
            case "code": return new int[] {near(7)};
            case "trip": return new int[] {near(people), near(13)};
            case "haste":
            case "best": return new int[] {near(people)};
            case "takes": return new int[] {near(stations), near(random.nextInt(4) == 0 ? 100 : 6)};
            case "years": return new int[] {random.nextInt(), 1 + near(random.nextInt(4) == 0 ? 60 : 8)};
            case "keep":
            case "again": return new int[] {near(2)};
            case "count": return new int[] {near(12)};
            case "row": return new int[] {near(3)};
            default: return new int[0];
        }
    }

    private String answer(String name, int[] a, boolean ofProgram) {
        Class<?> kind = ofProgram ? TollOnVowels.class : Model.class;
        Class<?>[] types = new Class<?>[a.length];
        Object[] values = new Object[a.length];
        for (int i = 0; i < a.length; i++) {
            types[i] = int.class;
            values[i] = a[i];
        }
        try {
            return String.valueOf(kind.getMethod(name, types).invoke(ofProgram ? program : model, values));
        } catch (java.lang.reflect.InvocationTargetException e) {
            if (e.getCause() instanceof NoSuchElementException) {
                return "NoSuchElementException";
            }
            e.getCause().printStackTrace();
            return "throws " + e.getCause();
        } catch (ReflectiveOperationException e) {
            return "no such call: " + e;
        }
    }

    /** All that the questions without arguments of their own can see. */
    private String seen(boolean ofProgram) {
        StringBuilder b = new StringBuilder();
        look(b, "count", 12, ofProgram);
        look(b, "row", model.count(10), ofProgram);
        for (int t = 0; t < model.count(2); t++) {
            look(b, "traveller", t, 5, ofProgram);
        }
        for (int e = 0; e < model.count(3); e++) {
            look(b, "errand", e, 5, ofProgram);
        }
        for (int s = 0; s < model.count(0); s++) {
            look(b, "book", s, 5, ofProgram);
        }
        for (int w = 0; w < model.count(1); w++) {
            look(b, "word", w, 9, ofProgram);
        }
        return b.toString();
    }

    private void look(StringBuilder b, String name, int many, boolean ofProgram) {
        b.append(name);
        for (int i = 0; i < many; i++) {
            b.append(' ').append(answer(name, new int[] {i}, ofProgram));
        }
        b.append("; ");
    }

    private void look(StringBuilder b, String name, int which, int many, boolean ofProgram) {
        b.append(name).append(which);
        for (int i = 0; i < many; i++) {
            b.append(' ').append(answer(name, new int[] {which, i}, ofProgram));
        }
        b.append("; ");
    }
}
