import java.io.IOException;
import java.lang.reflect.InvocationTargetException;
import java.lang.reflect.Method;
import java.util.ArrayList;
import java.util.Comparator;
import java.util.List;

/** Runs a class's tests, each for words of the document that it names; what no test names is a fault, too. */
abstract class Bounds {
    static final int LOW = Integer.MIN_VALUE;
    static final int HIGH = Integer.MAX_VALUE;

    static void run(Class<? extends Bounds> tests, int... sections) throws IOException {
        Document document = new Document();
        List<Method> methods = new ArrayList<>();
        for (Method m : tests.getDeclaredMethods()) {
            if (m.isAnnotationPresent(Says.class)) {
                methods.add(m);
            }
        }
        methods.sort(Comparator.comparing((Method m) -> m.getAnnotation(Says.class).at()).thenComparing(Method::getName));
        for (Method m : methods) {
            Says says = m.getAnnotation(Says.class);
            Talk.promise(says.at(), m.getName() + ": \"" + says.words() + "\"");
            if (!document.name(says.at(), says.words())) {
                Talk.wrong("the document does not say so");
            }
            once(m);
        }
        for (int at : sections) {
            Talk.promise(at, "words without a test");
            if (!document.unnamed(at).isEmpty()) {
                Talk.wrong(document.unnamed(at));
            }
        }
        System.out.println(methods.size() + " tests");
        Talk.close();
    }

    private static void once(Method test) {
        int before = Talk.asked();
        try {
            test.setAccessible(true);
            test.invoke(null);
        } catch (InvocationTargetException e) {
            Talk.wrong("throws " + e.getCause());
        } catch (IllegalAccessException e) {
            Talk.wrong("can't be run: " + e);
        }
        if (Talk.asked() == before) {
            Talk.wrong("asks nothing");
        }
    }

    static void due(long got, long want) {
        Talk.due(got, want);
    }

    static void due(boolean got, boolean want) {
        Talk.due(got, want);
    }

    static void dueNoSuch(Talk.Call call) {
        Talk.dueNoSuch(call);
    }

    static String times(String signs, int n) {
        return signs.repeat(n);
    }

    /** An object with these WORDS. */
    static Talk words(String words) {
        return of(1, words, "", "");
    }

    /** An object with all these; each text must be one that can be read. */
    static Talk of(int stations, String words, String travellers, String errands) {
        Talk t = new Talk();
        due(t.x.road(stations), 1);
        due(t.text(words).words() >= 0, true);
        due(t.text(travellers).travellers() >= 0, true);
        due(t.text(errands).errands() >= 0, true);
        return t;
    }

    /** Puts signs behind an empty text. */
    static TollOnVowels text(TollOnVowels x, String signs) {
        Talk.put(x, signs);
        return x;
    }

    /** THE RULE is this one. */
    static Talk by(String rule, Talk t) {
        due(t.text(rule).rule(), 0);
        return t;
    }
}
