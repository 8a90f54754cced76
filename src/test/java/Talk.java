import java.util.Arrays;
import java.util.NoSuchElementException;
import java.util.Set;

/** Talks with one object in texts, and notes every answer that is not the one that is due. */
final class Talk {
    private static final Set<String> HELPERS = Set.of("Talk", "Bounds", "Twins");
    private static int wrong = 0;
    private static int asked = 0;
    private static String promise = "";

    final TollOnVowels x = new TollOnVowels();

    interface Call {
        long ask();
    }

    static void promise(int number, String what) {
        promise = number + " (" + what + ")";
    }

    static int asked() {
        return asked;
    }

    static void due(long got, long want) {
        asked++;
        if (got != want) {
            wrong("answered " + got + ", due is " + want);
        }
    }

    static void due(boolean got, boolean want) {
        due(got ? 1 : 0, want ? 1 : 0);
    }

    static void dueSame(String got, String want) {
        asked++;
        if (!got.equals(want)) {
            wrong("it is\n" + got + "\ndue is\n" + want);
        }
    }

    static void dueNoSuch(Call call) {
        asked++;
        try {
            wrong("answered " + call.ask() + ", due is NoSuchElementException");
        } catch (NoSuchElementException e) {
            // as due
        }
    }

    static void wrong(String what) {
        wrong++;
        StackTraceElement[] calls = new Throwable().getStackTrace();
        int line = calls.length == 0 ? 0 : calls[calls.length - 1].getLineNumber();
        for (StackTraceElement call : calls) {
            if (!HELPERS.contains(call.getClassName()) && !call.getMethodName().equals("due")) {
                line = call.getLineNumber();
                break;
            }
        }
        System.out.println("line " + line + ", promise " + promise + ": " + what);
    }

    static void close() {
        System.out.println(wrong == 0 ? asked + " answers are as due" : wrong + " answers are not as due");
        if (wrong != 0) {
            System.exit(1);
        }
    }

    /** THE TEXT is this one. */
    TollOnVowels text(String signs) {
        x.end(0);
        put(x, signs);
        return x;
    }

    /** Puts signs behind an empty text. */
    static void put(TollOnVowels x, String signs) {
        for (int i = 0; i < signs.length(); i += 4) {
            int v = 0;
            for (int k = i; k < i + 4; k++) {
                v = v << 8 | (k < signs.length() ? signs.charAt(k) : 0);
            }
            x.sign(v);
        }
        x.end(signs.length());
    }

    void dueRow(long... want) {
        long[] got = new long[x.count(10)];
        for (int i = 0; i < got.length; i++) {
            got[i] = x.row(i);
        }
        asked++;
        if (!Arrays.equals(got, want)) {
            wrong("told the row " + Arrays.toString(got) + ", due is " + Arrays.toString(want));
        }
    }

    /** The road, words, travellers and errands that most examples use. */
    static Talk example() {
        Talk t = new Talk();
        t.text("1hello;1hm;2io;12aue;3ouzo").words();
        t.x.road(3);
        t.text("0:20;1:9").travellers();
        t.text("a10=5;a21=8;b31=20;a11=3").errands();
        return t;
    }
}
