import java.util.NoSuchElementException;
import java.util.function.Supplier;

/** Two objects that came about by the same calls: what is asked of one alone must not show in what it answers later. */
final class Twins {
    /** What a call answers that throws NoSuchElementException; no call of the document answers it. */
    static final long NO_SUCH = -77777;

    private Twins() {
    }

    interface Ask {
        long of(TollOnVowels x);
    }

    /** A road on which much has been done: what can be undone, both numbers kept, a RULE, a ROW, a text. */
    static Talk busy() {
        Talk t = Talk.example();
        t.text("v+1+s+h/2").rule();
        t.x.sheet(2, 2, 300, 200);
        t.x.keep(0);
        t.x.walk(0, 1);
        t.x.say(0, 3);
        t.x.pause(3);
        t.x.keep(1);
        t.x.alms(0, 1, 5);
        t.x.toll(4, 2);
        t.text("w17;b<");
        return t;
    }

    /** The call answers so, and nothing is changed. */
    static void refuses(Supplier<Talk> road, long want, Ask call) {
        Talk one = road.get();
        Talk.due(answer(one.x, call), want);
        same(one, road.get(), true);
    }

    static void refuses(long want, Ask call) {
        refuses(Twins::busy, want, call);
    }

    /** The call reads this text, answers so, and nothing but THE TEXT is changed, which is empty. */
    static void refusesText(Supplier<Talk> road, String text, long want, Ask call) {
        Talk one = road.get();
        Talk.due(answer(one.text(text), call), want);
        Talk.due(one.x.count(11), 0);
        Talk other = road.get();
        other.x.end(0);
        same(one, other, true);
    }

    static void refusesText(String text, long want, Ask call) {
        refusesText(Twins::busy, text, want, call);
    }

    /** A question, which tells a ROW: nothing else is changed. */
    static void asks(Ask call) {
        Talk one = busy();
        Talk.due(answer(one.x, call) >= 0, true);
        same(one, busy(), false);
    }

    /** A question that reads this text. */
    static void asksText(String text, Ask call) {
        Talk one = busy();
        Talk.due(answer(one.text(text), call) >= 0, true);
        Talk other = busy();
        other.x.end(0);
        same(one, other, false);
    }

    private static long answer(TollOnVowels x, Ask call) {
        try {
            return call.of(x);
        } catch (NoSuchElementException e) {
            return NO_SUCH;
        }
    }

    private static void same(Talk one, Talk other, boolean withRow) {
        Talk.dueSame(all(one.x, withRow), all(other.x, withRow));
    }

    /** All that can be seen of an object; behind it the object is another one. */
    private static String all(TollOnVowels x, boolean withRow) {
        StringBuilder b = new StringBuilder();
        for (int what = 0; what <= 11; what++) {
            note(b, what == 10 && !withRow ? 0 : x.count(what));
        }
        for (int i = 0; withRow && i < x.count(10); i++) {
            note(b, x.row(i));
        }
        things(b, x);
        road(b, x);
        for (int left = 0; left >= 0; road(b, x)) {
            left = x.undo();
            note(b, left);
        }
        for (int i = 0; i < 2; i++) {
            note(b, x.again(i) ? 1 : 0);
            road(b, x);
        }
        note(b, x.journey());
        road(b, x);
        return b.toString();
    }

    private static void things(StringBuilder b, TollOnVowels x) {
        b.append("\nwords");
        for (int w = 0; w < x.count(1); w++) {
            for (int what = 0; what <= 8; what++) {
                note(b, x.word(w, what));
            }
            for (int u = 0; u < w; u++) {
                note(b, x.differ(w, u));
            }
            for (int s = 0; s < x.count(0); s++) {
                note(b, x.toll(w, s));
            }
        }
        b.append("\nerrands");
        for (int e = 0; e < x.count(3); e++) {
            for (int what = 0; what <= 4; what++) {
                note(b, x.errand(e, what));
            }
        }
    }

    private static void road(StringBuilder b, TollOnVowels x) {
        b.append("\nhour").append(x.count(4)).append(" done ").append(x.count(5)).append(" travellers");
        for (int t = 0; t < x.count(2); t++) {
            for (int what = 0; what <= 2; what++) {
                note(b, x.traveller(t, what));
            }
        }
        b.append(" books");
        for (int s = 0; s < x.count(0); s++) {
            for (int v = 0; v < 5; v++) {
                note(b, x.book(s, v));
            }
        }
    }

    private static void note(StringBuilder b, long number) {
        b.append(' ').append(number);
    }
}
