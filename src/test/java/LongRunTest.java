/** Objects that are used for 512 calls, all of them: what adds up over so many is right to the last. */
public final class LongRunTest {
    private static final int CALLS = 512;

    private final Talk t = new Talk();
    private int left = CALLS;

    public static void main(String[] args) {
        Talk.promise(17, "say: as often as can be");
        new LongRunTest().says();
        Talk.promise(16, "pause: as often as can be");
        new LongRunTest().pauses();
        Talk.promise(20, "undo: of very many the latest twelve");
        new LongRunTest().walks();
        Talk.promise(19, "journey: as often as can be");
        new LongRunTest().journeys();
        Talk.promise(37, "years: as often as can be");
        new LongRunTest().draws();
        Talk.promise(18, "alms: to and fro");
        new LongRunTest().gives();
        Talk.close();
    }

    /** The object for one more call. */
    private TollOnVowels x() {
        left--;
        if (left < 0) {
            Talk.wrong("more than " + CALLS + " calls");
        }
        return t.x;
    }

    /** Puts a text; as many calls as it takes, and one that reads it. */
    private TollOnVowels text(String signs) {
        left -= (signs.length() + 3) / 4 + 1;
        Talk.put(t.x, signs);
        return x();
    }

    /** Asks for the STATIONS till so many calls are left. */
    private void till(int calls) {
        while (left > calls) {
            Talk.due(x().count(0) > 0, true);
        }
    }

    /** Whether all calls were used, and no more. */
    private void isUsedUp() {
        Talk.due(left, 0);
    }

    private void says() {
        Talk.due(text("0uuuuuu").words(), 1);
        Talk.due(text("0:999").travellers(), 1);
        Talk.due(text("99").rule(), 0);
        int said = 0;
        while (left > 20) {
            Talk.due(x().sheet(2, 1, 9999, 1), 9999);
            for (int i = 0; i < 16; i++) {
                Talk.due(x().say(0, 0), 594);
                said++;
            }
        }
        till(7);
        Talk.due(x().traveller(0, 1), 9999 - 16 * 594);
        Talk.due(x().say(0, 0), -2);
        Talk.due(x().traveller(0, 2), said * 594);
        Talk.due(x().book(0, 4), said * 6);
        Talk.due(x().count(6), said * 6);
        Talk.due(x().count(4), 0);
        Talk.due(x().count(9), 12);
        isUsedUp();
    }

    private void pauses() {
        Talk.due(text("0a").words(), 1);
        Talk.due(text("h").rule(), 0);
        int hour = 0;
        while (left > 8) {
            hour += 99;
            Talk.due(x().pause(99), hour);
        }
        till(5);
        Talk.due(x().count(4), hour);
        Talk.due(x().toll(0, 0), hour % 24);
        Talk.due(x().when(0, 0), (24 - hour % 24) % 24);
        Talk.due(x().undo(), 11);
        Talk.due(x().count(4), hour - 99);
        isUsedUp();
    }

    private void walks() {
        Talk.due(x().road(2), 1);
        Talk.due(text("0:0").travellers(), 1);
        int hour = 0;
        while (left > 15) {
            Talk.due(x().walk(0, hour % 2 == 0 ? 1 : 0), 1 - hour % 2);
            hour++;
        }
        for (int can = 11; can >= 0; can--) {
            Talk.due(x().undo(), can);
        }
        Talk.due(x().undo(), -1);
        Talk.due(x().count(4), hour - 12);
        Talk.due(x().traveller(0, 0), hour % 2);
        isUsedUp();
    }

    private void journeys() {
        Talk.due(x().road(2), 1);
        Talk.due(text("0uo").words(), 1);
        Talk.due(text("0:999").travellers(), 1);
        Talk.due(text("a00=9;a01=9").errands(), 2);
        Talk.due(text("a!;a>;a!;a<").journey(), 4);
        Talk.due(x().count(5), 3);
        int done = 0;
        while (left > 10) {
            Talk.due(text("a>;w99;a<;a0").journey(), 4);
            Talk.due(x().row(1), 9);
            done++;
        }
        till(4);
        Talk.due(x().count(4), 2 + done * 101);
        Talk.due(x().count(9), 12);
        Talk.due(x().traveller(0, 2), (2 + done) * 9);
        Talk.due(x().traveller(0, 1), 999 - (2 + done) * 9);
        isUsedUp();
    }

    private void draws() {
        Talk.due(x().road(6), 1);
        Talk.due(text("1aeioua;2eeeeee;3iou;4ouou;12uu;34aa;1b;2ue;3oe;4a").words(), 10);
        Talk.due(text("0:999;5:999;2:999;3:999").travellers(), 4);
        Talk.due(text("a10=9;a21=9;a32=9;a43=9;a14=9;a25=9;a30=9;a45=9").errands(), 8);
        int first = x().years(7, 60);
        while (left > 4) {
            Talk.due(x().years(7, 60), first);
        }
        Talk.due(x().count(4), 0);
        Talk.due(x().count(5), 0);
        Talk.due(x().count(6), 0);
        Talk.due(x().count(9), 0);
        isUsedUp();
    }

    private void gives() {
        Talk.due(text("0:999;0:999").travellers(), 2);
        Talk.due(x().sheet(2, 2, 9999, 0), 2 * 9999);
        int to = 1;
        while (left > 3) {
            Talk.due(x().alms(1 - to, to, 9999), 9999);
            to = 1 - to;
        }
        // What is above 9999 is lost with the first one; then one has all.
        Talk.due(x().count(7), 9999);
        Talk.due(x().traveller(to, 1), 0);
        Talk.due(x().traveller(1 - to, 1), 9999);
        isUsedUp();
    }
}
