import java.lang.management.ManagementFactory;

/** All calls of a run live in one room: a long run of dear calls must make next to nothing. */
public final class RoomTest {
    private static final int CALLS = 512;
    private static final long BYTES_OF_AN_OBJECT = 60_000;
    private static final long BYTES_OF_THE_CALLS = 60_000;

    public static void main(String[] args) {
        com.sun.management.ThreadMXBean threads = (com.sun.management.ThreadMXBean) ManagementFactory.getThreadMXBean();
        long self = Thread.currentThread().getId();
        long made = 0;
        long calls = 0;
        // The first round loads classes, so that the second one alone is counted.
        for (int round = 0; round < 2; round++) {
            long a = threads.getThreadAllocatedBytes(self);
            TollOnVowels x = new TollOnVowels();
            long b = threads.getThreadAllocatedBytes(self);
            fill(x);
            for (int i = 0; i < CALLS; i++) {
                dear(x, i);
            }
            made = b - a;
            calls = threads.getThreadAllocatedBytes(self) - b;
        }
        System.out.println("an object takes " + made + " bytes, " + CALLS + " dear calls take " + calls);
        if (made > BYTES_OF_AN_OBJECT || calls > BYTES_OF_THE_CALLS) {
            System.out.println("that is too much");
            System.exit(1);
        }
    }

    private static void text(TollOnVowels x, String signs) {
        Talk.put(x, signs);
    }

    private static void fill(TollOnVowels x) {
        x.road(6);
        text(x, "1aeioua;2eeeeee;3iou;4ouou;12uu;34aa;1b;2ue;3oe;4a");
        x.words();
        text(x, "0:999;5:999;2:999;3:999");
        x.travellers();
        text(x, "a10=9;a21=9;a32=9;a43=9;a14=9;a25=9;a30=9;a45=9");
        x.errands();
        text(x, "((v+s*h-p)/(n+1)<(l*d))*9+(v+h)*2");
        x.rule();
    }

    private static void dear(TollOnVowels x, int i) {
        switch (i % 12) {
            case 0 -> x.trip(0, 12);
            case 1 -> x.haste(0);
            case 2 -> x.years(i, 60);
            case 3 -> x.greed(0);
            case 4 -> x.code(i % 7);
            case 5 -> {
                text(x, "33333");
                x.said();
            }
            case 6 -> {
                text(x, "123412341234");
                x.sentence(0);
            }
            case 7 -> {
                text(x, "a!;a>;a!;a>;a!;a>;b<;w9;b!;c1;c2;c3;d>;d<");
                x.journey();
            }
            case 8 -> {
                text(x, "((((v+1)*2)-3)<4)*9+s*h");
                x.law(5);
            }
            case 9 -> x.best(0);
            case 10 -> x.undo();
            default -> x.when(0, 0);
        }
    }
}
