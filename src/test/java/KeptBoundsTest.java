import java.io.IOException;

/** The bounds that promises 37 to 41 name (years, kept): a test for each sentence. */
public final class KeptBoundsTest extends Bounds {
    private static final int[] SEEDS = {0, 1, -1, 12345, -12345, LOW, HIGH, 987654321, 65536, -65536, 42, 7};

    public static void main(String[] args) throws IOException {
        run(KeptBoundsTest.class, 37, 38, 39, 40, 41);
    }

    // ---- years

    /** DRAWS as the document tells them, by numbers that have room enough. */
    private static final class Drawn {
        private long r;

        Drawn(int seed) {
            r = seed;
        }

        int of(int n) {
            r = (int) (r * 1103515245L + 12345L);
            long withoutSign = r < 0 ? r + 4294967296L : r;
            return (int) (withoutSign / 65536 % n);
        }
    }

    private static Talk drawnRoad() {
        Talk t = by("v+s+h/3", of(3, "1hello;1hm;2io;12aue;3ouzo", "0:90;1:60;2:0", "a10=5;a21=8;b31=20;a12=3;c22=1;b10=9"));
        t.x.pause(20);
        return t;
    }

    /** Does by walk(), say(), pause() what years() is said to draw, and compares. */
    private static void dueYears(int seed, int n) {
        Talk asked = drawnRoad();
        Talk t = drawnRoad();
        Drawn drawn = new Drawn(seed);
        int paid = 0;
        int failed = 0;
        for (int i = 0; i < n; i++) {
            int who = drawn.of(3);
            int what = drawn.of(4);
            int answer = what < 2 ? t.x.walk(who, 1 - what) : t.x.say(who, drawn.of(5));
            failed += answer < 0 ? 1 : 0;
            paid += what >= 2 && answer >= 0 ? answer : 0;
            t.x.pause(what < 2 && answer >= 0 ? 0 : 1);
        }
        due(t.x.count(4), 20 + n);
        due(asked.x.years(seed, n), Integer.bitCount(t.x.count(5)));
        asked.dueRow(paid, failed);
    }

    @Says(at = 37, words = "n HOURS (1 .. 60) from now:")
    static void yearsAreOneToSixtyHours() {
        dueYears(1, 1);
        dueYears(1, 2);
        dueYears(1, 59);
        dueYears(1, 60);
    }

    @Says(at = 37, words = "in each a DRAW of TRAVELLERS tells one, a DRAW of 4 what he does (0: walk() way 1, 1: way 0, else he says the WORD that a DRAW of WORDS tells);")
    static void yearsAreDrawnInThisOrder() {
        for (int seed : SEEDS) {
            dueYears(seed, 60);
        }
        for (int seed = 100; seed < 160; seed++) {
            dueYears(seed, 3);
        }
    }

    @Says(at = 37, words = "what can't be is not done;")
    static void whatCantBeDrawnIsNotDone() {
        // One STATION and no money: every thing fails, a walk as well as a WORD.
        for (int seed : SEEDS) {
            Talk t = of(1, "1a", "0:0", "a10=1");
            due(t.x.years(seed, 60), 0);
            t.dueRow(0, 60);
        }
        // With money for two WORDS no third is said.
        Talk t = of(1, "1u", "0:10", "a10=1");
        due(t.x.years(1, 60), 1);
        t.dueRow(10, 58);
    }

    @Says(at = 37, words = "the HOUR goes by once, whatever it was:")
    static void eachThingTakesOneHour() {
        // Neither a walk that can't be nor a WORD stops the clock: h tells when each WORD was said.
        for (int seed : SEEDS) {
            Talk t = by("h", of(1, "1a", "0:999", ""));
            Drawn drawn = new Drawn(seed);
            int paid = 0;
            int failed = 0;
            for (int i = 0; i < 60; i++) {
                drawn.of(1);
                boolean says = drawn.of(4) >= 2;
                if (says) {
                    drawn.of(1);
                }
                paid += says ? i % 24 : 0;
                failed += says ? 0 : 1;
            }
            due(t.x.years(seed, 60), 0);
            t.dueRow(paid, failed);
        }
        // A walk that can be takes one HOUR, not two.
        for (int seed : SEEDS) {
            dueYears(seed, 30);
        }
    }

    @Says(at = 37, words = "how many ERRANDS were done;")
    static void yearsTellHowManyErrandsWereDone() {
        Talk t = of(1, "1b", "0:0", times("a10=1;", 4) + "a20=1");
        due(t.x.years(1, 60), 4);
        t.x.say(0, 0);
        due(t.x.years(1, 60), 0);
        t.text("a10=1").errands();
        due(t.x.years(1, 60), 1);
        due(t.x.count(5), 15);
    }

    @Says(at = 37, words = "the ROW: TOLLS that were paid, how many things could not be.")
    static void yearsTellTollsAndWhatFailed() {
        Talk t = of(1, "1b", "0:0", "");
        Drawn drawn = new Drawn(5);
        int walks = 0;
        for (int i = 0; i < 60; i++) {
            drawn.of(1);
            if (drawn.of(4) < 2) {
                walks++;
            } else {
                drawn.of(1);
            }
        }
        due(walks > 0 && walks < 60, true);
        due(t.x.years(5, 60), 0);
        t.dueRow(0, walks);
        dueYears(5, 60);
    }

    @Says(at = 37, words = "-2: nobody, or no WORDS (asked first);")
    static void yearsOfNobodyOrWithoutWords() {
        for (int n : new int[] {1, 60, 0, 61, -1, LOW, HIGH}) {
            Twins.refuses(Talk::new, -2, x -> x.years(1, n));
            Twins.refuses(() -> words("1a"), -2, x -> x.years(1, n));
            Twins.refuses(() -> of(1, "", "0:1", ""), -2, x -> x.years(1, n));
        }
    }

    @Says(at = 37, words = "NONE: another n.")
    static void yearsOfAnotherNumber() {
        for (int wrong : new int[] {0, 61, -1, LOW, HIGH}) {
            Twins.refuses(-1, x -> x.years(1, wrong));
        }
    }

    @Says(at = 37, words = "A DRAW of n: R = R times 1103515245 + 12345 (as ints; R is seed at first), (R without sign, by 65536) % n.")
    static void drawsAreReckonedAsInts() {
        // With one TRAVELLER, one WORD and one HOUR the second number drawn alone tells what is done.
        int below = 0;
        for (int seed = -400; seed < 400; seed++) {
            int s = seed * 5000011;
            Drawn drawn = new Drawn(s);
            drawn.of(1);
            boolean walks = drawn.of(4) < 2;
            below += drawn.r < 0 ? 1 : 0;
            Talk t = of(1, "1b", "0:0", "a10=1");
            due(t.x.years(s, 1), walks ? 0 : 1);
            t.dueRow(0, walks ? 1 : 0);
        }
        due(below > 0, true);
        // Three TRAVELLERS: what is without sign is not what is with it, by 3.
        for (int seed : SEEDS) {
            dueYears(seed, 1);
            dueYears(seed, 10);
        }
    }

    // ---- keep, again

    @Says(at = 38, words = "HOUR, TRAVELLERS, what is done, THE BOOKS are kept under a number 0 .. 1: true.")
    static void twoCanBeKept() {
        Talk t = of(2, "1a", "0:9", "a10=1");
        due(t.x.keep(0), true);
        t.text("a0;a>;w5").journey();
        due(t.x.keep(1), true);
        t.text("a0;w50").journey();
        for (int round = 0; round < 2; round++) {
            due(t.x.again(0), true);
            due(t.x.count(4), 0);
            due(t.x.count(5), 0);
            due(t.x.count(6), 0);
            due(t.x.traveller(0, 0), 0);
            due(t.x.traveller(0, 1), 9);
            due(t.x.traveller(0, 2), 0);
            due(t.x.again(1), true);
            due(t.x.count(4), 6);
            due(t.x.count(5), 1);
            due(t.x.book(0, 0), 1);
            due(t.x.book(1, 0), 0);
            due(t.x.traveller(0, 0), 1);
            due(t.x.traveller(0, 1), 8);
            due(t.x.traveller(0, 2), 1);
        }
        // The later one is kept.
        t.x.pause(3);
        due(t.x.keep(0), true);
        t.x.pause(1);
        due(t.x.again(0), true);
        due(t.x.count(4), 9);
        // All that there can be.
        Talk full = of(6, "1aeiou", "0:99;1:99;4:99;5:99", times("d15=1;", 7) + "a10=1");
        full.text("a0;b0;c0;d0").journey();
        full.x.keep(1);
        full.x.sheet(2, 4, 50, 0);
        full.text("a>;b>;c<;d<;a0;b0;c0;d0").journey();
        due(full.x.again(1), true);
        int[] places = {0, 1, 4, 5};
        for (int who = 0; who < 4; who++) {
            due(full.x.traveller(who, 0), places[who]);
            due(full.x.traveller(who, 1), 84);
            due(full.x.traveller(who, 2), 15);
        }
        for (int s = 0; s < 6; s++) {
            for (int v = 0; v < 5; v++) {
                due(full.x.book(s, v), s == 2 || s == 3 ? 0 : 1);
            }
        }
        due(full.x.count(5), 255);
        due(full.x.count(4), 0);
    }

    @Says(at = 38, words = "Refused: others.")
    static void noOtherNumberIsKept() {
        for (int wrong : new int[] {-1, 2, LOW, HIGH}) {
            Twins.refuses(0, x -> x.keep(wrong) ? 1 : 0);
        }
        Talk t = new Talk();
        due(t.x.keep(2), false);
        due(t.x.again(0), false);
        due(t.x.again(1), false);
        due(t.x.again(2), false);
    }

    @Says(at = 39, words = "They are as they were kept under a number.")
    static void allIsAsItWasKept() {
        Talk t = Twins.busy();
        Talk as = Twins.busy();
        t.x.keep(1);
        t.text("a1;b4;w9;a>;b<").journey();
        t.x.sheet(2, 2, 1, 1);
        due(t.x.again(1), true);
        for (int who = 0; who < 2; who++) {
            for (int what = 0; what <= 4; what++) {
                due(t.x.traveller(who, what), as.x.traveller(who, what));
            }
        }
        for (int s = 0; s < 3; s++) {
            for (int v = 0; v < 5; v++) {
                due(t.x.book(s, v), as.x.book(s, v));
            }
        }
        due(t.x.count(4), as.x.count(4));
        due(t.x.count(5), as.x.count(5));
        // What is done from there on does not change what is kept.
        t.x.pause(9);
        due(t.x.again(1), true);
        due(t.x.count(4), as.x.count(4));
        // THE RULE, THE TEXT and the ROW are not kept.
        t.text("7").rule();
        t.x.toll(0, 0);
        t.text("w1");
        due(t.x.again(0), true);
        t.dueRow(0, 7, 0, 7, 0);
        due(t.x.count(11), 2);
        due(t.x.toll(0, 0), 14);
    }

    @Says(at = 39, words = "Refused: nothing kept,")
    static void nothingWasKept() {
        Twins.refuses(Talk::example, 0, x -> x.again(0) ? 1 : 0);
        Twins.refuses(Talk::example, 0, x -> x.again(1) ? 1 : 0);
        for (int wrong : new int[] {-1, 2, LOW, HIGH}) {
            Twins.refuses(0, x -> x.again(wrong) ? 1 : 0);
        }
        Talk one = Talk.example();
        one.x.keep(1);
        due(one.x.again(0), false);
        due(one.x.again(1), true);
        Talk other = Talk.example();
        other.x.keep(0);
        due(other.x.again(1), false);
        due(other.x.again(0), true);
    }

    /** Behind the call that is told neither number can be had again, till it is kept anew. */
    private static void comes(Twins.Ask call) {
        Talk t = Talk.example();
        t.x.keep(0);
        t.x.keep(1);
        due(call.of(t.x) > 0, true);
        due(t.x.again(0), false);
        due(t.x.again(1), false);
        due(t.x.keep(1), true);
        due(t.x.again(0), false);
        due(t.x.again(1), true);
    }

    /** Behind the call that is told both numbers can be had again. */
    private static void comesNot(Twins.Ask call) {
        Talk t = Talk.example();
        t.x.keep(0);
        t.x.pause(7);
        t.x.keep(1);
        call.of(t.x);
        due(t.x.again(0), true);
        due(t.x.count(4), 0);
        due(t.x.again(1), true);
        due(t.x.count(4), 7);
    }

    @Says(at = 39, words = "STATIONS, WORDS, TRAVELLERS or ERRANDS came (road(), words(), ..) since.")
    static void whatCameSince() {
        comes(x -> x.road(4));
        comes(x -> x.road(2));
        comes(x -> text(x, "1a").words());
        comes(x -> text(x, "0:1").travellers());
        comes(x -> text(x, "a00=1").errands());
        comesNot(x -> x.road(1));
        comesNot(x -> x.road(7));
        comesNot(x -> x.words());
        comesNot(x -> text(x, "1").words());
        comesNot(x -> x.travellers());
        comesNot(x -> text(x, "0").travellers());
        comesNot(x -> x.errands());
        comesNot(x -> text(x, "a").errands());
        comesNot(x -> text(x, "v").rule());
        comesNot(x -> x.sheet(2, 1, 1, 1));
        comesNot(x -> x.undo());
        comesNot(x -> x.years(1, 60));
        Twins.refuses(() -> {
            Talk t = Twins.busy();
            t.text("1a").words();
            t.x.pause(3);
            return t;
        }, 0, x -> x.again(0) ? 1 : 0);
    }

    // ---- count, row

    @Says(at = 40, words = "What 0: STATIONS, 1: WORDS, 2: TRAVELLERS, 3: ERRANDS, 4: HOUR,")
    static void countsOfWhatIsThere() {
        Talk t = of(6, times("1a;", 9) + "1a", "0:1;0:1;0:1;0:1", times("a10=1;", 7) + "a10=1");
        t.x.pause(99);
        t.x.pause(99);
        int[] want = {6, 10, 4, 8, 198};
        for (int what = 0; what <= 4; what++) {
            due(t.x.count(what), want[what]);
        }
    }

    @Says(at = 40, words = "5: ERRANDS that are done (bits), 6: VOWELS in all THE BOOKS, 7: PURSES in all,")
    static void countsOfWhatWasDone() {
        Talk t = of(6, "1aeiou;2uu", "0:999;5:999;3:999;2:999", "a20=1;b15=1;d12=1;a10=1");
        due(t.x.count(5), 0);
        due(t.x.count(6), 0);
        due(t.x.count(7), 4 * 999);
        t.x.say(0, 1);
        t.x.say(1, 0);
        t.x.say(2, 0);
        due(t.x.count(5), 3);
        due(t.x.count(6), 12);
        due(t.x.count(7), 4 * 999 - 10 - 15 - 15);
        t.x.sheet(2, 4, 9999, 0);
        due(t.x.count(7), 4 * 9999);
        // Each VOWEL of each STATION counts, from the first to the last.
        for (int s = 0; s < 6; s++) {
            for (int v = 0; v < 5; v++) {
                Talk one = of(6, "1" + "aeiou".charAt(v), s + ":9", "");
                one.x.say(0, 0);
                due(one.x.count(6), 1);
                due(one.x.book(s, v), 1);
            }
        }
    }

    @Says(at = 40, words = "8: compounds (bits of WORDS), 9: what can be undone, 10: numbers of the ROW, 11: signs of THE TEXT.")
    static void countsOfTheRest() {
        Talk t = words("11a;2a;34a;5a;66a;7a;8a;9a;0a;90a");
        due(t.x.count(8), 1 + 4 + 16 + 512);
        due(t.x.count(9), 0);
        t.x.pause(1);
        due(t.x.count(9), 1);
        due(t.x.count(10), 0);
        t.x.toll(0, 0);
        due(t.x.count(10), 5);
        t.x.differ(0, 1);
        due(t.x.count(10), 1);
        due(t.text("222222222222").sentence(0), 12);
        due(t.x.count(10), 12);
        due(t.x.count(11), 0);
        for (int i = 1; i <= 20; i++) {
            t.x.sign(0);
            due(t.x.count(11), 4 * i);
        }
    }

    @Says(at = 40, words = "NONE for another what.")
    static void countsOfNothing() {
        for (int wrong : new int[] {-1, 12, LOW, HIGH}) {
            Twins.refuses(-1, x -> x.count(wrong));
        }
    }

    @Says(at = 41, words = "Number i of the ROW.")
    static void eachNumberOfTheRow() {
        Talk t = words("1a;2e;3i;4o;5u;6aa");
        due(t.text("123456654321").sentence(0), 34);
        int[] want = {0, 1, 2, 3, 4, 5, 5, 4, 3, 2, 1, 0};
        for (int i = 0; i < 12; i++) {
            due(t.x.row(i), want[i]);
        }
        dueNoSuch(() -> t.x.row(12));
    }

    @Says(at = 41, words = "NoSuchElementException: none such.")
    static void noSuchNumberOfTheRow() {
        for (int wrong : new int[] {-1, 5, LOW, HIGH}) {
            Twins.refuses(Twins.NO_SUCH, x -> x.row(wrong));
        }
        dueNoSuch(() -> new TollOnVowels().row(0));
        // What was told ahead of it is no number of a shorter one.
        Talk t = words("1a");
        t.x.toll(0, 0);
        t.x.differ(0, 0);
        due(t.x.row(0), 0);
        dueNoSuch(() -> t.x.row(1));
        due(t.text("01000").said(), 0);
        dueNoSuch(() -> t.x.row(0));
    }
}
