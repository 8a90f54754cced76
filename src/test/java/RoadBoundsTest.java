import java.io.IOException;

/** The bounds that promises 14 to 20 name (on the road): a test for each sentence. */
public final class RoadBoundsTest extends Bounds {
    public static void main(String[] args) throws IOException {
        run(RoadBoundsTest.class, 14, 15, 16, 17, 18, 19, 20);
    }

    /** As busy, but TRAVELLER 0 is at the last STATION and 1 at the first. */
    private static Talk atBothEnds() {
        Talk t = Twins.busy();
        due(t.x.walk(0, 1), 2);
        due(t.x.walk(1, 0), 0);
        return t;
    }

    /** As busy, but with no money. */
    private static Talk poor() {
        Talk t = Twins.busy();
        due(t.x.sheet(3, 0, 0, 0), -3);
        return t;
    }

    // ---- toll

    @Says(at = 14, words = "THE TOLL of a WORD at a STATION now;")
    static void aTollIsOfThisHour() {
        Talk t = by("h*2+s*30", of(3, "1ab", "", ""));
        due(t.x.toll(0, 0), 0);
        due(t.x.toll(0, 2), 60);
        t.x.pause(23);
        due(t.x.toll(0, 0), 46);
        due(t.x.toll(0, 2), 99);
        t.x.pause(1);
        due(t.x.toll(0, 2), 60);
    }

    @Says(at = 14, words = "the ROW: what of it is by each VOWEL (five numbers).")
    static void aTollTellsFiveNumbers() {
        Talk t = words("1bcd;1aaeuou;1u");
        due(t.x.toll(0, 0), 0);
        t.dueRow(0, 0, 0, 0, 0);
        due(t.x.toll(1, 0), 18);
        t.dueRow(2, 2, 0, 4, 10);
        due(t.x.toll(2, 0), 5);
        t.dueRow(0, 0, 0, 0, 5);
    }

    @Says(at = 14, words = "NONE: none such.")
    static void aTollOfNoWordOrStation() {
        for (int wrong : new int[] {-1, 5, LOW, HIGH}) {
            Twins.refuses(-1, x -> x.toll(wrong, 0));
        }
        for (int wrong : new int[] {-1, 3, LOW, HIGH}) {
            Twins.refuses(-1, x -> x.toll(0, wrong));
        }
        due(Twins.busy().x.toll(4, 2), 25);
        due(new Talk().x.toll(0, 0), -1);
    }

    // ---- walk

    @Says(at = 15, words = "A TRAVELLER goes to the next STATION (way 1) or the one ahead (0): where he is then;")
    static void aTravellerGoesByOneStation() {
        Talk t = of(3, "", "1:1;1:1", "");
        due(t.x.walk(0, 1), 2);
        due(t.x.traveller(0, 0), 2);
        due(t.x.traveller(1, 0), 1);
        due(t.x.walk(1, 0), 0);
        due(t.x.traveller(0, 0), 2);
        due(t.x.traveller(1, 0), 0);
    }

    @Says(at = 15, words = "HOUR is 1 more.")
    static void anHourGoesByWithAWalk() {
        Talk t = of(2, "", "0:1", "");
        t.x.walk(0, 1);
        due(t.x.count(4), 1);
        t.x.walk(0, 1);
        due(t.x.count(4), 1);
        t.x.walk(0, 0);
        due(t.x.count(4), 2);
        t.x.walk(0, 0);
        t.x.walk(0, 2);
        due(t.x.count(4), 2);
    }

    @Says(at = 15, words = "-2: there is none;")
    static void noStationIsBeyondTheEnds() {
        Talk t = of(1, "", "0:1", "");
        due(t.x.walk(0, 1), -2);
        due(t.x.walk(0, 0), -2);
        Talk u = of(6, "", "5:1;0:1", "");
        due(u.x.walk(0, 1), -2);
        due(u.x.walk(1, 0), -2);
        due(u.x.walk(0, 0), 4);
        due(u.x.walk(1, 1), 1);
        Twins.refuses(RoadBoundsTest::atBothEnds, -2, x -> x.walk(0, 1));
        Twins.refuses(RoadBoundsTest::atBothEnds, -2, x -> x.walk(1, 0));
    }

    @Says(at = 15, words = "NONE: others.")
    static void nobodyWalksAndNoOtherWay() {
        for (int wrong : new int[] {-1, 2, LOW, HIGH}) {
            Twins.refuses(-1, x -> x.walk(wrong, 1));
            Twins.refuses(-1, x -> x.walk(0, wrong));
            // Neither where a walk could not be anyhow.
            Twins.refuses(RoadBoundsTest::atBothEnds, -1, x -> x.walk(1, wrong));
        }
        due(new Talk().x.walk(0, 0), -1);
    }

    // ---- pause

    @Says(at = 16, words = "n HOURS (0 .. 99) go by: HOUR.")
    static void aPauseIsZeroTo99Hours() {
        Talk t = new Talk();
        due(t.x.pause(0), 0);
        due(t.x.pause(99), 99);
        due(t.x.pause(1), 100);
        due(t.x.pause(0), 100);
        due(t.x.count(4), 100);
    }

    @Says(at = 16, words = "NONE: another n.")
    static void aPauseOfAnotherNumber() {
        for (int wrong : new int[] {-1, 100, LOW, HIGH}) {
            Twins.refuses(-1, x -> x.pause(wrong));
        }
    }

    // ---- say

    @Says(at = 17, words = "A TRAVELLER says a WORD: TOLL;")
    static void sayingAnswersTheToll() {
        Talk t = by("v+h", of(1, "1a;1u;1b", "0:50", ""));
        due(t.x.say(0, 2), 0);
        due(t.x.say(0, 1), 4);
        t.x.pause(3);
        due(t.x.say(0, 0), 3);
        due(t.x.traveller(0, 1), 43);
        due(t.x.count(4), 3);
    }

    @Says(at = 17, words = "the ROW: ERRANDS that are done by it (bits).")
    static void sayingTellsWhatItDoes() {
        Talk t = of(1, "1b;2b;3b", "0:0;0:0", "a10=1;a20=1;b10=1;a10=1;a20=1;b20=1;b10=1;a10=1");
        due(t.x.say(0, 0), 0);
        t.dueRow(1 + 8 + 128);
        due(t.x.say(0, 0), 0);
        t.dueRow(0);
        due(t.x.say(0, 2), 0);
        t.dueRow(0);
        due(t.x.say(1, 1), 0);
        t.dueRow(32);
    }

    @Says(at = 17, words = "-2: PURSE is less;")
    static void whoHasLessIsSilent() {
        Talk t = of(1, "1u", "0:5;0:4", "a10=1;b10=1");
        due(t.x.say(1, 0), -2);
        due(t.x.say(0, 0), 5);
        due(t.x.traveller(0, 1), 0);
        due(t.x.say(0, 0), -2);
        due(t.x.count(5), 1);
        Talk u = of(1, "1b", "0:0", "");
        due(u.x.say(0, 0), 0);
        Twins.refuses(RoadBoundsTest::poor, -2, x -> x.say(1, 4));
        Twins.refuses(RoadBoundsTest::poor, -2, x -> x.say(0, 0));
    }

    @Says(at = 17, words = "NONE: none such.")
    static void nobodySaysAndNoSuchWord() {
        for (int wrong : new int[] {-1, 2, LOW, HIGH}) {
            Twins.refuses(-1, x -> x.say(wrong, 0));
        }
        for (int wrong : new int[] {-1, 5, LOW, HIGH}) {
            Twins.refuses(-1, x -> x.say(0, wrong));
            Twins.refuses(RoadBoundsTest::poor, -1, x -> x.say(0, wrong));
        }
        due(of(1, "", "0:1", "").x.say(0, 0), -1);
        due(words("1b").x.say(0, 0), -1);
    }

    // ---- alms

    @Says(at = 18, words = "One gives n (1 .. 9999) to another one at the same STATION: PURSE of that one then")
    static void almsGoFromOneToAnother() {
        Talk t = of(1, "", "0:20;0:5", "");
        due(t.x.alms(0, 1, 1), 6);
        due(t.x.traveller(0, 1), 19);
        due(t.x.alms(1, 0, 6), 25);
        due(t.x.traveller(1, 1), 0);
        due(t.x.traveller(0, 2), 0);
        due(t.x.traveller(1, 2), 0);
        due(t.x.count(4), 0);
        t.x.sheet(2, 2, 9999, -9999);
        due(t.x.alms(0, 1, 9999), 9999);
        due(t.x.traveller(0, 1), 0);
    }

    @Says(at = 18, words = "(9999 at most).")
    static void aPurseThatIsFullTakesNoMore() {
        Talk t = of(1, "", "0:1;0:1", "");
        t.x.sheet(2, 2, 100, 9899);
        due(t.x.alms(0, 1, 1), 9999);
        due(t.x.traveller(0, 1), 99);
        t.x.sheet(2, 2, 100, 9889);
        due(t.x.alms(0, 1, 10), 9999);
        t.x.sheet(2, 2, 100, 9888);
        due(t.x.alms(0, 1, 10), 9998);
        t.x.sheet(2, 2, 9999, 0);
        due(t.x.alms(0, 1, 9999), 9999);
        due(t.x.traveller(0, 1), 0);
        due(t.x.count(7), 9999);
    }

    @Says(at = 18, words = "-2: he has less;")
    static void whoHasLessGivesNothing() {
        Talk t = of(1, "", "0:20;0:5", "");
        due(t.x.alms(0, 1, 21), -2);
        due(t.x.alms(0, 1, 20), 25);
        due(t.x.alms(0, 1, 1), -2);
        Twins.refuses(RoadBoundsTest::poor, -2, x -> x.alms(0, 1, 1));
        Twins.refuses(-2, x -> x.alms(0, 1, 9999));
    }

    @Says(at = 18, words = "-3: not at one STATION;")
    static void almsNeedOneStation() {
        Talk t = of(3, "", "0:20;1:5;0:5", "");
        due(t.x.alms(0, 1, 1), -3);
        due(t.x.alms(0, 2, 1), 6);
        t.x.walk(0, 1);
        due(t.x.alms(0, 1, 1), 6);
        due(t.x.alms(0, 2, 1), -3);
        Twins.refuses(RoadBoundsTest::atBothEnds, -3, x -> x.alms(0, 1, 1));
    }

    @Says(at = 18, words = "NONE: others, like ones")
    static void almsToOneselfOrOfAnotherNumber() {
        for (int wrong : new int[] {-1, 2, LOW, HIGH}) {
            Twins.refuses(-1, x -> x.alms(wrong, 0, 1));
            Twins.refuses(-1, x -> x.alms(0, wrong, 1));
        }
        for (int wrong : new int[] {0, -1, 10000, LOW, HIGH}) {
            Twins.refuses(-1, x -> x.alms(0, 1, wrong));
        }
        Twins.refuses(-1, x -> x.alms(0, 0, 1));
        Twins.refuses(-1, x -> x.alms(1, 1, 1));
        due(new Talk().x.alms(0, 1, 1), -1);
    }

    @Says(at = 18, words = "(asked: NONE, -3, -2).")
    static void almsAreAskedInOrder() {
        Talk t = of(2, "", "0:0;1:0;0:0", "");
        due(t.x.alms(0, 1, 0), -1);
        due(t.x.alms(0, 1, 10000), -1);
        due(t.x.alms(0, 3, 1), -1);
        due(t.x.alms(0, 0, 1), -1);
        due(t.x.alms(0, 1, 1), -3);
        due(t.x.alms(0, 2, 1), -2);
        due(t.x.alms(0, 2, 0), -1);
    }

    // ---- journey

    @Says(at = 19, words = "THE TEXT tells A JOURNEY (an empty one: nothing), ACTS with ; between:")
    static void anEmptyJourney() {
        Talk t = Twins.busy();
        due(t.text("").journey(), 0);
        t.dueRow(0, 0);
        due(t.x.count(9), 4);
        due(t.text("w1").journey(), 1);
        due(t.text("w1;w1").journey(), 2);
        due(t.x.count(11), 0);
        due(t.x.count(4), 7);
        due(t.text("w1,w1").journey(), -3);
        due(t.text("w1w1").journey(), -3);
    }

    @Says(at = 19, words = "a letter a .. d,")
    static void actsOfAToD() {
        Talk t = of(1, "1b", "0:1;0:1;0:1;0:1", "");
        due(t.text("a0;b0;c0;d0").journey(), 4);
        due(t.text("e0").journey(), -1);
        due(t.text("`0").journey(), -1);
        due(t.text("A0").journey(), -1);
        // A letter of nobody can stand there; what he does can't be.
        Talk two = of(1, "1b", "0:1;0:1", "");
        due(two.text("b0;c0;a0").journey(), 1);
        two.dueRow(1, 0);
        for (String act : new String[] {"c>", "c<", "c0", "c!", "d>", "d<", "d0", "d!"}) {
            due(two.text(act).journey(), 0);
            two.dueRow(1, 0);
        }
    }

    @Says(at = 19, words = "then > (walk() way 1), < (way 0),")
    static void actsOfWalking() {
        Talk t = of(3, "", "1:1", "");
        due(t.text("a>").journey(), 1);
        due(t.x.traveller(0, 0), 2);
        due(t.x.count(4), 1);
        due(t.text("a<;a<").journey(), 2);
        due(t.x.traveller(0, 0), 0);
        due(t.x.count(4), 3);
        t.dueRow(0, 0);
    }

    @Says(at = 19, words = "or a digit (say() that WORD),")
    static void actsOfSaying() {
        Talk t = of(1, times("1b;", 9) + "2u", "0:9", "a10=1;a20=1");
        due(t.text("a9").journey(), 1);
        t.dueRow(0, 5);
        due(t.x.count(5), 2);
        due(t.text("a0").journey(), 1);
        t.dueRow(0, 0);
        due(t.x.count(5), 3);
        due(t.text("a9").journey(), 0);
        t.dueRow(1, 0);
        due(t.text("a/").journey(), -2);
        due(t.text("a:").journey(), -2);
        Talk few = of(1, times("1b;", 8) + "1b", "0:9", "");
        due(few.text("a8;a9").journey(), 1);
        few.dueRow(1, 0);
    }

    @Says(at = 19, words = "or ! (he says the cheapest WORD, as cheapest() tells, for the MEANING of his first ERRAND there that is not done);")
    static void actsOfSayingTheCheapest() {
        Talk t = of(2, "1u;31a;1a;2e;2i", "0:99;0:99", "b20=1;a11=1;a20=1;a10=1");
        due(t.text("a!").journey(), 1);
        t.dueRow(0, 2);
        due(t.x.count(5), 4);
        due(t.text("a!").journey(), 1);
        t.dueRow(0, 1);
        due(t.x.count(5), 4 + 8);
        due(t.x.book(0, 0), 1);
        due(t.text("a!").journey(), 0);
        t.dueRow(1, 0);
        due(t.text("a>;a!;a!").journey(), 2);
        t.dueRow(1, 1);
        due(t.x.count(5), 2 + 4 + 8);
        // The first one there has no WORD, though the second has.
        Talk u = of(1, "1b", "0:9", "a20=1;a10=1");
        due(u.text("a!").journey(), 0);
        u.dueRow(1, 0);
        // Of as cheap ones the first; the cheapest of this HOUR.
        Talk v = of(1, "1a;1e;1e", "0:99", "a10=1");
        by("(v=0)*h*9+(v=1)*5", v);
        due(v.text("w1;a!").journey(), 2);
        v.dueRow(0, 5);
        due(v.x.book(0, 1), 1);
        // The least TOLL, however many VOWELS it is of.
        Talk many = of(1, "1o;1aaa", "0:99", "a10=1");
        due(many.text("a!").journey(), 1);
        many.dueRow(0, 3);
        Talk few = of(1, "1aaa;1e", "0:99", "a10=1");
        due(few.text("a!").journey(), 1);
        few.dueRow(0, 2);
        // He has not the money for it.
        Talk w = of(1, "1u", "0:4", "a10=1");
        due(w.text("a!").journey(), 0);
        w.dueRow(1, 0);
    }

    @Says(at = 19, words = "or w and a number (1 or 2 digits; pause()):")
    static void actsOfWaiting() {
        Talk t = new Talk();
        due(t.text("w0").journey(), 1);
        due(t.x.count(4), 0);
        due(t.text("w9;w99;w00;w07").journey(), 4);
        due(t.x.count(4), 115);
        due(t.text("w").journey(), -2);
        due(t.text("w;").journey(), -2);
        due(t.text("wx").journey(), -2);
        due(t.text("w100").journey(), -4);
        due(t.text("w-1").journey(), -2);
        due(t.x.count(4), 115);
    }

    @Says(at = 19, words = "they are done one by one, till one can't be (it answers below 0; no such ERRAND, no WORD for it): how many were done;")
    static void actsAreDoneTillOneCantBe() {
        String[] stuck = {"a<", "b4", "c>", "a5", "a!", "b!"};
        for (String act : stuck) {
            Talk t = of(2, "1b;2b;2b;2b;2u", "0:0;0:0", "b70=1;a11=1");
            due(t.text("w3;a0;" + act + ";w50;a0;a>").journey(), 2);
            t.dueRow(1, 0);
            due(t.x.count(4), 3);
            due(t.x.traveller(0, 0), 0);
        }
        Talk t = of(2, "1b", "0:0", "");
        due(t.text("a0;a>;a>").journey(), 2);
        t.dueRow(1, 0);
        due(t.x.traveller(0, 0), 1);
        due(t.x.count(4), 1);
        // Where one was stuck, the next journey goes on.
        due(t.text("a<").journey(), 1);
        t.dueRow(0, 0);
    }

    @Says(at = 19, words = "the ROW: 1 if one could not be, else 0; TOLLS that were paid.")
    static void aJourneyTellsTollsThatWerePaid() {
        Talk t = of(2, "1a;1u", "1:15;0:1", "");
        due(t.text("a1;b0;a1;a<").journey(), 4);
        t.dueRow(0, 11);
        due(t.x.traveller(0, 2), 10);
        due(t.text("a1;b0;a1").journey(), 1);
        t.dueRow(1, 5);
        due(t.text("a1").journey(), 0);
        t.dueRow(1, 0);
        due(t.text("w7").journey(), 1);
        t.dueRow(0, 0);
    }

    @Says(at = 19, words = "-1 - p: the sign at p can't stand there (as words();")
    static void aJourneyFailsAtItsFirstWrongSign() {
        String[] bad = {"x", ">", "<", "!", "0", "9;a>", "e>", "a", "a;", "aa", "a>>", "a>;", ";", "w", "w;", "w123", "w1;", "a>;b", "a10", "W1", "a>;;a>", "a!?", "a>;w"};
        int[] at = {0, 0, 0, 0, 0, 0, 0, 1, 1, 1, 2, 3, 0, 1, 1, 3, 3, 4, 2, 0, 3, 2, 4};
        for (int i = 0; i < bad.length; i++) {
            Twins.refusesText(bad[i], -1 - at[i], x -> x.journey());
        }
        // What stood behind the end is not there.
        Talk t = of(2, "1b", "0:0", "");
        t.x.sign(0x613e3b77);
        t.x.end(1);
        due(t.x.journey(), -2);
        t.x.sign(0x77393b77);
        t.x.end(1);
        due(t.x.journey(), -2);
    }

    @Says(at = 19, words = "60 signs);")
    static void aJourneyOfMoreThan60Signs() {
        String sixty = times("w0;", 19) + "w11";
        due(new Talk().text(sixty).journey(), 20);
        for (String more : new String[] {"1", ";", ";w1", "?", ";w1;w1"}) {
            due(new Talk().text(sixty + more).journey(), -61);
        }
        due(new Talk().text(times("w0;", 20)).journey(), -61);
        due(new Talk().text(times("w0;", 20) + "w0").journey(), -61);
        due(new Talk().text(times("w00;", 15)).journey(), -61);
        due(new Talk().text(times("w00;", 14) + "w001").journey(), -60);
        due(new Talk().text(times("w0;", 19) + "w0?w0").journey(), -60);
        due(new Talk().text(times("w0;", 19) + "wx1;w").journey(), -59);
        Twins.refusesText(sixty + ";w1", -61, x -> x.journey());
    }

    @Says(at = 19, words = "nothing is done then.")
    static void nothingIsDoneOfAJourneyThatCantBeRead() {
        Talk t = Twins.busy();
        t.dueRow(0, 0, 0, 16, 9);
        due(t.text("w9;a1;a>;b1;a!?").journey(), -15);
        t.dueRow(0, 0, 0, 16, 9);
        due(t.x.count(4), 4);
        due(t.x.count(9), 4);
        Twins.refusesText("w9;a1;a>;b1;a!?", -15, x -> x.journey());
    }

    // ---- undo

    @Says(at = 20, words = "The latest walk(), pause(), say(), alms(), journey()")
    static void eachOfFiveIsUndone() {
        Talk t = Talk.example();
        t.x.walk(0, 1);
        t.x.pause(2);
        t.x.say(0, 3);
        t.x.alms(0, 1, 2);
        t.text("a0;w3").journey();
        due(t.x.count(9), 5);
        int[][] want = {{3, 1, 10, 11, 10, 8, 3}, {3, 1, 12, 9, 10, 8, 3}, {3, 1, 20, 9, 0, 0, 0}, {1, 1, 20, 9, 0, 0, 0}, {0, 0, 20, 9, 0, 0, 0}};
        for (int i = 0; i < want.length; i++) {
            due(t.x.undo(), 4 - i);
            due(t.x.count(4), want[i][0]);
            due(t.x.traveller(0, 0), want[i][1]);
            due(t.x.traveller(0, 1), want[i][2]);
            due(t.x.traveller(1, 1), want[i][3]);
            due(t.x.count(5), want[i][4]);
            due(t.x.traveller(0, 2), want[i][5]);
            due(t.x.count(6), want[i][6]);
        }
    }

    @Says(at = 20, words = "The latest walk(), pause(), say(), alms(), journey()")
    static void whatAnswersZeroIsUndone() {
        Talk t = of(2, "1b", "1:5;1:0", "a11=1");
        due(t.x.walk(0, 0), 0);
        due(t.x.count(9), 1);
        due(t.x.undo(), 0);
        due(t.x.traveller(0, 0), 1);
        due(t.x.say(0, 0), 0);
        due(t.x.count(9), 1);
        due(t.x.undo(), 0);
        due(t.x.count(5), 0);
    }

    @Says(at = 20, words = "(of 12 that are kept, the latest ones;")
    static void twelveStayWhereACallIsRefused() {
        Twins.Ask[] calls = {x -> x.walk(0, 1), x -> x.say(0, 0), x -> x.pause(100), x -> x.pause(0), x -> x.alms(0, 1, 1),
            x -> text(x, "a>;w9").journey(), x -> text(x, "?").journey(), x -> x.journey(), x -> x.years(1, 60)};
        for (int many = 11; many <= 26; many++) {
            for (Twins.Ask call : calls) {
                Talk t = of(1, "1u", "0:0;0:0", "");
                for (int i = 1; i <= many; i++) {
                    t.x.pause(i);
                }
                call.of(t.x);
                int hour = many * (many + 1) / 2;
                due(t.x.count(4), hour);
                for (int i = many; i > Math.max(0, many - 12); i--) {
                    due(t.x.undo() >= 0, true);
                    hour -= i;
                    due(t.x.count(4), hour);
                }
                due(t.x.undo(), -1);
            }
        }
    }

    @Says(at = 20, words = "(of 12 that are kept, the latest ones;")
    static void twelveCanBeUndone() {
        Talk t = new Talk();
        for (int i = 1; i <= 12; i++) {
            t.x.pause(i);
            due(t.x.count(9), i);
        }
        t.x.pause(13);
        due(t.x.count(9), 12);
        int hour = 91;
        for (int i = 13; i >= 2; i--) {
            due(t.x.count(4), hour);
            due(t.x.undo(), i - 2);
            hour -= i;
        }
        due(t.x.count(4), 1);
        due(t.x.undo(), -1);
        due(t.x.count(4), 1);
        // Behind some that were undone there is room again, wherever the list began.
        for (int i = 0; i < 30; i++) {
            t.x.pause(1);
        }
        for (int i = 0; i < 5; i++) {
            t.x.undo();
        }
        due(t.x.count(9), 7);
        for (int i = 8; i <= 12; i++) {
            t.x.pause(9);
            due(t.x.count(9), i);
        }
        t.x.pause(9);
        due(t.x.count(9), 12);
        due(t.x.count(4), 1 + 25 + 54);
        for (int left = 11; left >= 6; left--) {
            due(t.x.undo(), left);
            due(t.x.count(4), 26 + 9 * (left - 6));
        }
        for (int left = 5; left >= 0; left--) {
            due(t.x.undo(), left);
            due(t.x.count(4), 20 + left);
        }
        due(t.x.undo(), -1);
    }

    @Says(at = 20, words = "such as were done;")
    static void whatWasNotDoneIsNotUndone() {
        Talk t = of(1, "1u", "0:1;0:1", "");
        t.x.pause(5);
        due(t.x.walk(0, 1), -2);
        due(t.x.walk(0, 2), -1);
        due(t.x.pause(100), -1);
        due(t.x.pause(-1), -1);
        due(t.x.say(0, 0), -2);
        due(t.x.say(0, 1), -1);
        due(t.x.alms(0, 1, 2), -2);
        due(t.x.alms(0, 0, 1), -1);
        due(t.text("?").journey(), -1);
        due(t.x.count(9), 1);
        due(t.x.undo(), 0);
        due(t.x.count(4), 0);
    }

    @Says(at = 20, words = "pause() of 1 and more,")
    static void aPauseOfNothingIsNotUndone() {
        Talk t = new Talk();
        t.x.pause(0);
        due(t.x.count(9), 0);
        due(t.x.undo(), -1);
        t.x.pause(1);
        t.x.pause(0);
        due(t.x.count(9), 1);
        due(t.x.undo(), 0);
        due(t.x.count(4), 0);
    }

    @Says(at = 20, words = "journey() of which one ACT was done, as one)")
    static void aJourneyIsUndoneAsOne() {
        Talk t = of(2, "1a", "0:5", "a10=1");
        due(t.text("a>;a>").journey(), 1);
        due(t.x.count(9), 1);
        due(t.text("a0;w5;a<;a!").journey(), 4);
        due(t.x.count(9), 2);
        due(t.text("a<").journey(), 0);
        due(t.text("").journey(), 0);
        due(t.x.count(9), 2);
        due(t.x.undo(), 1);
        due(t.x.count(4), 1);
        due(t.x.traveller(0, 0), 1);
        due(t.x.traveller(0, 1), 5);
        due(t.x.count(5), 0);
        due(t.x.count(6), 0);
        due(t.x.undo(), 0);
        due(t.x.count(4), 0);
        due(t.x.traveller(0, 0), 0);
        // One that changes nothing was done, too.
        due(t.text("w0").journey(), 1);
        due(t.x.count(9), 1);
        due(t.x.undo(), 0);
    }

    @Says(at = 20, words = "is undone (HOUR, TRAVELLERS, what is done, THE BOOKS are as ahead of it): how many are left that can be.")
    static void undoneIsAsAheadOfIt() {
        Talk t = of(6, "1a;2aeiou", "0:99;0:99;5:99;5:99", "a10=1;d25=1");
        t.text("a>;b>;a>;c<").journey();
        t.x.sheet(2, 4, 50, 1);
        int before = t.x.count(4);
        due(t.text("a1;b1;c1;d1;w99;a0;d<").journey(), 7);
        due(t.x.count(5), 2);
        due(t.x.count(6), 21);
        due(t.x.undo(), 1);
        due(t.x.count(4), before);
        due(t.x.count(5), 0);
        due(t.x.count(6), 0);
        int[] places = {2, 1, 4, 5};
        for (int who = 0; who < 4; who++) {
            due(t.x.traveller(who, 0), places[who]);
            due(t.x.traveller(who, 1), 50 + who);
            due(t.x.traveller(who, 2), 0);
        }
        for (int s = 0; s < 6; s++) {
            for (int v = 0; v < 5; v++) {
                due(t.x.book(s, v), 0);
            }
        }
        // THE RULE, THE TEXT, the ROW, what is kept stay.
        t.text("7").rule();
        t.x.keep(0);
        t.x.toll(0, 0);
        t.text("w9");
        due(t.x.undo(), 0);
        t.dueRow(7, 0, 0, 0, 0);
        due(t.x.count(11), 2);
        due(t.x.toll(0, 0), 7);
        due(t.x.again(0), true);
        due(t.x.traveller(0, 0), 2);
    }

    @Says(at = 20, words = "Refused: none.")
    static void nothingIsLeftToUndo() {
        due(new Talk().x.undo(), -1);
        Twins.refuses(() -> {
            Talk t = Twins.busy();
            while (t.x.count(9) > 0) {
                t.x.undo();
            }
            return t;
        }, -1, x -> x.undo());
    }

    /** Behind the call that is told nothing can be undone, and what was done stays. */
    private static void forgets(Twins.Ask call) {
        Talk t = Talk.example();
        t.x.keep(0);
        t.x.pause(5);
        due(t.x.count(9), 1);
        call.of(t.x);
        due(t.x.count(9), 0);
        due(t.x.undo(), -1);
    }

    @Says(at = 20, words = "(road(), words(), travellers(), errands(), again() forget them,")
    static void whatComesForgets() {
        forgets(x -> x.road(4));
        forgets(x -> x.road(2));
        forgets(x -> text(x, "1a").words());
        forgets(x -> text(x, "0:1").travellers());
        forgets(x -> text(x, "a00=1").errands());
        forgets(x -> x.again(0) ? 1 : 0);
    }

    /** Behind the call that is told what was done can be undone as ahead of it. */
    private static void keepsWhatCanBeUndone(Twins.Ask call) {
        Talk t = Talk.example();
        t.x.keep(0);
        t.x.pause(5);
        call.of(t.x);
        due(t.x.count(9), 1);
        due(t.x.undo(), 0);
        due(t.x.count(4), 0);
    }

    @Says(at = 20, words = "if they are not refused;")
    static void refusedCallsForgetNothing() {
        keepsWhatCanBeUndone(x -> x.road(0));
        keepsWhatCanBeUndone(x -> x.road(1));
        keepsWhatCanBeUndone(x -> x.road(7));
        keepsWhatCanBeUndone(x -> text(x, "1").words());
        keepsWhatCanBeUndone(x -> text(x, "0").travellers());
        keepsWhatCanBeUndone(x -> text(x, "c").errands());
        keepsWhatCanBeUndone(x -> x.again(1) ? 1 : 0);
        keepsWhatCanBeUndone(x -> x.again(2) ? 1 : 0);
        // Neither do those that the document does not name.
        keepsWhatCanBeUndone(x -> text(x, "v").rule());
        keepsWhatCanBeUndone(x -> text(x, "").rule());
        keepsWhatCanBeUndone(x -> x.keep(0) ? 1 : 0);
        keepsWhatCanBeUndone(x -> x.sheet(2, 2, 5, 5));
        keepsWhatCanBeUndone(x -> x.years(1, 60));
    }

    @Says(at = 20, words = "those that read an empty text do not.)")
    static void emptyTextsForgetNothing() {
        keepsWhatCanBeUndone(x -> x.words());
        keepsWhatCanBeUndone(x -> x.travellers());
        keepsWhatCanBeUndone(x -> x.errands());
        keepsWhatCanBeUndone(x -> x.journey());
    }
}
