import java.io.IOException;

/** The bounds that promises 1 to 13 name (words, travellers, errands): a test for each sentence. */
public final class TextsBoundsTest extends Bounds {
    public static void main(String[] args) throws IOException {
        run(TextsBoundsTest.class, 1, 2, 3, 4, 5, 6, 7, 8, 9, 10, 11, 12, 13);
    }

    // ---- a new object, sign, end

    @Says(at = 1, words = "One STATION; no WORDS, nobody.")
    static void aNewObjectIsEmpty() {
        Talk t = new Talk();
        for (int what = 0; what <= 11; what++) {
            due(t.x.count(what), what == 0 ? 1 : 0);
        }
        for (int v = 0; v < 5; v++) {
            int vowel = v;
            due(t.x.book(0, v), 0);
            dueNoSuch(() -> t.x.book(1, vowel));
        }
        dueNoSuch(() -> t.x.word(0, 0));
        dueNoSuch(() -> t.x.traveller(0, 0));
        dueNoSuch(() -> t.x.errand(0, 0));
        dueNoSuch(() -> t.x.row(0));
        due(t.x.undo(), -1);
        due(t.x.again(0), false);
        due(t.x.again(1), false);
        due(t.x.end(1), false);
    }

    @Says(at = 2, words = "Four signs come behind THE TEXT,")
    static void fourSignsComeBehind() {
        Talk t = new Talk();
        t.x.sign(0x31616161);
        t.x.sign(0x613b3262);
        due(t.x.words(), 2);
        due(t.x.word(0, 0), 4);
        due(t.x.word(1, 0), 1);
    }

    @Says(at = 2, words = "of v the highest byte first: how many it has.")
    static void theHighestByteComesFirst() {
        Talk t = new Talk();
        due(t.x.sign(0x31327a61), 4);
        due(t.x.sign(0x0065756f), 8);
        due(t.x.words(), -5);
        due(t.x.sign(0x31327a61), 4);
        due(t.x.words(), 1);
        due(t.x.word(0, 2), 1);
        due(t.x.word(0, 3), 2);
        due(t.x.word(0, 0), 2);
        due(t.x.word(0, 4), 1);
    }

    @Says(at = 2, words = "of v the highest byte first")
    static void eachByteIsOneSignOf256() {
        // A byte from 128 on is neither the sign 128 below it nor one below 0.
        int[] given = {0xb1616161, 0x31e16161, 0x3161e161, 0x316161e1, -1, LOW};
        int[] want = {-1, -2, -3, -4, -1, -1};
        for (int i = 0; i < given.length; i++) {
            Talk t = new Talk();
            t.x.sign(given[i]);
            due(t.x.words(), want[i]);
        }
    }

    @Says(at = 2, words = "Refused: there would be more than 80.")
    static void eightySignsHaveRoom() {
        Talk t = new Talk();
        for (int i = 1; i <= 20; i++) {
            due(t.x.sign(0x31616161), 4 * i);
        }
        due(t.x.sign(0), -1);
        due(t.x.count(11), 80);
        for (int size = 79; size >= 77; size--) {
            due(t.x.end(size), true);
            due(t.x.sign(0), -1);
            due(t.x.count(11), size);
        }
        due(t.x.end(76), true);
        due(t.x.sign(0), 80);
    }

    @Says(at = 2, words = "Refused: there would be more than 80.")
    static void aRefusedSignChangesNothing() {
        Twins.refuses(() -> {
            Talk t = Twins.busy();
            t.text("w17;b<;" + times("w1;", 23) + "w10");
            due(t.x.count(11), 79);
            return t;
        }, -1, x -> x.sign(0x78787878));
    }

    @Says(at = 3, words = "THE TEXT has its first n signs alone: true;")
    static void endLeavesTheFirstSigns() {
        Talk t = new Talk();
        t.x.sign(0x31616262);
        due(t.x.end(4), true);
        due(t.x.count(11), 4);
        due(t.x.end(3), true);
        due(t.x.count(11), 3);
        due(t.x.sign(0x63633b32), 7);
        due(t.x.end(5), true);
        due(t.x.words(), 1);
        due(t.x.word(0, 0), 4);
        due(t.x.end(0), true);
        t.x.sign(0x31616262);
        due(t.x.end(0), true);
        due(t.x.count(11), 0);
        due(t.x.words(), 0);
    }

    @Says(at = 3, words = "false if it has not so many, or n is below 0.")
    static void endNeedsSoManySigns() {
        Talk t = new Talk();
        due(t.x.end(1), false);
        t.x.sign(0x31616262);
        due(t.x.end(5), false);
        due(t.x.end(HIGH), false);
        due(t.x.end(-1), false);
        due(t.x.end(LOW), false);
        due(t.x.count(11), 4);
        due(t.x.end(2), true);
        due(t.x.end(3), false);
        due(t.x.count(11), 2);
        for (int wrong : new int[] {-1, LOW, 7, HIGH}) {
            Twins.refuses(0, x -> x.end(wrong) ? 1 : 0);
        }
    }

    // ---- road

    @Says(at = 4, words = "There are n STATIONS (1 .. 6): how many there were.")
    static void aRoadHasOneToSixStations() {
        Talk t = new Talk();
        int before = 1;
        for (int n : new int[] {6, 1, 2, 5, 3, 4, 4}) {
            due(t.x.road(n), before);
            due(t.x.count(0), n);
            due(t.x.book(n - 1, 0), 0);
            dueNoSuch(() -> t.x.book(n, 0));
            before = n;
        }
    }

    @Says(at = 4, words = "Refused: another n,")
    static void anotherNumberOfStationsIsRefused() {
        for (int wrong : new int[] {0, 7, -1, LOW, HIGH}) {
            Twins.refuses(-1, x -> x.road(wrong));
        }
    }

    @Says(at = 4, words = "fewer than some TRAVELLER, ERRAND needs.")
    static void aTravellerNeedsHisStation() {
        for (String travellers : new String[] {"3:1;0:1", "0:1;3:1", "1:1;3:1;2:1"}) {
            Talk t = of(6, "", travellers, "");
            due(t.x.road(3), -1);
            due(t.x.count(0), 6);
            due(t.x.road(4), 6);
            due(t.x.road(3), -1);
        }
        // Where he is, not where he was told to be.
        Talk t = of(6, "", "3:1", "");
        t.x.walk(0, 0);
        due(t.x.road(2), -1);
        due(t.x.road(3), 6);
        Twins.refuses(-1, x -> x.road(1));
    }

    @Says(at = 4, words = "fewer than some TRAVELLER, ERRAND needs.")
    static void anErrandNeedsItsStation() {
        for (String errands : new String[] {"a13=1;a10=1", "a10=1;a13=1", "b12=1;b13=1;b11=1"}) {
            Talk t = of(6, "", "0:1;0:1", errands);
            due(t.x.road(3), -1);
            due(t.x.count(0), 6);
            due(t.x.road(4), 6);
            due(t.x.road(3), -1);
        }
        Talk t = of(2, "1b", "1:1", "a11=1");
        t.x.say(0, 0);
        t.x.walk(0, 0);
        due(t.x.count(5), 1);
        due(t.x.road(1), -1);
    }

    @Says(at = 4, words = "(What is in THE BOOK of one that is gone is gone, too.)")
    static void theBookOfAStationThatIsGoneIsGone() {
        Talk t = of(3, "1aeiou", "1:99", "");
        t.x.say(0, 0);
        t.x.walk(0, 1);
        t.x.say(0, 0);
        t.x.walk(0, 0);
        due(t.x.count(6), 10);
        due(t.x.road(2), 3);
        due(t.x.count(6), 5);
        due(t.x.road(3), 2);
        due(t.x.count(6), 5);
        for (int v = 0; v < 5; v++) {
            due(t.x.book(1, v), 1);
            due(t.x.book(2, v), 0);
        }
    }

    // ---- words

    @Says(at = 5, words = "THE TEXT tells of WORDS (an empty one: nothing): how many LINES.")
    static void anEmptyTextTellsNoWords() {
        Talk t = new Talk();
        due(t.x.words(), 0);
        due(t.x.count(1), 0);
        due(t.text("1a").words(), 1);
        due(t.x.words(), 0);
        due(t.text("1a;1e;1i").words(), 3);
        due(t.x.count(1), 4);
        due(t.x.count(11), 0);
        Talk u = words(times("1a;", 9) + "1a");
        due(u.x.words(), 0);
        due(u.x.count(1), 10);
        Twins.refusesText("", 0, x -> x.words());
    }

    @Says(at = 5, words = "-1 - p: the sign at p can't stand there")
    static void aWordFailsAtItsFirstWrongSign() {
        String[] bad = {"x", "1;", "1A", "1a ", "1a\0", "12;", "1a;x", "1a;2?", "1a;2e;?i", "1a;2e?3i"};
        int[] at = {0, 1, 1, 2, 2, 2, 3, 4, 6, 5};
        for (int i = 0; i < bad.length; i++) {
            due(new Talk().text(bad[i]).words(), -1 - at[i]);
            Twins.refusesText(bad[i], -1 - at[i], x -> x.words());
        }
    }

    @Says(at = 5, words = "(its end, if it ends too early;")
    static void wordsThatEndTooEarly() {
        Twins.refusesText("1", -2, x -> x.words());
        Twins.refusesText("12", -3, x -> x.words());
        Twins.refusesText("1a;", -4, x -> x.words());
        Twins.refusesText("1a;2", -5, x -> x.words());
        Twins.refusesText("1a;23", -6, x -> x.words());
        // What stood behind the end is not there.
        Talk t = new Talk();
        t.x.sign(0x31613b32);
        t.x.end(1);
        due(t.x.words(), -2);
    }

    @Says(at = 5, words = "76, if it has more and the first 76 could go on or end;")
    static void wordsOfMoreThan76Signs() {
        String lines = times("12aeioux;", 8);
        String[] first = {lines + "1aaa", lines + "1aa;", lines + "1a;1", times("12aeioux;", 7) + "1aeioux;12aee"};
        for (String signs : first) {
            for (String more : new String[] {"a", ";", "?", "a;1a", "1", "\0"}) {
                due(new Talk().text(signs + more).words(), -77);
            }
        }
        due(new Talk().text(lines + "1aaa").words(), 9);
        due(new Talk().text(lines + "1aa;").words(), -77);
        // Six letters end there, or the tenth WORD: a seventh, or an eleventh, is no other fault.
        String letters = times("12aeioux;", 7) + "1aaaa;1aeioux";
        due(new Talk().text(letters).words(), 9);
        due(new Talk().text(letters + "u").words(), -77);
        due(new Talk().text(letters + ";").words(), -77);
        String ten = times("12aeioux;", 7) + "1aa;1a;1aeiou";
        due(new Talk().text(ten).words(), 10);
        due(new Talk().text(ten + "u").words(), -77);
        due(new Talk().text(ten + ";1a").words(), -77);
        // What can't stand ahead of it is told.
        due(new Talk().text(lines + "1aA;1a").words(), -75);
        due(new Talk().text(lines + "1aa1a").words(), -76);
        due(new Talk().text("?" + lines + "1aaaa").words(), -1);
        Twins.refusesText(Talk::new, lines + "1aaaa", -77, x -> x.words());
    }

    @Says(at = 5, words = "a seventh letter;")
    static void aSeventhLetterCantStand() {
        Twins.refusesText("1abcdefg", -8, x -> x.words());
        Twins.refusesText("12abcdefg", -9, x -> x.words());
        Twins.refusesText("1a;12aaaaaaa;1a", -12, x -> x.words());
        due(new Talk().text("1abcdef").words(), 1);
    }

    @Says(at = 5, words = "the first sign of a LINE for which there is no room).")
    static void aWordWithoutRoomFailsAtItsFirstSign() {
        Talk t = words(times("1a;", 7) + "1a");
        due(t.text("1a;1a;1a").words(), -7);
        due(t.text("1a;1a;?").words(), -7);
        due(t.text("1a;1a;").words(), -7);
        due(t.text("1a;?a;1a").words(), -4);
        due(t.x.count(1), 8);
        due(t.text("1a;1a").words(), 2);
        for (String any : new String[] {"1a", "?", ";", "1"}) {
            due(t.text(any).words(), -1);
        }
        due(t.x.count(1), 10);
        Twins.refusesText(times("1a;", 5) + "1a", -16, x -> x.words());
    }

    @Says(at = 5, words = "Nothing of it comes, if a LINE can't.")
    static void noWordComesIfALineCant() {
        Talk t = words("1a");
        due(t.text("2eeeeee;3iiiiii;4?").words(), -18);
        due(t.x.count(1), 1);
        dueNoSuch(() -> t.x.word(1, 0));
        due(t.text("5b").words(), 1);
        due(t.x.count(1), 2);
        int[] want = {1, 0, 5, -1, 0, 0, 0, 0, 0};
        for (int what = 0; what <= 8; what++) {
            due(t.x.word(1, what), want[what]);
        }
        due(t.x.toll(1, 0), 0);
        due(t.x.differ(0, 1), 1);
    }

    // ---- travellers

    @Says(at = 6, words = "THE TEXT tells of TRAVELLERS (an empty one: nothing): how many LINES.")
    static void anEmptyTextTellsNoTravellers() {
        Talk t = new Talk();
        due(t.x.travellers(), 0);
        due(t.x.count(2), 0);
        due(t.text("0:1").travellers(), 1);
        due(t.text("0:1;0:2;0:3").travellers(), 3);
        due(t.x.travellers(), 0);
        due(t.x.count(2), 4);
        due(t.x.count(11), 0);
        Twins.refusesText("", 0, x -> x.travellers());
    }

    @Says(at = 6, words = "-1 - p: likewise")
    static void aTravellerFailsAtItsFirstWrongSign() {
        String[] bad = {"x", ":5", ":", "0", "0;", "0:", "0:x", "0:5x", "0:5555", "0:5;", "0:5;0", "0:5;0:", "0:5;;", "0:5:0"};
        int[] at = {0, 0, 0, 1, 1, 2, 2, 3, 5, 4, 5, 6, 4, 3};
        for (int i = 0; i < bad.length; i++) {
            due(new Talk().text(bad[i]).travellers(), -1 - at[i]);
            Twins.refusesText(bad[i], -1 - at[i], x -> x.travellers());
        }
        // The third LINE has no room where two are.
        Twins.refusesText("0:1;0:2;0:3", -9, x -> x.travellers());
        Twins.refusesText("0:1;0:2;?", -9, x -> x.travellers());
        // Nothing of it comes.
        Talk t = new Talk();
        due(t.text("0:111;0:222;?").travellers(), -13);
        due(t.x.count(2), 0);
        due(t.text("0:5").travellers(), 1);
        due(t.x.count(7), 5);
        due(t.x.traveller(0, 2), 0);
    }

    @Says(at = 6, words = "(40 signs;")
    static void travellersOfMoreThan40Signs() {
        due(new Talk().text(times("0:999;", 6) + "0:99").travellers(), -25);
        due(new Talk().text(times("0:999;", 6) + "0:99;").travellers(), -25);
        due(new Talk().text("0:" + times("9", 78)).travellers(), -6);
    }

    @Says(at = 6, words = "a digit of no STATION: at it).")
    static void aTravellerAtNoStation() {
        due(new Talk().text("0:5;1:5").travellers(), -5);
        Twins.refusesText("3:5", -1, x -> x.travellers());
        Twins.refusesText("2:5;3:5", -5, x -> x.travellers());
        Twins.refusesText("9:5", -1, x -> x.travellers());
        due(Twins.busy().text("2:5").travellers(), 1);
        due(of(6, "", "", "").text("5:5").travellers(), 1);
        due(of(6, "", "", "").text("6:5").travellers(), -1);
    }

    // ---- errands

    @Says(at = 7, words = "THE TEXT tells of ERRANDS (an empty one: nothing): how many LINES.")
    static void anEmptyTextTellsNoErrands() {
        Talk t = of(1, "", "0:1", "");
        due(t.x.errands(), 0);
        due(t.x.count(3), 0);
        due(t.text("a00=1").errands(), 1);
        due(t.text("a00=1;a00=2;a00=3").errands(), 3);
        due(t.x.errands(), 0);
        due(t.x.count(3), 4);
        due(t.x.count(11), 0);
        due(new Talk().x.errands(), 0);
        Twins.refusesText("", 0, x -> x.errands());
    }

    @Says(at = 7, words = "-1 - p: likewise")
    static void anErrandFailsAtItsFirstWrongSign() {
        String[] bad = {"x", "00=1", "=1", "a0=1", "a=1", "a", "ax", "a0", "a0x", "a00", "a00:", "a00=", "a00=x", "a00=555", "a00=5x", "a00=5;", "a00=5;a", "a00=5;a0",
            "a00=5;a00", "a00=5;a00=", "a00=5;;", "a00=5a"};
        int[] at = {0, 0, 0, 2, 1, 1, 1, 2, 2, 3, 3, 4, 4, 6, 5, 6, 7, 8, 9, 10, 6, 5};
        for (int i = 0; i < bad.length; i++) {
            Twins.refusesText(bad[i], -1 - at[i], x -> x.errands());
        }
        // The fifth LINE has no room where four are.
        Twins.refusesText(times("a00=1;", 4) + "a00=1", -25, x -> x.errands());
        Twins.refusesText(times("a00=1;", 4) + "?", -25, x -> x.errands());
        // Nothing of it comes.
        Talk t = of(1, "", "0:1", "");
        due(t.text("a10=11;a20=22;?").errands(), -15);
        due(t.x.count(3), 0);
        due(t.x.traveller(0, 3), 0);
    }

    @Says(at = 7, words = "(76 signs;")
    static void errandsOfMoreThan76Signs() {
        Talk t = of(1, "", "0:1", "");
        due(t.text(times("a00=99;", 11)).errands(), -57);
        due(t.text("a00=" + times("9", 76)).errands(), -7);
        due(t.text(times("a", 80)).errands(), -2);
        due(t.x.count(3), 0);
    }

    @Says(at = 7, words = "a letter of nobody,")
    static void anErrandOfNobody() {
        due(new Talk().text("a00=1").errands(), -1);
        Twins.refusesText("c00=1", -1, x -> x.errands());
        Twins.refusesText("d00=1", -1, x -> x.errands());
        Twins.refusesText("b00=1;c00=1", -7, x -> x.errands());
        due(Twins.busy().text("b00=1").errands(), 1);
    }

    @Says(at = 7, words = "a digit of no STATION: at it).")
    static void anErrandAtNoStation() {
        Twins.refusesText("a03=1", -3, x -> x.errands());
        Twins.refusesText("a09=1", -3, x -> x.errands());
        Twins.refusesText("a02=1;a03=1", -9, x -> x.errands());
        due(Twins.busy().text("a02=1").errands(), 1);
    }

    // ---- rule

    @Says(at = 8, words = "THE TEXT is THE RULE (an empty one: none): 0.")
    static void anEmptyTextIsNoRule() {
        Talk t = words("1u");
        due(t.text("v*9").rule(), 0);
        due(t.x.toll(0, 0), 36);
        due(t.x.count(11), 0);
        due(t.x.rule(), 0);
        due(t.x.toll(0, 0), 5);
        due(t.text("7").rule(), 0);
        due(t.x.toll(0, 0), 7);
    }

    @Says(at = 8, words = "THE TEXT is THE RULE (an empty one: none): 0.")
    static void nothingIsLeftOfAnEarlierRule() {
        String[] rules = {"-(1+2)", "9", "1+2+3+4", "--(1+2)", "99-(1<2)-(3<4)"};
        for (String rule : rules) {
            Talk t = words("1u");
            by(rule, t);
            by(rule, t);
            by("", t);
            due(t.x.toll(0, 0), 5);
            by(rule, t);
            by(rule, t);
            by("1+2", t);
            due(t.x.toll(0, 0), 3);
            by("8", t);
            due(t.x.toll(0, 0), 8);
            // Neither of one that can't be, nor of a law.
            due(t.text("5+5+5+?").rule(), -7);
            due(t.x.toll(0, 0), 8);
            t.text("6+6").law(0);
            due(t.x.toll(0, 0), 8);
            by("", t);
            due(t.x.toll(0, 0), 5);
        }
    }

    @Says(at = 8, words = "-1 - p: likewise")
    static void aRuleFailsAtItsFirstWrongSign() {
        String[] bad = {"x", "V", "v+", "v*", "v<", "v-", "-", "(", "(v", "()", "v)", "1234", "v v", "vs", "v1", "1v", "v<s<h", "(((((v", "\0"};
        int[] at = {0, 0, 2, 2, 2, 2, 1, 1, 2, 1, 1, 3, 1, 1, 1, 1, 3, 4, 0};
        for (int i = 0; i < bad.length; i++) {
            Twins.refusesText(bad[i], -1 - at[i], x -> x.rule());
        }
    }

    @Says(at = 8, words = "(40 signs).")
    static void aRuleOfMoreThan40Signs() {
        String forty = times("v+", 19) + "12";
        due(new Talk().text(forty).rule(), 0);
        for (String more : new String[] {"3", "+v", "v", "?", ")", "<1"}) {
            due(new Talk().text(forty + more).rule(), -41);
        }
        due(new Talk().text(times("v+", 20)).rule(), -41);
        due(new Talk().text(times("v+", 20) + "v").rule(), -41);
        due(new Talk().text(times("-", 40) + "v").rule(), -41);
        due(new Talk().text(times("v+", 19) + "(v)").rule(), -41);
        due(new Talk().text(times("v+", 18) + "(v)").rule(), 0);
        // What can't stand ahead of it is told.
        due(new Talk().text(times("v+", 19) + "vx+v").rule(), -40);
        due(new Talk().text(times("v+", 19) + "+v+v").rule(), -39);
        Twins.refusesText(times("v+", 20) + "v", -41, x -> x.rule());
    }

    // ---- word, traveller, errand, book

    @Says(at = 9, words = "Of a WORD, what 0: letters, 1: VOWELS, 2: the first MEANING, 3: the second (NONE),")
    static void aWordTellsLettersVowelsMeanings() {
        Talk t = words("7b;50aabee;9aeiouu");
        int[][] want = {{1, 0, 7, -1}, {5, 4, 5, 0}, {6, 6, 9, -1}};
        for (int w = 0; w < want.length; w++) {
            for (int what = 0; what <= 3; what++) {
                due(t.x.word(w, what), want[w][what]);
            }
        }
    }

    @Says(at = 9, words = "4 .. 8: how often VOWEL what - 4 is in it.")
    static void aWordTellsHowOftenEachVowelIsIn() {
        Talk t = words("1aeiiou;1uuuuuu;1bcd");
        int[][] want = {{1, 1, 2, 1, 1}, {0, 0, 0, 0, 6}, {0, 0, 0, 0, 0}};
        for (int w = 0; w < want.length; w++) {
            for (int v = 0; v < 5; v++) {
                due(t.x.word(w, 4 + v), want[w][v]);
            }
        }
    }

    @Says(at = 9, words = "NoSuchElementException: none such, another what.")
    static void noSuchWord() {
        for (int wrong : new int[] {-1, 5, LOW, HIGH}) {
            Twins.refuses(Twins.NO_SUCH, x -> x.word(wrong, 0));
        }
        for (int wrong : new int[] {-1, 9, LOW, HIGH}) {
            Twins.refuses(Twins.NO_SUCH, x -> x.word(4, wrong));
        }
        Talk full = words(times("1a;", 9) + "1a");
        due(full.x.word(9, 8), 0);
        dueNoSuch(() -> full.x.word(10, 0));
        dueNoSuch(() -> new TollOnVowels().word(0, 0));
    }

    @Says(at = 10, words = "Of a TRAVELLER, what 0: the STATION, 1: PURSE, 2: SPENT, 3: ERRANDS that are not done (bits), 4: WORTH of those that are.")
    static void aTravellerTellsFiveThings() {
        Talk t = of(2, "1a;2e", "1:9;0:50", "a11=5;b10=7;a21=99;a11=0;b20=1;b90=3");
        int[][] want = {{1, 9, 0, 1 + 4 + 8, 0}, {0, 50, 0, 2 + 16 + 32, 0}};
        for (int who = 0; who < 2; who++) {
            for (int what = 0; what <= 4; what++) {
                due(t.x.traveller(who, what), want[who][what]);
            }
        }
        t.x.say(0, 1);
        t.x.say(0, 0);
        t.x.say(1, 0);
        want = new int[][] {{1, 6, 3, 0, 5 + 99}, {0, 49, 1, 16 + 32, 7}};
        for (int who = 0; who < 2; who++) {
            for (int what = 0; what <= 4; what++) {
                due(t.x.traveller(who, what), want[who][what]);
            }
        }
    }

    @Says(at = 10, words = "NoSuchElementException: likewise.")
    static void noSuchTraveller() {
        for (int wrong : new int[] {-1, 2, LOW, HIGH}) {
            Twins.refuses(Twins.NO_SUCH, x -> x.traveller(wrong, 0));
        }
        for (int wrong : new int[] {-1, 5, LOW, HIGH}) {
            Twins.refuses(Twins.NO_SUCH, x -> x.traveller(1, wrong));
        }
        Talk full = of(1, "", "0:1;0:2;0:3;0:4", "");
        due(full.x.traveller(3, 1), 4);
        dueNoSuch(() -> full.x.traveller(4, 0));
        dueNoSuch(() -> new TollOnVowels().traveller(0, 0));
    }

    @Says(at = 11, words = "Of an ERRAND, what 0: whose, 1: MEANING, 2: STATION, 3: WORTH, 4: 1 if done.")
    static void anErrandTellsFiveThings() {
        Talk t = of(6, "8b", "0:0;5:0", "b85=42;" + times("a30=5;", 6) + "b85=9");
        due(t.x.errand(7, 4), 0);
        t.x.say(1, 0);
        int[][] want = {{1, 8, 5, 42, 1}, {0, 3, 0, 5, 0}, {1, 8, 5, 9, 1}};
        for (int what = 0; what <= 4; what++) {
            due(t.x.errand(0, what), want[0][what]);
            due(t.x.errand(1, what), want[1][what]);
            due(t.x.errand(7, what), want[2][what]);
        }
    }

    @Says(at = 11, words = "NoSuchElementException: likewise.")
    static void noSuchErrand() {
        for (int wrong : new int[] {-1, 4, LOW, HIGH}) {
            Twins.refuses(Twins.NO_SUCH, x -> x.errand(wrong, 0));
        }
        for (int wrong : new int[] {-1, 5, LOW, HIGH}) {
            Twins.refuses(Twins.NO_SUCH, x -> x.errand(3, wrong));
        }
        Talk full = of(1, "", "0:1", times("a00=1;", 7) + "a00=7");
        due(full.x.errand(7, 3), 7);
        dueNoSuch(() -> full.x.errand(8, 0));
        dueNoSuch(() -> new TollOnVowels().errand(0, 0));
    }

    @Says(at = 12, words = "How often a VOWEL (0 .. 4) stands in THE BOOK of a STATION.")
    static void theBookTellsHowOften() {
        Talk t = of(6, "1auu", "5:99;0:99", "");
        t.x.say(0, 0);
        t.x.say(1, 0);
        t.x.say(1, 0);
        int[][] want = {{2, 0, 0, 0, 4}, {1, 0, 0, 0, 2}};
        for (int v = 0; v <= 4; v++) {
            due(t.x.book(0, v), want[0][v]);
            due(t.x.book(5, v), want[1][v]);
            due(t.x.book(1, v), 0);
        }
    }

    @Says(at = 12, words = "NoSuchElementException: likewise.")
    static void noSuchBook() {
        for (int wrong : new int[] {-1, 3, LOW, HIGH}) {
            Twins.refuses(Twins.NO_SUCH, x -> x.book(wrong, 0));
        }
        for (int wrong : new int[] {-1, 5, LOW, HIGH}) {
            Twins.refuses(Twins.NO_SUCH, x -> x.book(2, wrong));
        }
        dueNoSuch(() -> new TollOnVowels().book(1, 0));
        dueNoSuch(() -> of(6, "", "", "").x.book(6, 0));
    }

    // ---- sheet

    private static void duePurses(Talk t, int... want) {
        for (int i = 0; i < want.length; i++) {
            due(t.x.traveller(i, 1), want[i]);
        }
    }

    private static Talk four() {
        return of(1, "", "0:1;0:2;0:3;0:4", "");
    }

    @Says(at = 13, words = "PURSES of TRAVELLERS 0, 1, .., as a sheet tells them:")
    static void aSheetTellsPurses() {
        Talk t = four();
        due(t.x.sheet(2, 4, 10, 20), 160);
        duePurses(t, 10, 30, 50, 70);
        due(t.x.count(7), 160);
        Talk two = of(1, "", "0:1;0:2", "");
        due(two.x.sheet(2, 4, 10, 20), 40);
        duePurses(two, 10, 30);
        due(new Talk().x.sheet(2, 4, 10, 20), 0);
        // Who comes later has what he is told with.
        due(two.text("0:5").travellers(), 1);
        duePurses(two, 10, 30, 5);
    }

    @Says(at = 13, words = "bytes (kind 0), shorts (1), ints (2) of n entries f, f + step, ..")
    static void aSheetHasThreeKinds() {
        Talk t = four();
        int[][] want = {{44, 45, 46, 47}, {300, 301, 302, 303}, {300, 301, 302, 303}};
        for (int kind = 0; kind <= 2; kind++) {
            due(t.x.sheet(kind, 4, 300, 1), want[kind][0] + want[kind][1] + want[kind][2] + want[kind][3]);
            duePurses(t, want[kind]);
        }
        due(t.x.sheet(1, 4, 65536 + 7, 0), 28);
        due(t.x.sheet(2, 4, 65536 + 7, 0), 4 * 9999);
        due(t.x.sheet(2, 4, 30, -10), 60);
        duePurses(t, 30, 20, 10, 0);
    }

    @Says(at = 13, words = "(of bytes, shorts the lowest bits, with their sign;")
    static void bytesAndShortsHaveASign() {
        Talk t = four();
        due(t.x.sheet(0, 4, 126, 1), 253);
        duePurses(t, 126, 127, 0, 0);
        due(t.x.sheet(0, 4, 254, 1), 1);
        duePurses(t, 0, 0, 0, 1);
        due(t.x.sheet(0, 4, -130, 1), 126 + 127);
        duePurses(t, 126, 127, 0, 0);
        due(t.x.sheet(1, 4, 32766, 1), 2 * 9999);
        duePurses(t, 9999, 9999, 0, 0);
        due(t.x.sheet(1, 4, 65534, 1), 1);
        duePurses(t, 0, 0, 0, 1);
        due(t.x.sheet(1, 4, -65536, 1), 6);
        duePurses(t, 0, 1, 2, 3);
        // As ints f + step goes round.
        due(t.x.sheet(2, 2, HIGH, 1), 9999);
        duePurses(t, 9999, 0, 0, 0);
        due(t.x.sheet(2, 2, LOW, -1), 9999);
        duePurses(t, 0, 9999, 0, 0);
        due(t.x.sheet(2, 4, 7, 1 << 30), 7 + 9999);
        duePurses(t, 7, 9999, 0, 0);
    }

    @Says(at = 13, words = "put to 0 .. 9999),")
    static void entriesArePutToPurses() {
        Talk t = four();
        due(t.x.sheet(2, 4, 9997, 1), 9997 + 9998 + 9999 + 9999);
        duePurses(t, 9997, 9998, 9999, 9999);
        due(t.x.sheet(2, 4, 1, -1), 1);
        duePurses(t, 1, 0, 0, 0);
        due(t.x.sheet(1, 2, 10000, 0), 2 * 9999);
        due(t.x.sheet(0, 2, 128, 0), 0);
    }

    @Says(at = 13, words = "or a missing one (3): those behind it have 0: the sum of all.")
    static void thoseBehindTheSheetHaveNothing() {
        for (int n = 0; n <= 4; n++) {
            Talk t = four();
            due(t.x.sheet(2, n, 5, 1), n * 5 + n * (n - 1) / 2);
            for (int i = 0; i < 4; i++) {
                due(t.x.traveller(i, 1), i < n ? 5 + i : 0);
            }
        }
    }

    @Says(at = 13, words = "-2: n below 0 (of kinds 0 .. 2; nothing changes);")
    static void aSheetOfFewerThanNoEntries() {
        for (int kind = 0; kind <= 2; kind++) {
            int k = kind;
            Twins.refuses(-2, x -> x.sheet(k, -1, 5, 5));
            Twins.refuses(-2, x -> x.sheet(k, LOW, 5, 5));
            due(four().x.sheet(kind, 0, 5, 5), 0);
        }
        due(four().x.sheet(3, -1, 5, 5), -3);
        due(four().x.sheet(3, LOW, 5, 5), -3);
    }

    @Says(at = 13, words = "-3: missing (all 0).")
    static void aMissingSheet() {
        for (int n : new int[] {LOW, -1, 0, 2, 4}) {
            Talk t = four();
            due(t.x.sheet(3, n, 5, 5), -3);
            duePurses(t, 0, 0, 0, 0);
            due(t.x.count(7), 0);
        }
        due(new Talk().x.sheet(3, 0, 0, 0), -3);
    }

    @Says(at = 13, words = "NONE: another kind, n above 4 (these first).")
    static void anotherKindOrTooManyEntries() {
        for (int kind : new int[] {-1, 4, LOW, HIGH}) {
            for (int n : new int[] {LOW, -1, 0, 4, 5}) {
                Twins.refuses(-1, x -> x.sheet(kind, n, 5, 5));
            }
        }
        for (int kind = 0; kind <= 3; kind++) {
            int k = kind;
            Twins.refuses(-1, x -> x.sheet(k, 5, 5, 5));
            Twins.refuses(-1, x -> x.sheet(k, HIGH, 5, 5));
        }
        due(four().x.sheet(0, 4, 5, 0), 20);
    }
}
