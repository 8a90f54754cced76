import java.io.IOException;

/** The bounds that the document's terms name: a test for each sentence. */
public final class TermsBoundsTest extends Bounds {
    public static void main(String[] args) throws IOException {
        run(TermsBoundsTest.class, 0);
    }

    // ---- STATIONS, HOUR

    @Says(at = 0, words = "STATIONS 0 .. (1 .. 6 of them, at first 1),")
    static void stationsAreOneToSix() {
        Talk t = new Talk();
        due(t.x.count(0), 1);
        due(t.x.road(6), 1);
        due(t.x.count(0), 6);
        due(t.x.road(7), -1);
        due(t.x.count(0), 6);
        due(t.x.road(1), 6);
        due(t.x.road(0), -1);
        due(t.x.count(0), 1);
    }

    @Says(at = 0, words = "in a row.")
    static void stationsStandInARow() {
        Talk t = of(6, "", "0:0", "");
        for (int s = 1; s <= 5; s++) {
            due(t.x.walk(0, 1), s);
        }
        due(t.x.walk(0, 1), -2);
        for (int s = 4; s >= 0; s--) {
            due(t.x.walk(0, 0), s);
        }
        due(t.x.walk(0, 0), -2);
    }

    @Says(at = 0, words = "HOUR (at first 0) is counted.")
    static void hourGoesBeyondTheDay() {
        Talk t = new Talk();
        due(t.x.count(4), 0);
        due(t.x.pause(23), 23);
        due(t.x.pause(1), 24);
        due(t.x.pause(1), 25);
        due(t.x.pause(99), 124);
        due(t.x.count(4), 124);
    }

    // ---- WORDS

    @Says(at = 0, words = "WORDS 0 .. (at most 10):")
    static void wordsAreAtMostTen() {
        Talk t = new Talk();
        due(t.text(times("1a;", 10) + "1a").words(), -31);
        due(t.x.count(1), 0);
        due(t.text(times("1a;", 9) + "1a").words(), 10);
        due(t.x.count(1), 10);
        due(t.text("1a").words(), -1);
        due(t.x.count(1), 10);
        Talk u = words(times("1a;", 8) + "1a");
        due(u.text("1a;1a").words(), -4);
        due(u.x.count(1), 9);
        due(u.text("1a").words(), 1);
    }

    @Says(at = 0, words = "1 to 6 letters")
    static void aWordHasOneToSixLetters() {
        due(new Talk().text("1").words(), -2);
        due(words("1b").x.word(0, 0), 1);
        due(words("1bcdfgh").x.word(0, 0), 6);
        due(new Talk().text("1bcdfghj").words(), -8);
    }

    @Says(at = 0, words = "letters a .. z,")
    static void lettersAreSmallOnes() {
        due(words("1az").x.word(0, 0), 2);
        for (int wrong : new int[] {'a' - 1, 'z' + 1, 'A', 'Z', 'a' + 128, 0, 255}) {
            due(new Talk().text("1" + (char) wrong).words(), -2);
            due(new Talk().text("1a" + (char) wrong).words(), -3);
        }
    }

    @Says(at = 0, words = "a MEANING (one digit, or two: a compound).")
    static void aMeaningIsOneDigitOrTwo() {
        due(new Talk().text("a").words(), -1);
        due(new Talk().text("123a").words(), -3);
        for (int wrong : new int[] {'0' - 1, '9' + 1}) {
            due(new Talk().text((char) wrong + "a").words(), -1);
            due(new Talk().text("1" + (char) wrong + "a").words(), -2);
        }
        Talk t = words("0a;9a;00a;90a;09a");
        int[][] want = {{0, -1}, {9, -1}, {0, 0}, {9, 0}, {0, 9}};
        for (int w = 0; w < want.length; w++) {
            due(t.x.word(w, 2), want[w][0]);
            due(t.x.word(w, 3), want[w][1]);
        }
        due(t.x.count(8), 4 + 8 + 16);
    }

    @Says(at = 0, words = "a compound). They are told by a text of at most 76 signs:")
    static void wordsAreToldByAtMost76Signs() {
        String lines = times("12aeioux;", 8);
        due(new Talk().text(lines + "1aaa").words(), 9);
        Talk t = new Talk();
        due(t.text(lines + "1aaaa").words(), -77);
        due(t.x.count(1), 0);
    }

    @Says(at = 0, words = "LINES with ; between, what they tell comes behind what there is: one or two digits, then the letters.")
    static void linesOfWordsHaveASemicolonBetween() {
        due(new Talk().text("1a;2e").words(), 2);
        due(new Talk().text(";1a").words(), -1);
        due(new Talk().text("1a;").words(), -4);
        due(new Talk().text("1a;;1a").words(), -4);
        due(new Talk().text("1a,2e").words(), -3);
        due(new Talk().text("1a2e").words(), -3);
        due(new Talk().text("a1").words(), -1);
    }

    @Says(at = 0, words = "what they tell comes behind what there is:")
    static void wordsComeBehindThoseThere() {
        Talk t = words("1a");
        due(t.text("2ee;3iii").words(), 2);
        for (int w = 0; w < 3; w++) {
            due(t.x.word(w, 0), w + 1);
            due(t.x.word(w, 2), w + 1);
            due(t.x.word(w, 4 + w), w + 1);
        }
    }

    @Says(at = 0, words = "VOWELS: a e i o u (0 .. 4).")
    static void vowelsAreFive() {
        for (char letter = 'a'; letter <= 'z'; letter++) {
            Talk t = words("1" + letter);
            int which = "aeiou".indexOf(letter);
            due(t.x.word(0, 1), which >= 0 ? 1 : 0);
            for (int v = 0; v < 5; v++) {
                due(t.x.word(0, 4 + v), v == which ? 1 : 0);
            }
            due(t.x.toll(0, 0), which + 1);
        }
    }

    // ---- THE TOLL, THE RULE

    @Says(at = 0, words = "THE TOLL of a WORD at a STATION in an HOUR: for each of its VOWELS what THE RULE tells, added up.")
    static void tollsOfVowelsAreAddedUp() {
        due(by("v*10+1", words("1aeioua")).x.toll(0, 0), 1 + 11 + 21 + 31 + 41 + 1);
        due(by("99", words("1uuuuuu")).x.toll(0, 0), 6 * 99);
        due(by("99", words("1bcdfgh")).x.toll(0, 0), 0);
        due(by("99", words("1bcdfgu")).x.toll(0, 0), 99);
    }

    @Says(at = 0, words = "THE RULE is a text of at most 40 signs")
    static void aRuleHasAtMost40Signs() {
        due(new Talk().text(times("v+", 19) + "12").rule(), 0);
        due(new Talk().text(times("v+", 20) + "1").rule(), -41);
        due(by("-" + times("v+", 19) + "v", words("1u")).x.toll(0, 0), 18 * 4);
        Talk t = by("7", words("1a"));
        due(t.text(times("1+", 19) + "111").rule(), -41);
        due(t.x.toll(0, 0), 7);
    }

    @Says(at = 0, words = "(at first none: v+1).")
    static void atFirstAVowelCostsItsNumberAndOne() {
        Talk t = words("1aeiou");
        due(t.x.toll(0, 0), 15);
        t.dueRow(1, 2, 3, 4, 5);
        by("9", t);
        by("", t);
        due(t.x.toll(0, 0), 15);
    }

    /** What a rule tells of a in the word "a" on STATION 0 in HOUR 0. */
    private static int worth(String rule) {
        return by(rule, words("0a")).x.toll(0, 0);
    }

    private static int fault(String rule) {
        return new Talk().text(rule).rule();
    }

    @Says(at = 0, words = "EXPRESSION: < > = bind least")
    static void comparisonsBindLeast() {
        due(worth("1+1<3"), 1);
        due(worth("3>1+1"), 1);
        due(worth("2*2=4"), 1);
        due(worth("4=2*2"), 1);
        due(worth("9-8<5-3"), 1);
        due(worth("-1<1"), 1);
    }

    @Says(at = 0, words = "(two; 1 or 0;")
    static void aComparisonTellsOneOrZero() {
        String[] rules = {"2<3", "3<3", "3<2", "3>2", "3>3", "2>3", "3=3", "3=2", "2=3", "0-5<0-4", "0-4>0-5", "0-4=0-4"};
        int[] want = {1, 0, 0, 1, 0, 0, 1, 0, 0, 1, 1, 1};
        for (int i = 0; i < rules.length; i++) {
            due(worth(rules[i]), want[i]);
        }
        due(worth("(7>2)*50"), 50);
        for (String half : new String[] {"1<", "1>", "1="}) {
            due(fault(half), -3);
        }
        for (String half : new String[] {"<1", ">1", "=1"}) {
            due(fault(half), -1);
        }
    }

    @Says(at = 0, words = "not one behind the other),")
    static void noComparisonStandsBehindAnother() {
        for (char one : "<>=".toCharArray()) {
            for (char other : "<>=".toCharArray()) {
                due(fault("1" + one + "2" + other + "3"), -4);
                due(fault("(1" + one + "2" + other + "3)"), -5);
                due(fault("1" + one + other + "3"), -3);
                due(fault("(1" + one + "2)" + other + "3"), 0);
                due(fault("1" + one + "(2" + other + "3)"), 0);
            }
        }
        due(worth("(5<7)<3"), 1);
        due(worth("1<(2<3)"), 0);
        due(worth("(1<2)=(2<3)"), 1);
    }

    @Says(at = 0, words = "then + - (from the left),")
    static void sumsGoFromTheLeft() {
        due(worth("9-3-2"), 4);
        due(worth("9-3+2"), 8);
        due(worth("1-2+9"), 8);
        due(worth("9+3-2"), 10);
        due(fault("9+"), -3);
        due(fault("+9"), -1);
        due(fault("9-+3"), -3);
    }

    @Says(at = 0, words = "then * / (from the left;")
    static void productsGoFromTheLeftAndBindMore() {
        due(worth("16/4/2"), 2);
        due(worth("16/4*2"), 8);
        due(worth("7/4*2"), 2);
        due(worth("2*7/4"), 3);
        due(worth("1+2*3"), 7);
        due(worth("2*3+1"), 7);
        due(worth("10-6/2"), 7);
        due(fault("9*"), -3);
        due(fault("*9"), -1);
        due(fault("/9"), -1);
        due(fault("9*/3"), -3);
    }

    @Says(at = 0, words = "by 0: 0;")
    static void dividedByZeroIsZero() {
        due(worth("7/0"), 0);
        due(worth("7/0+5"), 5);
        due(worth("0/0+5"), 5);
        due(worth("7/(3-3)+5"), 5);
        due(worth("7/v+5"), 5);
        due(worth("5-7/0"), 5);
        due(worth("7/0/0+5"), 5);
        due(worth("7/1"), 7);
        due(worth("9+7/-1"), 2);
    }

    @Says(at = 0, words = "cut to 0),")
    static void aDivisionIsCutToZero() {
        due(worth("7/2"), 3);
        due(worth("1/2"), 0);
        due(worth("9+-7/2"), 6);
        due(worth("9+7/-2"), 6);
        due(worth("-7/-2"), 3);
        due(worth("9+-1/2"), 9);
        due(worth("6/2"), 3);
        due(worth("9+-6/2"), 6);
    }

    @Says(at = 0, words = "then - ahead of a thing (any many);")
    static void minusesStandAheadOfAThing() {
        due(worth("-5+9"), 4);
        due(worth("--5"), 5);
        due(worth("9--5"), 14);
        due(worth("9---5"), 4);
        due(worth("2*-3+9"), 3);
        due(worth("-3*-3"), 9);
        due(worth("-(5)+9"), 4);
        due(worth("-v+7"), 7);
        due(worth("9-" + times("-", 37) + "5"), 14);
        due(worth("9" + times("-", 37) + "5"), 4);
        due(worth(times("-", 38) + "5"), 5);
        due(fault(times("-", 39) + "5"), 0);
        due(fault("-"), -2);
        due(fault("5-"), -3);
        due(fault("-+5"), -2);
        due(fault("-*5"), -2);
        // It binds more than a division: 0 less the least int is that int itself, ahead of the halving.
        due(worth("-(512*512*512*16)/2<0"), 1);
    }

    @Says(at = 0, words = "things: a NUMBER of 1 to 3 digits,")
    static void aNumberHasOneToThreeDigits() {
        due(worth("7"), 7);
        due(worth("42"), 42);
        due(worth("099"), 99);
        due(worth("999-998"), 1);
        due(worth("000"), 0);
        due(worth("100-10"), 90);
        due(fault("1000"), -4);
        due(fault("0007"), -4);
        due(fault("1+1234"), -6);
        due(fault("12v"), -3);
        due(fault("v1"), -2);
        due(fault("/"), -1);
        due(fault(":"), -1);
    }

    @Says(at = 0, words = "an EXPRESSION in ( ) (at most 4 in one another),")
    static void bracketsStandAtMostFourInOneAnother() {
        due(worth("((((7))))"), 7);
        due(fault("(((((7)))))"), -5);
        due(worth("((((1))))+((((2))))"), 3);
        due(worth("((((1)+(2))))"), 3);
        due(fault("((((1)+((2)))))"), -9);
        due(worth("(1)+(2)+(3)+(4)+(5)"), 15);
        due(worth("2*(3+4)"), 14);
        due(fault("()"), -2);
        due(fault("(1"), -3);
        due(fault("1)"), -2);
        due(fault("((1)"), -5);
        due(fault("(1))"), -4);
        due(fault("(1)2"), -4);
        due(fault("2(1)"), -2);
    }

    @Says(at = 0, words = "and, of a VOWEL in a WORD: v which (0 .. 4),")
    static void vIsWhichVowel() {
        Talk t = by("v*20", words("1aeiou"));
        due(t.x.toll(0, 0), 200);
        t.dueRow(0, 20, 40, 60, 80);
    }

    @Says(at = 0, words = "s the STATION,")
    static void sIsTheStation() {
        Talk t = by("s*10+1", of(6, "1a", "", ""));
        for (int s = 0; s < 6; s++) {
            due(t.x.toll(0, s), s * 10 + 1);
        }
    }

    @Says(at = 0, words = "h HOUR by 24 (rest),")
    static void hIsTheHourOfTheDay() {
        Talk t = by("h+1", words("1a"));
        int[] pauses = {0, 1, 22, 1, 1, 22, 1, 99};
        int[] want = {0, 1, 23, 0, 1, 23, 0, 3};
        for (int i = 0; i < pauses.length; i++) {
            t.x.pause(pauses[i]);
            due(t.x.toll(0, 0), want[i] + 1);
        }
    }

    @Says(at = 0, words = "l how many letters the WORD has,")
    static void lIsHowManyLetters() {
        Talk t = by("l*10", words("1a;1abcdfg;1bbba"));
        due(t.x.toll(0, 0), 10);
        due(t.x.toll(1, 0), 60);
        due(t.x.toll(2, 0), 40);
    }

    @Says(at = 0, words = "p at which place it stands (0 ..),")
    static void pIsThePlace() {
        Talk t = by("p*10+1", words("1abcdfe;1bo"));
        due(t.x.toll(0, 0), 52);
        t.dueRow(1, 51, 0, 0, 0);
        due(t.x.toll(1, 0), 11);
    }

    @Says(at = 0, words = "n how many VOWELS stand ahead of it,")
    static void nIsHowManyVowelsAreAhead() {
        Talk t = by("n*10+1", words("1aeioua;1bcaxye"));
        due(t.x.toll(0, 0), 156);
        t.dueRow(52, 11, 21, 31, 41);
        due(t.x.toll(1, 0), 12);
        t.dueRow(1, 11, 0, 0, 0);
    }

    @Says(at = 0, words = "d 1 if the letter ahead is the same.")
    static void dIsOneBehindTheSameLetter() {
        Talk t = by("d*10+1", words("1a;1aa;1aaa;1aba;1ae;1bba;1aaee;1eaa"));
        int[] want = {1, 12, 23, 2, 2, 1, 24, 13};
        for (int w = 0; w < want.length; w++) {
            due(t.x.toll(w, 0), want[w]);
        }
        // The WORD told ahead ends with the letter with which this one begins: none is ahead of its first.
        Talk u = by("d*10+1", words("1bcdfga;1abcdfa;1aa"));
        due(u.x.toll(0, 0), 1);
        due(u.x.toll(1, 0), 2);
        due(u.x.toll(2, 0), 12);
    }

    @Says(at = 0, words = "As ints,")
    static void rulesAreReckonedAsInts() {
        due(worth("512*512*512*16<0"), 1);
        due(worth("512*512*512*16=-(512*512*512*16)"), 1);
        due(worth("(512*512*512*16)/-1<0"), 1);
        due(worth("512*512*512*16-1>0"), 1);
        due(worth("512*512*512*32=0"), 1);
        due(worth("512*512*512*32+7"), 7);
        due(worth("-(512*512*512*16)-1>0"), 1);
        due(worth("0-(512*512*512*16-1)<0"), 1);
        due(worth("999*999*999*999<0"), 999 * 999 * 999 * 999 < 0 ? 1 : 0);
    }

    @Says(at = 0, words = "put to 0 .. 99.")
    static void aVowelCostsZeroToNinetyNine() {
        due(worth("98"), 98);
        due(worth("99"), 99);
        due(worth("100"), 99);
        due(worth("999*999"), 99);
        due(worth("0"), 0);
        due(worth("0-1"), 0);
        due(worth("0-999*999"), 0);
        due(worth("1"), 1);
        due(worth("512*512*512*16"), 0);
        due(worth("512*512*512*16-1"), 99);
        // Each VOWEL by itself: neither the sum is put there, nor what comes below 0 taken from it.
        due(by("v*10-5", words("1ae")).x.toll(0, 0), 5);
        due(by("v*200+50", words("1ae")).x.toll(0, 0), 149);
        due(by("v*200-100", words("1aei")).x.toll(0, 0), 198);
        // What stands inside is not put there.
        due(worth("100-50"), 50);
        due(worth("(0-5)+7"), 2);
    }

    // ---- TRAVELLERS

    @Says(at = 0, words = "TRAVELLERS 0 .. (at most 4;")
    static void travellersAreAtMostFour() {
        Talk t = new Talk();
        due(t.text("0:1;0:2;0:3;0:4;0:5").travellers(), -17);
        due(t.x.count(2), 0);
        due(t.text("0:1;0:2;0:3;0:4").travellers(), 4);
        due(t.x.count(2), 4);
        due(t.text("0:5").travellers(), -1);
        due(t.x.count(2), 4);
        Talk u = of(1, "", "0:1;0:2;0:3", "");
        due(u.text("0:4;0:5").travellers(), -5);
        due(u.x.count(2), 3);
        due(u.text("0:4").travellers(), 1);
    }

    @Says(at = 0, words = "written a .. d):")
    static void travellersAreWrittenAToD() {
        Talk t = of(1, "", "0:1;0:2;0:3;0:4", "");
        for (int who = 0; who < 4; who++) {
            due(t.text((char) ('a' + who) + "00=1").errands(), 1);
            due(t.x.errand(who, 0), who);
        }
        for (int wrong : new int[] {'a' - 1, 'd' + 1, 'A', 'D'}) {
            due(t.text((char) wrong + "00=1").errands(), -1);
        }
    }

    @Says(at = 0, words = "at a STATION, PURSE 0 .. 9999,")
    static void aPurseIsZeroTo9999() {
        Talk t = of(1, "", "0:0;0:999", "");
        due(t.x.traveller(0, 1), 0);
        due(t.x.traveller(1, 1), 999);
        t.x.sheet(2, 2, 9998, 1);
        due(t.x.traveller(0, 1), 9998);
        due(t.x.traveller(1, 1), 9999);
        t.x.sheet(2, 2, 10000, 0);
        due(t.x.traveller(0, 1), 9999);
        t.x.sheet(2, 2, 0, -1);
        due(t.x.traveller(0, 1), 0);
        due(t.x.traveller(1, 1), 0);
    }

    @Says(at = 0, words = "SPENT (at first 0).")
    static void atFirstNothingIsSpent() {
        Talk t = of(1, "1a", "0:9", "");
        due(t.x.traveller(0, 2), 0);
        t.x.say(0, 0);
        due(t.x.traveller(0, 2), 1);
        t.text("0:5").travellers();
        due(t.x.traveller(1, 2), 0);
        due(t.x.traveller(0, 2), 1);
    }

    @Says(at = 0, words = "They are told by a text of at most 40 signs: LINES with ; between, each one more:")
    static void linesOfTravellersHaveASemicolonBetween() {
        due(new Talk().text("0:999;0:999;0:999;0:999").travellers(), 4);
        // More than 40 signs are ever four LINES and more: the fifth one is in the way ahead of it.
        due(new Talk().text(times("0:999;", 13)).travellers(), -25);
        due(new Talk().text(times("0", 80)).travellers(), -2);
        due(new Talk().text(";0:1").travellers(), -1);
        due(new Talk().text("0:1;").travellers(), -5);
        due(new Talk().text("0:1;;0:2").travellers(), -5);
        due(new Talk().text("0:1,0:2").travellers(), -4);
        Talk t = of(2, "", "1:7", "");
        due(t.text("0:8;0:9").travellers(), 2);
        for (int who = 0; who < 3; who++) {
            due(t.x.traveller(who, 0), who == 0 ? 1 : 0);
            due(t.x.traveller(who, 1), 7 + who);
        }
    }

    @Says(at = 0, words = "a digit (a STATION that is there), :, a number (PURSE, 1 to 3 digits).")
    static void aTravellerIsAStationAndAPurse() {
        for (int stations = 1; stations <= 6; stations++) {
            due(of(stations, "", "", "").text((stations - 1) + ":5").travellers(), 1);
            due(of(stations, "", "", "").text(stations + ":5").travellers(), -1);
        }
        due(new Talk().text("/:5").travellers(), -1);
        due(new Talk().text("0;5").travellers(), -2);
        due(new Talk().text("00:5").travellers(), -2);
        due(new Talk().text("0:").travellers(), -3);
        due(new Talk().text("0:x").travellers(), -3);
        due(new Talk().text("0:-1").travellers(), -3);
        due(new Talk().text("0:5;0:55;0:555;0:000").travellers(), 4);
        due(new Talk().text("0:5555").travellers(), -6);
        due(of(1, "", "0:999", "").x.traveller(0, 1), 999);
        due(of(1, "", "0:07", "").x.traveller(0, 1), 7);
    }

    // ---- ERRANDS

    @Says(at = 0, words = "ERRANDS 0 .. (at most 8):")
    static void errandsAreAtMostEight() {
        Talk t = of(1, "", "0:1", "");
        due(t.text(times("a00=1;", 8) + "a00=1").errands(), -49);
        due(t.x.count(3), 0);
        due(t.text(times("a00=1;", 7) + "a00=1").errands(), 8);
        due(t.x.count(3), 8);
        due(t.text("a00=1").errands(), -1);
        due(t.x.count(3), 8);
        Talk u = of(1, "", "0:1", times("a00=1;", 6) + "a00=1");
        due(u.text("a00=1;a00=1").errands(), -7);
        due(u.x.count(3), 7);
        due(u.text("a00=1").errands(), 1);
    }

    @Says(at = 0, words = "whose, a MEANING (a digit), at which STATION, WORTH 0 .. 99, done or not.")
    static void anErrandHasFiveThings() {
        Talk t = of(6, "", "0:1;0:1;0:1;0:1", "a00=0;d95=99");
        int[][] want = {{0, 0, 0, 0, 0}, {3, 9, 5, 99, 0}};
        for (int e = 0; e < 2; e++) {
            for (int what = 0; what < 5; what++) {
                due(t.x.errand(e, what), want[e][what]);
            }
        }
    }

    @Says(at = 0, words = "done or not. They are told by a text of at most 76 signs: LINES with ; between, each one more:")
    static void linesOfErrandsHaveASemicolonBetween() {
        Talk t = of(1, "", "0:1", "");
        // More than 76 signs are ever more than eight LINES: the ninth one is in the way ahead of it.
        due(t.text(times("a00=99;", 11)).errands(), -57);
        due(t.text(";a00=1").errands(), -1);
        due(t.text("a00=1;").errands(), -7);
        due(t.text("a00=1;;a00=1").errands(), -7);
        due(t.text("a00=1,a00=1").errands(), -6);
        due(t.x.count(3), 0);
        due(t.text("a10=1").errands(), 1);
        due(t.text("a20=2;a30=3").errands(), 2);
        for (int e = 0; e < 3; e++) {
            due(t.x.errand(e, 1), e + 1);
            due(t.x.errand(e, 3), e + 1);
        }
    }

    @Says(at = 0, words = "a letter of a TRAVELLER, a digit (MEANING), a digit (STATION), =, WORTH (1 or 2 digits).")
    static void anErrandIsToldByFiveSignsAndMore() {
        Talk t = of(2, "", "0:1;0:1", "");
        String[] bad = {"c00=1", "`00=1", "a/0=1", "a:0=1", "a0/=1", "a02=1", "a00-1", "a00=", "a00=x", "a00=100", "a00=1x", "a"};
        int[] at = {0, 0, 1, 1, 2, 2, 3, 4, 4, 6, 5, 1};
        for (int i = 0; i < bad.length; i++) {
            due(t.text(bad[i]).errands(), -1 - at[i]);
        }
        due(t.text("b91=9;a00=00;a01=99;b00=07").errands(), 4);
        due(t.x.errand(0, 3), 9);
        due(t.x.errand(1, 3), 0);
        due(t.x.errand(2, 3), 99);
        due(t.x.errand(3, 3), 7);
    }

    // ---- what is said

    @Says(at = 0, words = "A WORD is said by a TRAVELLER where he is: its TOLL goes from PURSE (SPENT more);")
    static void theTollGoesFromThePurse() {
        Talk t = of(2, "1u", "0:15;1:15", "");
        by("v+s*5", t);
        due(t.x.say(0, 0), 4);
        due(t.x.say(1, 0), 9);
        due(t.x.say(0, 0), 4);
        due(t.x.traveller(0, 1), 7);
        due(t.x.traveller(0, 2), 8);
        due(t.x.traveller(1, 1), 6);
        due(t.x.traveller(1, 2), 9);
        // What is spent has no bound, other than PURSE.
        Talk rich = by("99", of(1, "1uuuuuu", "0:0", ""));
        for (int i = 1; i <= 20; i++) {
            rich.x.sheet(2, 1, 9999, 0);
            due(rich.x.say(0, 0), 594);
            due(rich.x.traveller(0, 1), 9405);
            due(rich.x.traveller(0, 2), 594 * i);
            due(rich.x.book(0, 4), 6 * i);
        }
    }

    @Says(at = 0, words = "THE BOOK of the STATION counts each VOWEL;")
    static void theBookCountsEachVowel() {
        Talk t = of(3, "1aaeiou;1bcd", "1:99", "");
        t.x.say(0, 0);
        t.x.say(0, 1);
        t.x.say(0, 0);
        for (int s = 0; s < 3; s++) {
            for (int v = 0; v < 5; v++) {
                due(t.x.book(s, v), s != 1 ? 0 : v == 0 ? 4 : 2);
            }
        }
    }

    @Says(at = 0, words = "all his ERRANDS there that are not done and whose MEANING is the WORD's (of a compound each of both) are done.")
    static void allHisErrandsThereAreDone() {
        Talk t = of(2, "12b;3c", "0:0;0:0", "a10=1;a20=1;a10=1;b10=1;a11=1;a30=1;b20=1;a21=1");
        due(t.x.say(0, 0), 0);
        t.dueRow(1 + 2 + 4);
        due(t.x.count(5), 1 + 2 + 4);
        due(t.x.say(0, 0), 0);
        t.dueRow(0);
        due(t.x.say(0, 1), 0);
        t.dueRow(32);
        due(t.x.say(1, 0), 0);
        t.dueRow(8 + 64);
        due(t.x.count(5), 1 + 2 + 4 + 8 + 32 + 64);
        t.x.walk(0, 1);
        due(t.x.say(0, 0), 0);
        t.dueRow(16 + 128);
        due(t.x.count(5), 255);
    }

    // ---- ROW, sets, fractions, questions, refused calls

    @Says(at = 0, words = "ROW: numbers told last by a call that says so.")
    static void onlyCallsThatSaySoTellTheRow() {
        Talk t = Twins.busy();
        due(t.x.toll(4, 2), 25);
        long[] row = {0, 0, 0, 16, 9};
        t.dueRow(row);
        t.x.sign(0x31613b32);
        t.x.end(2);
        t.x.words();
        t.x.road(3);
        t.text("0:1").travellers();
        t.text("a00=1").errands();
        t.text("v").rule();
        t.x.word(0, 0);
        t.x.traveller(0, 0);
        t.x.errand(0, 0);
        t.x.book(0, 0);
        t.x.sheet(2, 1, 9, 0);
        t.x.walk(0, 1);
        t.x.pause(3);
        t.x.alms(0, 1, 9999);
        t.x.undo();
        t.x.keep(0);
        t.x.again(0);
        t.x.count(0);
        t.x.row(0);
        t.dueRow(row);
        due(t.x.ask() >= 0, true);
        due(t.x.count(10), 1);
    }

    @Says(at = 0, words = "Rows of numbers are compared from the first on.")
    static void rowsAreComparedFromTheFirstOn() {
        // 0 2 is less than 1, though it has more numbers; 0 3 less than 1 2.
        Talk t = words("1b;12b;2b;1b");
        due(t.text("12").sentence(0), 0);
        t.dueRow(0, 2);
        Talk u = words("1a;1aa;1aa;1aaa");
        due(u.text("40000").said() > 0, true);
        u.dueRow(0, 3);
    }

    @Says(at = 0, words = "Sets (of WORDS, ERRANDS) are bits.")
    static void setsAreBits() {
        Talk t = of(1, "00b;11b;22b;33b;44b;55b;66b;77b;88b;99b", "0:0", times("a00=1;", 7) + "a90=1");
        due(t.x.count(8), 1023);
        due(t.x.code(0), 10);
        t.dueRow(1023);
        due(t.x.traveller(0, 3), 255);
        t.x.say(0, 9);
        t.dueRow(128);
        t.x.say(0, 0);
        t.dueRow(127);
    }

    @Says(at = 0, words = "Fractions are told in lowest terms, upper and lower number (0 by 1).")
    static void fractionsAreInLowestTerms() {
        Talk t = words("1ab");
        due(t.x.heard(0, 0, 0), 0);
        t.dueRow(0, 1);
        due(t.x.heard(0, 10, 0), 0);
        t.dueRow(1, 1);
        due(t.x.heard(0, 5, 0), 0);
        t.dueRow(1, 4);
        due(t.x.heard(0, 6, 0), 0);
        t.dueRow(9, 25);
        due(t.x.heard(0, 3, 0), 0);
        t.dueRow(9, 100);
    }

    @Says(at = 0, words = "Questions change nothing.")
    static void questionsChangeNothing() {
        Twins.asks(x -> x.word(0, 0));
        Twins.asks(x -> x.traveller(0, 3));
        Twins.asks(x -> x.errand(0, 4));
        Twins.asks(x -> x.book(1, 0));
        Twins.asks(x -> x.toll(3, 1));
        Twins.asks(x -> x.cheapest(1, 1));
        Twins.asksText("1213", x -> x.sentence(2));
        Twins.asks(x -> x.when(0, 0));
        Twins.asks(x -> x.shortest(1, 0, 9999));
        Twins.asks(x -> x.differ(0, 3));
        Twins.asks(x -> x.near(0));
        Twins.asks(x -> x.heard(0, 9, 2));
        Twins.asks(x -> x.code(3));
        Twins.asks(x -> x.trip(0, 12));
        Twins.asks(x -> x.haste(0));
        Twins.asks(x -> x.best(1));
        Twins.asks(x -> x.takes(1, 3));
        Twins.asks(x -> x.greed(1));
        Twins.asksText("h*9", x -> x.law(1));
        Twins.asksText("01010", x -> x.said());
        Twins.asks(x -> x.ask());
        Twins.asks(x -> x.years(77, 60));
        Twins.asks(x -> x.count(7));
        Twins.asks(x -> x.row(0));
    }

    @Says(at = 0, words = "Refused calls answer NONE, or false, and change nothing but THE TEXT, which a call that reads it empties.")
    static void refusedCallsAnswerNone() {
        due(TollOnVowels.NONE, -1);
        Twins.refuses(TollOnVowels.NONE, x -> x.road(0));
        Twins.refuses(0, x -> x.keep(2) ? 1 : 0);
        Twins.refusesText("1a;", -4, x -> x.words());
    }
}
