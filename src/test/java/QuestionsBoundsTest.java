import java.io.IOException;

/** The bounds that promises 21 to 36 name (sayings, what is heard, errands, tolls, laws, what was said): a test for each sentence. */
public final class QuestionsBoundsTest extends Bounds {
    public static void main(String[] args) throws IOException {
        run(QuestionsBoundsTest.class, 21, 22, 23, 24, 25, 26, 27, 28, 29, 30, 31, 32, 33, 34, 35, 36);
    }

    // ---- cheapest

    @Says(at = 21, words = "The WORD that means a MEANING (0 .. 9; also compounds of which it is one)")
    static void compoundsMeanBothOfTheirs() {
        Talk t = words("0i;9u;45e;54o");
        due(t.x.cheapest(0, 0), 0);
        t.dueRow(3, 1);
        due(t.x.cheapest(9, 0), 1);
        t.dueRow(5, 1);
        due(t.x.cheapest(4, 0), 2);
        t.dueRow(2, 2);
        due(t.x.cheapest(5, 0), 2);
        t.dueRow(2, 2);
    }

    @Says(at = 21, words = "and costs the least at a STATION now;")
    static void theCheapestIsOfThisStationAndHour() {
        Talk t = by("(v=0)*(s+h)*9+(v=1)*20", of(3, "1a;1e", "", ""));
        due(t.x.cheapest(1, 0), 0);
        t.dueRow(0, 2);
        due(t.x.cheapest(1, 2), 0);
        t.dueRow(18, 2);
        t.x.pause(1);
        due(t.x.cheapest(1, 2), 1);
        t.dueRow(20, 2);
        due(t.x.cheapest(1, 0), 0);
        t.dueRow(9, 2);
    }

    @Says(at = 21, words = "of equal ones the first: it;")
    static void ofAsCheapOnesTheFirst() {
        Talk t = words("1u;2e;1e;21e;1e;1i");
        due(t.x.cheapest(1, 0), 2);
        due(t.x.cheapest(2, 0), 1);
        // However many VOWELS or letters it is of.
        due(words("1ae;1i").x.cheapest(1, 0), 0);
        due(words("1i;1ae").x.cheapest(1, 0), 0);
        due(words("1bcdfgi;1i").x.cheapest(1, 0), 0);
        due(words("1o;1aaa").x.cheapest(1, 0), 1);
        due(words("1aaa;1e").x.cheapest(1, 0), 1);
    }

    @Says(at = 21, words = "the ROW: TOLL, how many WORDS mean it.")
    static void theCheapestTellsHowManyMeanIt() {
        Talk t = words("1u;44e;14e;2a");
        due(t.x.cheapest(4, 0), 1);
        t.dueRow(2, 2);
        due(t.x.cheapest(1, 0), 2);
        t.dueRow(2, 2);
        due(t.x.cheapest(2, 0), 3);
        t.dueRow(1, 1);
    }

    @Says(at = 21, words = "-2: none;")
    static void noWordMeansIt() {
        due(new Talk().x.cheapest(0, 0), -2);
        Twins.refuses(-2, x -> x.cheapest(9, 0));
        Twins.refuses(-2, x -> x.cheapest(0, 2));
    }

    @Says(at = 21, words = "NONE: others.")
    static void theCheapestOfNoMeaningOrStation() {
        for (int wrong : new int[] {-1, 10, LOW, HIGH}) {
            Twins.refuses(-1, x -> x.cheapest(wrong, 0));
        }
        for (int wrong : new int[] {-1, 3, LOW, HIGH}) {
            Twins.refuses(-1, x -> x.cheapest(1, wrong));
            Twins.refuses(-1, x -> x.cheapest(9, wrong));
        }
    }

    // ---- sentence

    @Says(at = 22, words = "THE TEXT tells a sentence (1 to 12 digits):")
    static void aSentenceHasOneToTwelveDigits() {
        Talk t = words("1a;0e;9i");
        due(t.text("1").sentence(0), 1);
        due(t.x.count(11), 0);
        due(t.text(times("1", 12)).sentence(0), 12);
        t.dueRow(0, 0, 0, 0, 0, 0, 0, 0, 0, 0, 0, 0);
        due(t.text("09").sentence(0), 5);
        t.dueRow(1, 2);
    }

    @Says(at = 22, words = "the least TOLL by which it is said at a STATION now,")
    static void aSentenceIsSaidForTheLeastToll() {
        Talk t = by("v+s*9+h", of(2, "1u;1e;1o;2i", "", ""));
        due(t.text("121").sentence(0), 1 + 2 + 1);
        t.dueRow(1, 3, 1);
        due(t.text("121").sentence(1), 1 + 2 + 1 + 27);
        t.x.pause(2);
        due(t.text("121").sentence(1), 1 + 2 + 1 + 27 + 6);
        // As dear as it can be.
        Talk dear = by("99", words("1uuuuuu"));
        due(dear.text(times("1", 12)).sentence(0), 12 * 6 * 99);
    }

    @Says(at = 22, words = "MEANING by MEANING, or two at once by a compound that means just these in this order")
    static void aCompoundTellsTwoInItsOrder() {
        Talk t = words("12e;1a;2i;22a");
        due(t.text("12").sentence(0), 2);
        t.dueRow(0);
        due(t.text("21").sentence(0), 4);
        t.dueRow(2, 1);
        due(t.text("1212").sentence(0), 4);
        t.dueRow(0, 0);
        due(t.text("122").sentence(0), 2);
        t.dueRow(1, 3);
        due(t.text("22").sentence(0), 1);
        t.dueRow(3);
        due(t.text("112").sentence(0), 3);
        t.dueRow(1, 0);
        due(t.text(times("12", 6)).sentence(0), 12);
        t.dueRow(0, 0, 0, 0, 0, 0);
    }

    @Says(at = 22, words = "(a compound tells nothing else here): how much;")
    static void aCompoundTellsNothingElse() {
        Talk t = words("12b;11c");
        due(t.text("1").sentence(0), -200);
        due(t.text("2").sentence(0), -200);
        due(t.text("21").sentence(0), -200);
        due(t.text("111").sentence(0), -200);
        due(t.text("12").sentence(0), 0);
        due(t.text("11").sentence(0), 0);
        due(t.text("1112").sentence(0), 0);
        t.dueRow(1, 0);
        // A digit behind the end of THE TEXT is not there.
        t.x.sign(0x31323132);
        t.x.end(3);
        due(t.x.sentence(0), -200);
    }

    @Says(at = 22, words = "the ROW: the WORDS: of as cheap ones the least row.")
    static void ofAsCheapSentencesTheLeastRow() {
        Talk t = words("1b;12c;2d;1f;2g");
        due(t.text("12").sentence(0), 0);
        t.dueRow(0, 2);
        due(t.text("2121").sentence(0), 0);
        t.dueRow(2, 0, 2, 0);
        Talk u = words("12c;1b;2d");
        due(u.text("12").sentence(0), 0);
        u.dueRow(0);
        due(u.text("112").sentence(0), 0);
        u.dueRow(1, 0);
        // What costs more is no matter: not the least row of all.
        Talk v = words("1a;1b;2b");
        due(v.text("12").sentence(0), 0);
        v.dueRow(1, 2);
        // From the first on: the last one is dearer in none, though it could be lower.
        Talk w = words("1e;12a;2b;1b;2e");
        due(w.text("12").sentence(0), 0);
        w.dueRow(3, 2);
    }

    @Says(at = 22, words = "-1 - p: the sign at p can't stand there")
    static void aSentenceFailsAtItsFirstWrongSign() {
        Twins.refusesText("x", -1, x -> x.sentence(0));
        Twins.refusesText("1x", -2, x -> x.sentence(0));
        Twins.refusesText("1;2", -2, x -> x.sentence(0));
        Twins.refusesText("1/", -2, x -> x.sentence(0));
        Twins.refusesText("1:", -2, x -> x.sentence(0));
        Twins.refusesText(times("1", 11) + "x", -12, x -> x.sentence(0));
        Twins.refusesText(times("1", 11) + "x11", -12, x -> x.sentence(0));
    }

    @Says(at = 22, words = "(its end for none;")
    static void aSentenceOfNothing() {
        Twins.refusesText("", -1, x -> x.sentence(0));
        due(new Talk().x.sentence(0), -1);
    }

    @Says(at = 22, words = "a thirteenth sign: at it);")
    static void aThirteenthSign() {
        Twins.refusesText(times("1", 13), -13, x -> x.sentence(0));
        Twins.refusesText(times("1", 12) + "x", -13, x -> x.sentence(0));
        Twins.refusesText(times("1", 80), -13, x -> x.sentence(0));
        due(Twins.busy().text(times("1", 12)).sentence(0) >= 0, true);
    }

    @Says(at = 22, words = "-100: none such (asked first);")
    static void aSentenceAtNoStation() {
        for (int wrong : new int[] {-1, 3, LOW, HIGH}) {
            for (String text : new String[] {"1", "", "x", "9", times("1", 13)}) {
                Twins.refusesText(text, -100, x -> x.sentence(wrong));
            }
        }
        due(Twins.busy().text("1").sentence(2) >= 0, true);
    }

    @Says(at = 22, words = "-200: it can't be said.")
    static void aSentenceThatCantBeSaid() {
        Twins.refusesText("9", -200, x -> x.sentence(0));
        Twins.refusesText("19", -200, x -> x.sentence(0));
        Twins.refusesText("91", -200, x -> x.sentence(0));
        Twins.refusesText("191", -200, x -> x.sentence(0));
        due(new Talk().text("1").sentence(0), -200);
    }

    // ---- when

    @Says(at = 23, words = "The HOUR from now (0 .. 23) in which a WORD costs the least at a STATION;")
    static void theCheapestHourIsWithinADay() {
        Talk t = by("24-h+s", of(2, "1a", "", ""));
        due(t.x.when(0, 0), 23);
        t.dueRow(1, 24);
        due(t.x.when(0, 1), 23);
        t.dueRow(2, 25);
        t.x.pause(23);
        due(t.x.when(0, 0), 0);
        t.dueRow(1, 1);
        t.x.pause(1);
        due(t.x.when(0, 0), 23);
        t.x.pause(6);
        due(t.x.when(0, 0), 17);
        t.dueRow(1, 18);
        by("h", t);
        due(t.x.when(0, 0), 18);
        t.dueRow(0, 6);
        due(t.x.count(4), 30);
        by("s*(h=7)*9+(1-s)*9*(h=5)", t);
        due(t.x.when(0, 0), 0);
        due(t.x.when(0, 1), 0);
        by("9-s*(h=7)*9-(1-s)*9*(h=5)", t);
        due(t.x.when(0, 0), 23);
        due(t.x.when(0, 1), 1);
    }

    @Says(at = 23, words = "of equal ones the first: it;")
    static void ofAsCheapHoursTheFirst() {
        Talk t = words("1a;1b");
        due(t.x.when(0, 0), 0);
        due(t.x.when(1, 0), 0);
        by("h=0", t);
        due(t.x.when(0, 0), 1);
        by("(h<5)+(h>9)", t);
        due(t.x.when(0, 0), 5);
        t.x.pause(7);
        due(t.x.when(0, 0), 0);
    }

    @Says(at = 23, words = "the ROW: TOLL then, how much it is now.")
    static void whenTellsBothTolls() {
        Talk t = by("50-h*2", words("1ab"));
        due(t.x.when(0, 0), 23);
        t.dueRow(4, 50);
        t.x.pause(10);
        due(t.x.when(0, 0), 13);
        t.dueRow(4, 30);
    }

    @Says(at = 23, words = "NONE: none such.")
    static void whenOfNoWordOrStation() {
        for (int wrong : new int[] {-1, 5, LOW, HIGH}) {
            Twins.refuses(-1, x -> x.when(wrong, 0));
        }
        for (int wrong : new int[] {-1, 3, LOW, HIGH}) {
            Twins.refuses(-1, x -> x.when(0, wrong));
        }
        due(Twins.busy().x.when(4, 2) >= 0, true);
    }

    // ---- shortest

    @Says(at = 24, words = "The WORD for a MEANING (as cheapest())")
    static void theShortestIsOfAMeaning() {
        Talk t = words("1aa;29e;0bbb;3b");
        due(t.x.shortest(1, 0, 9999), 0);
        due(t.x.shortest(2, 0, 9999), 1);
        due(t.x.shortest(9, 0, 9999), 1);
        due(t.x.shortest(0, 0, 9999), 2);
        t.dueRow(3, 0);
    }

    @Says(at = 24, words = "with the fewest letters of those that cost no more than n (0 .. 9999) at a STATION now;")
    static void theShortestCostsNoMoreThanThat() {
        Talk t = by("v+1+s+h", of(2, "5bcd;5uu;5u", "", ""));
        due(t.x.shortest(5, 0, 9999), 2);
        due(t.x.shortest(5, 0, 5), 2);
        t.dueRow(1, 5);
        due(t.x.shortest(5, 0, 4), 0);
        t.dueRow(3, 0);
        due(t.x.shortest(5, 0, 0), 0);
        due(t.x.shortest(5, 1, 5), 0);
        due(t.x.shortest(5, 1, 6), 2);
        t.x.pause(2);
        due(t.x.shortest(5, 1, 7), 0);
        due(t.x.shortest(5, 1, 8), 2);
    }

    @Says(at = 24, words = "of equal ones the cheaper one, then the first: it;")
    static void ofAsShortOnesTheCheaperThenTheFirst() {
        Talk t = words("5uu;5ao;50oa;5bcd;5ao");
        due(t.x.shortest(5, 0, 9999), 1);
        due(t.x.shortest(0, 0, 9999), 2);
        Talk u = words("5oa;5ao;5bb;5cc");
        due(u.x.shortest(5, 0, 9999), 2);
        // One letter fewer is fewer, whatever it costs.
        due(words("5bcd;5uu").x.shortest(5, 0, 9999), 1);
        due(words("5uu;5bcd").x.shortest(5, 0, 9999), 0);
    }

    @Says(at = 24, words = "the ROW: letters, TOLL.")
    static void theShortestTellsLettersAndToll() {
        Talk t = words("1uuuuuu");
        due(t.x.shortest(1, 0, 30), 0);
        t.dueRow(6, 30);
    }

    @Says(at = 24, words = "-2: none;")
    static void noneIsShortEnough() {
        Talk t = words("1u");
        due(t.x.shortest(1, 0, 5), 0);
        due(t.x.shortest(1, 0, 4), -2);
        due(t.x.shortest(2, 0, 9999), -2);
        Twins.refuses(-2, x -> x.shortest(9, 0, 9999));
        Twins.refuses(-2, x -> x.shortest(3, 0, 1));
    }

    @Says(at = 24, words = "NONE: others.")
    static void theShortestOfNoMeaningStationOrPrice() {
        for (int wrong : new int[] {-1, 10, LOW, HIGH}) {
            Twins.refuses(-1, x -> x.shortest(wrong, 0, 9));
        }
        for (int wrong : new int[] {-1, 3, LOW, HIGH}) {
            Twins.refuses(-1, x -> x.shortest(1, wrong, 9));
        }
        for (int wrong : new int[] {-1, 10000, LOW, HIGH}) {
            Twins.refuses(-1, x -> x.shortest(1, 0, wrong));
            Twins.refuses(-1, x -> x.shortest(9, 0, wrong));
        }
    }

    // ---- differ

    @Says(at = 25, words = "By how many changes two WORDS differ (a letter put in, left out, or another one): the fewest;")
    static void wordsDifferByTheFewestChanges() {
        Talk t = words("1abc;1abcd;1abx;1bac;1abcdef;1ghijkl;1bcdefa;1x;1abc");
        int[][] want = {{0, 1, 1}, {1, 0, 1}, {0, 2, 1}, {0, 3, 2}, {4, 5, 6}, {4, 6, 2}, {4, 7, 6}, {7, 2, 2}, {0, 8, 0}, {0, 0, 0}, {7, 5, 6}};
        for (int[] w : want) {
            due(t.x.differ(w[0], w[1]), w[2]);
            due(t.x.differ(w[1], w[0]), w[2]);
        }
    }

    @Says(at = 25, words = "the ROW: by how many of their VOWELS alone (as rows of VOWELS, so changed).")
    static void vowelsAloneDiffer() {
        Talk t = words("1bcd;1aeioux;1eioua;1xaye;1ae;1a");
        int[][] want = {{0, 1, 5}, {1, 2, 2}, {3, 4, 0}, {0, 0, 0}, {4, 5, 1}, {0, 5, 1}, {1, 5, 4}};
        for (int[] w : want) {
            t.x.differ(w[0], w[1]);
            t.dueRow(w[2]);
            t.x.differ(w[1], w[0]);
            t.dueRow(w[2]);
        }
    }

    @Says(at = 25, words = "NONE: none such.")
    static void noWordToDiffer() {
        for (int wrong : new int[] {-1, 5, LOW, HIGH}) {
            Twins.refuses(-1, x -> x.differ(wrong, 0));
            Twins.refuses(-1, x -> x.differ(0, wrong));
        }
        due(Twins.busy().x.differ(4, 4), 0);
    }

    // ---- near

    @Says(at = 26, words = "The other WORD that differs the least from a WORD;")
    static void theNearestIsAnother() {
        Talk t = words("1abc;1xyz;1abd;1xy");
        due(t.x.near(0), 2);
        due(t.x.near(1), 3);
        due(t.x.near(2), 0);
        due(t.x.near(3), 1);
    }

    @Says(at = 26, words = "of equal ones the first: it;")
    static void ofAsNearOnesTheFirst() {
        Talk t = words("1abc;1abd;1abe;1abf");
        due(t.x.near(0), 1);
        due(t.x.near(1), 0);
        due(t.x.near(3), 0);
    }

    @Says(at = 26, words = "the ROW: by how many, 1 if they share a MEANING, else 0.")
    static void theNearestTellsWhetherAMeaningIsShared() {
        String[] pairs = {"1abc;1abd", "1abc;2abd", "12abc;2abd", "2abc;12abd", "12abc;31abd", "12abc;34abd", "11abc;12abd", "12abc;32abd"};
        int[] shared = {1, 0, 1, 1, 1, 0, 1, 1};
        for (int i = 0; i < pairs.length; i++) {
            Talk t = words(pairs[i]);
            due(t.x.near(0), 1);
            t.dueRow(1, shared[i]);
            due(t.x.near(1), 0);
            t.dueRow(1, shared[i]);
        }
        Talk same = words("1abcdef;2abcdef");
        due(same.x.near(0), 1);
        same.dueRow(0, 0);
        Talk far = words("1abcdef;1ghijkl");
        due(far.x.near(0), 1);
        far.dueRow(6, 1);
    }

    @Says(at = 26, words = "-2: there is none;")
    static void noOtherWordIsNear() {
        Talk t = words("1a");
        due(t.x.near(0), -2);
        t.dueRow();
        Twins.refuses(() -> by("v", words("1a")), -2, x -> x.near(0));
    }

    @Says(at = 26, words = "NONE: none such.")
    static void noWordToBeNear() {
        for (int wrong : new int[] {-1, 5, LOW, HIGH}) {
            Twins.refuses(-1, x -> x.near(wrong));
        }
        due(new Talk().x.near(0), -1);
        due(words("1a").x.near(1), -1);
    }

    // ---- heard

    @Says(at = 27, words = "How likely a WORD is understood, if each letter is heard right by p tenths (0 .. 10), wrong else,")
    static void aLetterIsHeardByTenths() {
        Talk t = words("1a;1ab");
        due(t.x.heard(0, 0, 0), 0);
        t.dueRow(0, 1);
        due(t.x.heard(0, 1, 0), 0);
        t.dueRow(1, 10);
        due(t.x.heard(0, 9, 0), 0);
        t.dueRow(9, 10);
        due(t.x.heard(0, 10, 0), 0);
        t.dueRow(1, 1);
        due(t.x.heard(1, 3, 0), 0);
        t.dueRow(9, 100);
        due(t.x.heard(1, 3, 1), 0);
        t.dueRow(51, 100);
    }

    @Says(at = 27, words = "and it is taken for what it was as long as at most n (0 .. 2) letters are not: 0;")
    static void atMostTwoLettersMayBeWrong() {
        Talk t = words("1abcdef;1a;1abc");
        int[][] asked = {{0, 5, 0, 1, 64}, {0, 5, 1, 7, 64}, {0, 5, 2, 11, 32}, {1, 0, 1, 1, 1}, {1, 0, 2, 1, 1}, {1, 5, 2, 1, 1},
            {2, 5, 2, 7, 8}, {2, 0, 2, 0, 1}, {0, 0, 2, 0, 1}, {0, 10, 2, 1, 1}, {0, 1, 2, 127, 100000}};
        for (int[] a : asked) {
            due(t.x.heard(a[0], a[1], a[2]), 0);
            t.dueRow(a[3], a[4]);
        }
    }

    @Says(at = 27, words = "the ROW: the fraction.")
    static void whatIsHeardIsAFraction() {
        Talk t = words("1abcdef");
        due(t.x.heard(0, 9, 0), 0);
        t.dueRow(531441, 1000000);
        due(t.x.heard(0, 8, 0), 0);
        t.dueRow(4096, 15625);
        due(t.x.heard(0, 9, 1), 0);
        t.dueRow(177147, 200000);
    }

    @Says(at = 27, words = "NONE: others.")
    static void whatCantBeHeard() {
        for (int wrong : new int[] {-1, 5, LOW, HIGH}) {
            Twins.refuses(-1, x -> x.heard(wrong, 5, 1));
        }
        for (int wrong : new int[] {-1, 11, LOW, HIGH}) {
            Twins.refuses(-1, x -> x.heard(0, wrong, 1));
        }
        for (int wrong : new int[] {-1, 3, LOW, HIGH}) {
            Twins.refuses(-1, x -> x.heard(0, 5, wrong));
        }
        due(new Talk().x.heard(0, 5, 1), -1);
    }

    // ---- code

    @Says(at = 28, words = "The most WORDS of which each two differ by n (0 .. 6) or more: how many;")
    static void aCodeHasTheMostWords() {
        Talk t = words("1abcdef;1ghijkl;1abcdef;1abcdex;1ghijxy");
        int[] many = {5, 4, 3, 2, 2, 2, 2};
        int[] set = {31, 27, 19, 3, 3, 3, 3};
        for (int n = 0; n <= 6; n++) {
            due(t.x.code(n), many[n]);
            t.dueRow(set[n]);
        }
        Talk u = words("1b;1c;1df;1ghj;1klmnpq");
        due(u.x.code(1), 5);
        due(u.x.code(2), 4);
        due(u.x.code(3), 3);
        due(u.x.code(6), 2);
        u.dueRow(1 + 16);
        due(words(times("1b;", 9) + "1b").x.code(0), 10);
        due(words(times("1b;", 9) + "1b").x.code(1), 1);
    }

    @Says(at = 28, words = "the ROW: they (bits: of as many those that cost the least together at STATION 0 now,")
    static void ofAsManyTheCheapestCode() {
        Talk t = by("(1-s)*(v+1)+h*(v<2)*9", of(2, "1u;1a;1o;1e", "", ""));
        due(t.x.code(2), 1);
        t.dueRow(2);
        t.x.pause(1);
        due(t.x.code(2), 1);
        t.dueRow(4);
        Talk zero = by("10-(s<0)*(v=1)", of(2, "1a;1e", "", ""));
        due(zero.x.code(2), 1);
        zero.dueRow(1);
        Talk u = words("1abu;1xye;1abe;1xyu");
        due(u.x.code(2), 2);
        u.dueRow(2 + 4);
    }

    @Says(at = 28, words = "then the least).")
    static void ofAsCheapCodesTheLeast() {
        Talk t = words("1b;1c;1d");
        due(t.x.code(2), 1);
        t.dueRow(1);
        Talk u = words("1bb;1cc;1bc;1cb;1bb");
        due(u.x.code(2), 2);
        u.dueRow(3);
        Talk v = words("1xb;1yc;1yb;1xc");
        due(v.x.code(2), 2);
        v.dueRow(3);
        Talk none = new Talk();
        due(none.x.code(0), 0);
        none.dueRow(0);
        due(none.x.code(6), 0);
        none.dueRow(0);
    }

    @Says(at = 28, words = "NONE: another n.")
    static void aCodeOfAnotherDistance() {
        for (int wrong : new int[] {-1, 7, LOW, HIGH}) {
            Twins.refuses(-1, x -> x.code(wrong));
        }
    }

    // ---- trip

    @Says(at = 29, words = "The least TOLL by which a TRAVELLER does all his ERRANDS that are not done,")
    static void aTripDoesAllHisErrands() {
        Talk t = of(2, "1a;1u;2e;12o;3b", "0:0;0:0", "a10=1;a20=1;b31=1;a31=1;a10=1");
        due(t.x.trip(0, 12), 3);
        t.dueRow(1, 4);
        due(t.x.trip(1, 12), 0);
        t.dueRow(1, 1);
        // Done ones are no matter; without any he is ready.
        t.x.sheet(2, 2, 50, 0);
        t.x.say(0, 2);
        due(t.x.trip(0, 12), 1);
        t.dueRow(1, 3);
        t.x.say(0, 0);
        due(t.x.trip(0, 12), 0);
        t.dueRow(1, 1);
        t.x.walk(0, 1);
        t.x.say(0, 4);
        due(t.x.trip(0, 0), 0);
        t.dueRow(0, 0);
    }

    @Says(at = 29, words = "walking and waiting (an HOUR each; any many WORDS can be said in an HOUR)")
    static void anHourGoesByForEachStation() {
        for (int s = 0; s < 6; s++) {
            Talk t = of(6, "1a", "0:0", "a1" + s + "=1");
            due(t.x.trip(0, s), 1);
            t.dueRow(s, 1);
            if (s > 0) {
                due(t.x.trip(0, s - 1), -2);
            }
        }
        Talk back = of(6, "1a", "2:0", "a10=1;a15=1");
        due(back.x.trip(0, 6), -2);
        due(back.x.trip(0, 7), 2);
        back.dueRow(7, 2);
        Talk many = of(1, "1a;2e;3i;4o", "0:0", "a10=1;a20=1;a30=1;a40=1");
        due(many.x.trip(0, 0), 10);
        many.dueRow(0, 4);
        Talk waits = by("12-h", of(1, "1a", "0:0", "a10=1"));
        for (int n = 0; n <= 12; n++) {
            due(waits.x.trip(0, n), 12 - n);
            waits.dueRow(n, 1);
        }
        // He may wait and walk in turns: at 0 in HOUR 1, at 1 in HOUR 4.
        Talk turns = by("50-(s=0)*(h=1)*50-(s=1)*(h=4)*50", of(2, "1a", "0:0", "a10=1;a11=1"));
        due(turns.x.trip(0, 4), 0);
        turns.dueRow(4, 2);
        due(turns.x.trip(0, 3), 50);
        turns.dueRow(2, 2);
    }

    @Says(at = 29, words = "in at most n HOURS (0 .. 12) from now,")
    static void aTripTakesAtMostTwelveHours() {
        Talk t = by("(h<12)*9+(h>12)*9+1", of(1, "1a", "0:0", "a10=1"));
        due(t.x.trip(0, 11), 10);
        t.dueRow(0, 1);
        due(t.x.trip(0, 12), 1);
        t.dueRow(12, 1);
        by("(h<13)*9+1", t);
        due(t.x.trip(0, 12), 10);
        t.dueRow(0, 1);
        // From now on, over the end of the day.
        t.x.pause(20);
        by("h", t);
        due(t.x.trip(0, 3), 20);
        t.dueRow(0, 1);
        due(t.x.trip(0, 4), 0);
        t.dueRow(4, 1);
    }

    @Says(at = 29, words = "saying there WORDS as he likes (by the TOLL of the HOUR in which it is said);")
    static void aTripPaysByTheHourOfEachWord() {
        Talk t = by("h*5+v", of(3, "1a;2e;12i", "0:0", "a10=1;a11=1;a22=1"));
        due(t.x.trip(0, 12), 0 + 5 + 11);
        t.dueRow(2, 3);
        // One WORD for two, or each by its own, as it is cheaper.
        Talk two = of(1, "1a;2e;12i", "0:0", "a10=1;a20=1");
        due(two.x.trip(0, 0), 3);
        by("v=2", two);
        due(two.x.trip(0, 0), 0);
        by("5-v", two);
        due(two.x.trip(0, 0), 3);
        by("9", two);
        due(two.x.trip(0, 0), 9);
        // One WORD for as many ERRANDS as mean it there; elsewhere it is said again.
        Talk same = of(2, "1u", "0:0", "a10=1;a10=1;a10=1;a11=1");
        due(same.x.trip(0, 12), 10);
        same.dueRow(1, 4);
        // What it does besides is no harm.
        Talk besides = of(1, "12a;1u;23a;3u", "0:0", "a10=1;a20=1;a30=1");
        due(besides.x.trip(0, 0), 2);
    }

    @Says(at = 29, words = "PURSE left aside: how much;")
    static void aTripLeavesThePurseAside() {
        Talk t = by("99", of(1, "1uuuuuu", "0:0", "a10=1"));
        due(t.x.trip(0, 0), 594);
        t.x.sheet(2, 1, 9999, 0);
        due(t.x.trip(0, 0), 594);
        // As dear as it can be: eight WORDS for eight ERRANDS.
        Talk dear = by("99", of(1, "0uuuuuu;1uuuuuu;2uuuuuu;3uuuuuu", "0:0", "a00=1;a10=1;a20=1;a30=1"));
        due(dear.text("4uuuuuu;5uuuuuu;6uuuuuu;7uuuuuu").words(), 4);
        due(dear.text("a40=1;a50=1;a60=1;a70=1").errands(), 4);
        due(dear.x.trip(0, 12), 8 * 594);
        dear.dueRow(0, 8);
    }

    @Says(at = 29, words = "the ROW: in how many HOURS at the soonest for that TOLL, how many ERRANDS they are.")
    static void aTripTellsTheSoonest() {
        Talk t = by("(h<3)*9", of(1, "1a", "0:0", "a10=1;a10=1"));
        due(t.x.trip(0, 12), 0);
        t.dueRow(3, 2);
        due(t.x.trip(0, 2), 9);
        t.dueRow(0, 2);
        Talk far = of(6, "1b", "5:0", "a10=1;a13=1");
        due(far.x.trip(0, 12), 0);
        far.dueRow(5, 2);
    }

    @Says(at = 29, words = "-2: it can't be;")
    static void aTripThatCantBe() {
        Talk t = of(1, "1a", "0:0", "a10=1;a20=1");
        due(t.x.trip(0, 12), -2);
        t.dueRow();
        Twins.refuses(() -> {
            Talk u = Twins.busy();
            u.text("a92=1").errands();
            return u;
        }, -2, x -> x.trip(0, 12));
        Twins.refuses(() -> {
            Talk u = Twins.busy();
            u.text("a12=1").errands();
            return u;
        }, -2, x -> x.trip(0, 0));
    }

    @Says(at = 29, words = "NONE: others.")
    static void aTripOfNobodyOrOfOtherHours() {
        for (int wrong : new int[] {-1, 2, LOW, HIGH}) {
            Twins.refuses(-1, x -> x.trip(wrong, 5));
        }
        for (int wrong : new int[] {-1, 13, LOW, HIGH}) {
            Twins.refuses(-1, x -> x.trip(0, wrong));
        }
        due(new Talk().x.trip(0, 0), -1);
    }

    // ---- haste

    @Says(at = 30, words = "The fewest HOURS (0 .. 12) in which a TRAVELLER can do all his ERRANDS that are not done, whatever it costs: how many;")
    static void hasteTakesTheFewestHours() {
        Talk t = by("9-h", of(6, "1a", "2:0;0:0", "a12=1"));
        due(t.x.haste(0), 0);
        due(t.x.haste(1), 0);
        t.dueRow(0);
        t.text("a10=1").errands();
        due(t.x.haste(0), 2);
        t.text("a15=1").errands();
        due(t.x.haste(0), 7);
        t.x.walk(0, 1);
        due(t.x.haste(0), 7);
        t.x.sheet(2, 2, 999, 0);
        t.x.walk(0, 1);
        t.x.walk(0, 1);
        t.x.say(0, 0);
        due(t.x.haste(0), 5);
    }

    @Says(at = 30, words = "the ROW: the least TOLL in these.")
    static void hasteTellsTheLeastTollInThese() {
        // He comes by 1 twice on the way from 1 to 0 and 2: he says it there when it is cheaper.
        Talk t = by("(h=0)*9+1", of(3, "1a;1aa", "1:0", "a10=1;a11=1;a12=1"));
        due(t.x.haste(0), 3);
        t.dueRow(3);
        by("(h>0)*9+1", t);
        due(t.x.haste(0), 3);
        t.dueRow(10 + 1 + 10);
        // Waiting would make it cheaper; haste does not wait.
        Talk now = by("9-h", of(1, "1a;1e", "0:0", "a10=1"));
        due(now.x.haste(0), 0);
        now.dueRow(9);
    }

    @Says(at = 30, words = "-2: it can't be in 12;")
    static void hasteThatCantBe() {
        Talk t = of(1, "1a", "0:0", "a10=1;a20=1");
        due(t.x.haste(0), -2);
        t.dueRow();
        Twins.refuses(() -> {
            Talk u = Twins.busy();
            u.text("a92=1").errands();
            return u;
        }, -2, x -> x.haste(0));
    }

    @Says(at = 30, words = "NONE: none such.")
    static void hasteOfNobody() {
        for (int wrong : new int[] {-1, 2, LOW, HIGH}) {
            Twins.refuses(-1, x -> x.haste(wrong));
        }
        due(new Talk().x.haste(0), -1);
    }

    // ---- best

    @Says(at = 31, words = "The most WORTH of his ERRANDS that a TRAVELLER can do at the STATION where he is, now, with PURSE")
    static void theMostWorthForThePurse() {
        int[][] want = {{0, 1, 4, 0}, {1, 6, 5, 1}, {2, 8, 6, 2}, {3, 13, 7, 3}, {4, 13, 7, 3}, {5, 13, 7, 3}, {6, 15, 39, 6}, {9999, 15, 39, 6}};
        for (int[] w : want) {
            Talk t = of(2, "1a;1u;2e;3b;45i", "0:3;0:0", "a10=5;a20=7;a30=1;a11=90;b10=50;a40=2;a90=99");
            t.x.sheet(2, 1, w[0], 0);
            due(t.x.best(0), w[1]);
            t.dueRow(w[2], w[3]);
        }
        // Those that are done are no more to be done; the TOLL is that of this HOUR and STATION.
        Talk t = by("v+h+s", of(2, "1a;2e", "1:4", "a11=5;a21=7"));
        due(t.x.best(0), 12);
        t.dueRow(3, 3);
        t.x.pause(1);
        due(t.x.best(0), 7);
        t.dueRow(2, 3);
        due(t.x.say(0, 0), 2);
        due(t.x.best(0), 0);
        t.dueRow(0, 0);
    }

    @Says(at = 31, words = "(each by the cheapest WORD for it alone): how much;")
    static void eachErrandIsPaidAlone() {
        Talk t = of(1, "12a;1u", "0:1", "a10=5;a20=4;a10=3");
        due(t.x.best(0), 5);
        t.dueRow(1, 1);
        t.x.sheet(2, 1, 2, 0);
        due(t.x.best(0), 9);
        t.dueRow(3, 2);
        t.x.sheet(2, 1, 3, 0);
        due(t.x.best(0), 12);
        t.dueRow(7, 3);
        // The least TOLL, however many VOWELS it is of.
        Talk many = of(1, "1o;1aaa", "0:99", "a10=1");
        due(many.x.best(0), 1);
        many.dueRow(1, 3);
        Talk few = of(1, "1aaa;1e", "0:99", "a10=1");
        due(few.x.best(0), 1);
        few.dueRow(1, 2);
    }

    @Says(at = 31, words = "the ROW: they (bits: of as much WORTH the cheapest,")
    static void ofAsMuchWorthTheCheapest() {
        Talk t = of(1, "1a;2e", "0:2", "a20=5;a10=5");
        due(t.x.best(0), 5);
        t.dueRow(2, 1);
        Talk u = of(1, "1a;2e", "0:9", "a20=0;a10=5");
        due(u.x.best(0), 5);
        u.dueRow(2, 1);
        Talk none = of(1, "1a", "0:9", "a10=0");
        due(none.x.best(0), 0);
        none.dueRow(0, 0);
    }

    @Says(at = 31, words = "then the least), TOLL.")
    static void ofAsCheapErrandsTheLeast() {
        Talk t = of(1, "1a;2a", "0:1", "a20=5;a10=5;a10=5");
        due(t.x.best(0), 5);
        t.dueRow(1, 1);
        t.x.sheet(2, 1, 2, 0);
        due(t.x.best(0), 10);
        t.dueRow(3, 2);
        Talk free = of(1, "1b", "0:1", "a10=0;a10=7;a10=0");
        due(free.x.best(0), 7);
        free.dueRow(2, 0);
    }

    @Says(at = 31, words = "NONE: none such.")
    static void theBestOfNobody() {
        for (int wrong : new int[] {-1, 2, LOW, HIGH}) {
            Twins.refuses(-1, x -> x.best(wrong));
        }
        due(new Talk().x.best(0), -1);
    }

    // ---- takes, greed

    private static Talk taxed() {
        return of(2, "1a;1u;2uu;3b", "0:0;0:0", "a10=5;b10=4;a20=12;a30=0;a11=50;a90=99");
    }

    @Says(at = 32, words = "If each VOWEL cost x (0 .. 99) more at a STATION,")
    static void eachVowelCostsSoMuchMore() {
        Talk t = of(1, "1uuuuuu;2a", "0:0", "a10=99;a20=99");
        due(t.x.takes(0, 0), 31);
        due(t.x.takes(0, 1), 36 + 2);
        due(t.x.takes(0, 11), 96 + 12);
        due(t.x.takes(0, 12), 13);
        due(t.x.takes(0, 98), 99);
        due(t.x.takes(0, 99), 0);
        by("0", t);
        due(t.x.takes(0, 99), 99);
        t.dueRow(1);
        // It comes to what THE RULE tells, which is put to 0 .. 99 by itself.
        by("0-50", t);
        due(t.x.takes(0, 16), 96 + 16);
        by("100", t);
        due(t.x.takes(0, 0), 99);
        due(t.x.takes(0, 1), 0);
    }

    @Says(at = 32, words = "and each ERRAND there that is not done were said by the then cheapest WORD,")
    static void eachErrandIsSaidByTheThenCheapest() {
        Talk t = of(1, "1ae;1o", "0:9", "a10=50");
        int[] want = {3, 5, 6, 7};
        for (int x = 0; x < want.length; x++) {
            due(t.x.takes(0, x), want[x]);
        }
        // Whoever's they are, there alone, by a compound, too; what is done is not said again.
        Talk u = of(2, "12a", "0:9;1:9", "a10=50;b20=50;b11=50;a91=50");
        due(u.x.takes(0, 0), 2);
        u.dueRow(2);
        due(u.x.takes(1, 0), 1);
        u.dueRow(1);
        u.x.say(0, 0);
        due(u.x.takes(0, 0), 1);
        u.dueRow(1);
    }

    @Says(at = 32, words = "if that costs no more than its WORTH, else not: what comes in;")
    static void whatIsTooDearIsNotSaid() {
        Talk t = taxed();
        int[] want = {12, 16, 6, 8, 5, 0};
        for (int x = 0; x < want.length; x++) {
            due(t.x.takes(0, x), want[x]);
        }
        due(t.x.takes(0, 99), 0);
        due(t.x.takes(1, 49), 50);
        due(t.x.takes(1, 50), 0);
    }

    @Says(at = 32, words = "the ROW: how many are said.")
    static void takesTellsHowManyAreSaid() {
        Talk t = taxed();
        int[] want = {4, 4, 3, 3, 2, 1};
        for (int x = 0; x < want.length; x++) {
            t.x.takes(0, x);
            t.dueRow(want[x]);
        }
        due(new Talk().x.takes(0, 0), 0);
    }

    @Says(at = 32, words = "NONE: others.")
    static void takesOfNoStationOrOfAnotherNumber() {
        for (int wrong : new int[] {-1, 3, LOW, HIGH}) {
            Twins.refuses(-1, x -> x.takes(wrong, 0));
        }
        for (int wrong : new int[] {-1, 100, LOW, HIGH}) {
            Twins.refuses(-1, x -> x.takes(0, wrong));
        }
    }

    @Says(at = 33, words = "The x (0 .. 99) by which the most comes in;")
    static void greedTakesTheMost() {
        Talk t = taxed();
        due(t.x.greed(0), 1);
        due(t.x.greed(1), 49);
        Talk u = by("0", of(1, "1a", "0:0", "a10=99"));
        due(u.x.greed(0), 99);
        u.dueRow(99, 0);
        Talk v = by("99", of(1, "1a", "0:0", "a10=99"));
        due(v.x.greed(0), 0);
        v.dueRow(99, 99);
        Talk two = of(1, "1a", "0:0", "a10=40;a10=19");
        due(two.x.greed(0), 39);
        two.dueRow(40, 2);
    }

    @Says(at = 33, words = "of equal ones the least: it;")
    static void ofAsMuchTheLeastGreed() {
        Talk t = of(1, "1a", "0:0", "a10=20;a10=10");
        due(t.x.greed(0), 9);
        t.dueRow(20, 2);
        Talk free = of(1, "1b", "0:0", "a10=20");
        due(free.x.greed(0), 0);
        free.dueRow(0, 0);
        due(new Talk().x.greed(0), 0);
    }

    @Says(at = 33, words = "the ROW: how much, how much with 0.")
    static void greedTellsHowMuch() {
        Talk t = taxed();
        due(t.x.greed(0), 1);
        t.dueRow(16, 12);
        due(t.x.greed(1), 49);
        t.dueRow(50, 1);
    }

    @Says(at = 33, words = "NONE: none such.")
    static void greedOfNoStation() {
        for (int wrong : new int[] {-1, 3, LOW, HIGH}) {
            Twins.refuses(-1, x -> x.greed(wrong));
        }
        due(Twins.busy().x.greed(2), 0);
    }

    // ---- law

    @Says(at = 34, words = "THE TEXT is another RULE (an empty one: none):")
    static void anEmptyLawIsNone() {
        Talk t = words("1a;1u");
        due(t.text("").law(0), 0);
        t.dueRow(0, 0);
        by("3", t);
        due(t.text("").law(0), 1);
        t.dueRow(1, 0);
        due(t.text("3").law(0), 0);
        t.dueRow(0, 0);
        due(t.x.count(11), 0);
        // THE RULE is as it was.
        due(t.text("9").law(0), 2);
        due(t.x.toll(0, 0), 3);
        due(t.text("7").law(0), 2);
        t.dueRow(0, 8);
        // Nothing is left of the law that was asked ahead of it.
        due(t.text("").law(0), 1);
        t.dueRow(1, 0);
    }

    @Says(at = 34, words = "how many WORDS cost more by it at a STATION now: how many;")
    static void aLawTellsHowManyCostMore() {
        Talk t = of(2, "1a;1e;1b;1ae", "", "");
        due(t.text("2").law(0), 2);
        due(t.text("s+h+2").law(0), 2);
        due(t.text("s+h+2").law(1), 3);
        t.x.pause(1);
        due(t.text("s+h+2").law(0), 3);
        due(t.text("99").law(0), 3);
        by("9", t);
        due(t.text("9").law(0), 0);
        due(t.text("10").law(0), 3);
        due(new Talk().text("9").law(0), 0);
    }

    @Says(at = 34, words = "the ROW: how many cost less, what all cost together by it less that by THE RULE.")
    static void aLawTellsHowManyCostLess() {
        Talk t = words("1a;1e;1b;1ae");
        due(t.text("2").law(0), 2);
        t.dueRow(0, 2);
        due(t.text("v*2").law(0), 0);
        t.dueRow(2, -2);
        due(t.text("0").law(0), 0);
        t.dueRow(3, -6);
        due(t.text("(v=0)*5").law(0), 2);
        t.dueRow(1, 4 - 2 + 2);
    }

    @Says(at = 34, words = "-1 - p: the sign at p can't stand there (as rule());")
    static void aLawFailsAtItsFirstWrongSign() {
        String[] bad = {"x", "v+", "v<s<h", "1234", "(((((v", "()", "v)", times("v+", 20), times("v+", 20) + "v", times("v+", 19) + "vx"};
        int[] at = {0, 2, 3, 3, 4, 1, 1, 40, 40, 39};
        for (int i = 0; i < bad.length; i++) {
            Twins.refusesText(bad[i], -1 - at[i], x -> x.law(0));
        }
        due(Twins.busy().text(times("v+", 19) + "12").law(0) >= 0, true);
    }

    @Says(at = 34, words = "-100: none such (asked first).")
    static void aLawAtNoStation() {
        for (int wrong : new int[] {-1, 3, LOW, HIGH}) {
            for (String text : new String[] {"v", "", "x", times("v+", 20)}) {
                Twins.refusesText(text, -100, x -> x.law(wrong));
            }
        }
        due(Twins.busy().text("v").law(2) >= 0, true);
    }

    // ---- said

    @Says(at = 35, words = "THE TEXT tells a book (five digits: how often each VOWEL):")
    static void aBookIsFiveDigits() {
        Talk t = words("1a;1e;1i;1o;1u");
        String[] books = {"10000", "01000", "00100", "00010", "00001"};
        for (int v = 0; v < 5; v++) {
            due(t.text(books[v]).said(), 1);
            t.dueRow(v);
            due(t.x.count(11), 0);
        }
        due(t.text("11111").said(), 0);
        due(t.text("11110").said(), 1);
        t.dueRow(0, 1, 2, 3);
        Talk nine = words("1uuuuuu;1uuu");
        due(nine.text("00009").said(), 2);
        nine.dueRow(0, 1);
    }

    @Says(at = 35, words = "WORDS of which it was said, 1 to 4 (the same more than once, too; in any order, told rising): how many ways;")
    static void oneToFourWordsWereSaid() {
        Talk t = words("1a");
        int[] want = {0, 1, 1, 1, 1, 0};
        for (int many = 0; many < want.length; many++) {
            due(t.text(many + "0000").said(), want[many]);
        }
        Talk two = words("1a;1a");
        int[] ways = {0, 2, 3, 4, 5, 0};
        for (int many = 0; many < ways.length; many++) {
            due(two.text(many + "0000").said(), ways[many]);
        }
        // No WORD at all is none of the ways; one without VOWELS may stand beside.
        Talk silent = words("1b;1a");
        due(silent.text("00000").said(), 4);
        silent.dueRow(0);
        due(silent.text("10000").said(), 4);
        silent.dueRow(1);
        Talk ten = words(times("1b;", 9) + "1b");
        due(ten.text("00000").said(), 10 + 55 + 220 + 715);
        ten.dueRow(0);
        Talk order = words("1e;1a");
        due(order.text("11000").said(), 1);
        order.dueRow(0, 1);
    }

    @Says(at = 35, words = "the ROW: the first way (the fewest WORDS, then the least row;")
    static void theFirstWayHasTheFewestWords() {
        Talk t = words("1a;1aa;1aaa;1aa");
        due(t.text("20000").said(), 3);
        t.dueRow(1);
        due(t.text("30000").said(), 1 + 2 + 1);
        t.dueRow(2);
        due(t.text("40000").said(), 1 + 3 + 2 + 1);
        t.dueRow(0, 2);
        due(t.text("90000").said() > 0, true);
        t.dueRow(2, 2, 2);
    }

    @Says(at = 35, words = "nothing without).")
    static void withoutAWayTheRowIsEmpty() {
        Talk t = words("1a");
        due(t.x.toll(0, 0), 1);
        due(t.text("01000").said(), 0);
        t.dueRow();
        due(t.text("10000").said(), 1);
        t.dueRow(0);
        due(t.text("10001").said(), 0);
        t.dueRow();
        Talk none = new Talk();
        none.x.code(0);
        due(none.text("00000").said(), 0);
        none.dueRow();
    }

    @Says(at = 35, words = "-1 - p: the sign at p can't stand there")
    static void aBookFailsAtItsFirstWrongSign() {
        String[] bad = {"x", "0x000", "00/00", "00:00", "0000x", "0 000", "x00000"};
        int[] at = {0, 1, 2, 2, 4, 1, 0};
        for (int i = 0; i < bad.length; i++) {
            Twins.refusesText(bad[i], -1 - at[i], x -> x.said());
        }
    }

    @Says(at = 35, words = "(its end, if it ends too early;")
    static void aBookThatEndsTooEarly() {
        for (int signs = 0; signs < 5; signs++) {
            Twins.refusesText(times("0", signs), -1 - signs, x -> x.said());
        }
    }

    @Says(at = 35, words = "a sixth sign: at it).")
    static void aSixthSign() {
        Twins.refusesText("010100", -6, x -> x.said());
        Twins.refusesText("01010x", -6, x -> x.said());
        Twins.refusesText(times("0", 80), -6, x -> x.said());
        due(Twins.busy().text("01010").said() >= 0, true);
    }

    // ---- ask

    @Says(at = 36, words = "The VOWEL by which what one WORD was can be told the best: so that, whatever number of it was heard, the fewest WORDS are left at most;")
    static void theVowelThatTellsTheMost() {
        Talk t = words("1u;1uu;1uuu;1a;1uuuuuu");
        due(t.x.ask(), 4);
        t.dueRow(1);
        // Of a two are left at most, of e four.
        Talk u = words("1ae;1aeb;1e;1ec");
        due(u.x.ask(), 0);
        u.dueRow(2);
        Talk v = words("1ae;1a;1ai;1aoo;1aeoo");
        due(v.x.ask(), 1);
        v.dueRow(3);
    }

    @Says(at = 36, words = "of equal ones the first: it;")
    static void ofAsGoodVowelsTheFirst() {
        Talk t = words("1b;1c");
        due(t.x.ask(), 0);
        t.dueRow(2);
        Talk u = words("1ei;1b");
        due(u.x.ask(), 1);
        u.dueRow(1);
        Talk v = words("1ou;1b");
        due(v.x.ask(), 3);
        v.dueRow(1);
    }

    @Says(at = 36, words = "the ROW: how many at most.")
    static void askTellsHowManyAtMost() {
        Talk t = words("1a");
        due(t.x.ask(), 0);
        t.dueRow(1);
        Talk ten = words(times("1b;", 9) + "1b");
        due(ten.x.ask(), 0);
        ten.dueRow(10);
    }

    @Says(at = 36, words = "-2: there are no WORDS.")
    static void nothingToAsk() {
        Talk t = new Talk();
        due(t.x.ask(), -2);
        t.dueRow();
        Twins.refuses(() -> {
            Talk u = of(2, "", "0:1", "");
            u.x.code(0);
            return u;
        }, -2, x -> x.ask());
    }
}
