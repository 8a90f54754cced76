/** For each promise of the document: ordinary inputs, the edges that it names, wrong inputs. */
public final class PromisesTest {
    private static final int LOW = Integer.MIN_VALUE;
    private static final int HIGH = Integer.MAX_VALUE;

    public static void main(String[] args) {
        newObject();
        sign();
        end();
        road();
        words();
        travellers();
        errands();
        rule();
        ruleValues();
        word();
        traveller();
        errand();
        book();
        sheet();
        toll();
        walk();
        pause();
        say();
        alms();
        journey();
        undo();
        cheapest();
        sentence();
        when();
        shortest();
        differ();
        near();
        heard();
        code();
        trip();
        haste();
        best();
        takes();
        greed();
        law();
        said();
        ask();
        years();
        keep();
        again();
        count();
        row();
        full();
        Talk.close();
    }

    private static void due(long got, long want) {
        Talk.due(got, want);
    }

    private static void due(boolean got, boolean want) {
        Talk.due(got, want);
    }

    private static String times(String s, int n) {
        return s.repeat(n);
    }

    private static void newObject() {
        Talk.promise(1, "A new object");
        Talk t = new Talk();
        int[] want = {1, 0, 0, 0, 0, 0, 0, 0, 0, 0, 0, 0};
        for (int i = 0; i < want.length; i++) {
            due(t.x.count(i), want[i]);
        }
        due(TollOnVowels.NONE, -1);
        due(t.x.book(0, 0), 0);
        Talk.dueNoSuch(() -> t.x.book(1, 0));
        Talk.dueNoSuch(() -> t.x.row(0));
    }

    private static void sign() {
        Talk.promise(2, "sign");
        Talk t = new Talk();
        due(t.x.sign(0x31616200), 4);
        due(t.x.end(3), true);
        due(t.x.words(), 1);
        due(t.x.word(0, 0), 2);
        for (int i = 1; i <= 20; i++) {
            due(t.x.sign(-1), 4 * i);
        }
        due(t.x.sign(0), -1);
        due(t.x.count(11), 80);
        due(t.x.end(77), true);
        due(t.x.sign(0), -1);
        due(t.x.count(11), 77);
        due(t.x.end(76), true);
        due(t.x.sign(0), 80);
        Talk.promise(2, "sign: the highest byte first, none is taken for another");
        Talk u = new Talk();
        u.x.sign(0x30e10000);
        u.x.end(2);
        due(u.x.words(), -2);
        due(u.x.count(11), 0);
    }

    private static void end() {
        Talk.promise(3, "end");
        Talk t = new Talk();
        due(t.x.end(0), true);
        due(t.x.end(1), false);
        due(t.x.end(-1), false);
        due(t.x.end(LOW), false);
        t.x.sign(0x31613b32);
        due(t.x.end(5), false);
        due(t.x.end(4), true);
        due(t.x.count(11), 4);
        due(t.x.end(2), true);
        due(t.x.count(11), 2);
        due(t.x.end(3), false);
        due(t.x.end(HIGH), false);
        due(t.x.words(), 1);
        due(t.x.end(0), true);
    }

    private static void road() {
        Talk.promise(4, "road");
        Talk t = new Talk();
        due(t.x.road(0), -1);
        due(t.x.road(7), -1);
        due(t.x.road(LOW), -1);
        due(t.x.road(HIGH), -1);
        due(t.x.road(6), 1);
        due(t.x.road(1), 6);
        due(t.x.road(4), 1);
        due(t.x.count(0), 4);
        t.text("2:50").travellers();
        due(t.x.road(2), -1);
        due(t.x.count(0), 4);
        due(t.x.road(3), 4);
        t.x.road(5);
        t.text("a04=9").errands();
        due(t.x.road(4), -1);
        due(t.x.road(5), 5);
        Talk.promise(4, "road: an ERRAND that is done needs its STATION, too");
        t.text("0a").words();
        t.x.walk(0, 1);
        t.x.walk(0, 1);
        t.x.say(0, 0);
        due(t.x.count(5), 1);
        t.x.walk(0, 0);
        due(t.x.road(4), -1);
        Talk.promise(4, "road: the book of a STATION that is gone is gone");
        Talk u = new Talk();
        u.text("0aa").words();
        u.x.road(2);
        u.text("1:50").travellers();
        u.x.say(0, 0);
        due(u.x.book(1, 0), 2);
        u.x.walk(0, 0);
        u.x.say(0, 0);
        due(u.x.road(1), 2);
        due(u.x.count(6), 2);
        Talk.dueNoSuch(() -> u.x.book(1, 0));
        due(u.x.road(2), 1);
        due(u.x.book(1, 0), 0);
        due(u.x.book(0, 0), 2);
    }

    private static void words() {
        Talk.promise(5, "words");
        String[] bad = {"x", "1", "12", "123", "1aaaaaaa", "12aaaaaaa", "1a;", "1A", "1a;;1a", ";1a", "1a,", "1a 1b", "1ab;2"};
        int[] at = {0, 1, 2, 2, 7, 8, 3, 1, 3, 0, 2, 2, 5};
        for (int i = 0; i < bad.length; i++) {
            Talk t = new Talk();
            due(t.text(bad[i]).words(), -1 - at[i]);
            due(t.x.count(1), 0);
            due(t.x.count(11), 0);
        }
        Talk t = new Talk();
        due(t.x.words(), 0);
        due(t.text("0a;12bcdefg;00z").words(), 3);
        due(t.text("9u").words(), 1);
        due(t.x.count(1), 4);
        due(t.x.word(3, 2), 9);
        due(t.x.word(2, 1), 0);
        Talk.promise(5, "words: nothing is left of what can't come");
        due(t.text("1aeioua;2?").words(), -10);
        due(t.text("1zz").words(), 1);
        due(t.x.word(4, 1), 0);
        due(t.x.word(4, 4), 0);
        due(t.x.word(4, 8), 0);
        due(t.x.toll(4, 0), 0);
        t = new Talk();
        t.text("0a;12bcdefg;00z;9u").words();
        Talk.promise(5, "words: no room");
        due(t.text(times("1a;", 6) + "1a").words(), -19);
        due(t.text(times("1a;", 6)).words(), -19);
        due(t.text(times("1a;", 6) + "?").words(), -19);
        due(t.x.count(1), 4);
        due(t.text(times("1a;", 5) + "1a").words(), 6);
        due(t.text("1a").words(), -1);
        due(t.text("?").words(), -1);
        due(t.text("").words(), 0);
        Talk.promise(5, "words: 76 signs");
        String line = "12aeioux;";
        String most = times(line, 8);
        due(new Talk().text(most + "1aaa").words(), 9);
        due(new Talk().text(most + "1aaaa").words(), -77);
        due(new Talk().text(most + "1aaa;").words(), -77);
        due(new Talk().text(most + "1aaa?").words(), -77);
        due(new Talk().text(most + "1aa;1a").words(), -77);
        due(new Talk().text(most + "1aa;").words(), -77);
        due(new Talk().text(most + "1aA;1a").words(), -75);
        due(new Talk().text(times(line, 3) + "?" + times(line, 5) + "1aaaa").words(), -28);
    }

    private static void travellers() {
        Talk.promise(6, "travellers");
        String[] bad = {"x", "0", "0:", "0:x", "0:5555", "0:5;", "2:5", "0:5;2:5", "0;5", "a:5", "0:5;;", "0:5:"};
        int[] at = {0, 1, 2, 2, 5, 4, 0, 4, 1, 0, 4, 3};
        for (int i = 0; i < bad.length; i++) {
            Talk t = new Talk();
            t.x.road(2);
            due(t.text(bad[i]).travellers(), -1 - at[i]);
            due(t.x.count(2), 0);
            due(t.x.count(11), 0);
        }
        Talk t = new Talk();
        due(t.x.travellers(), 0);
        due(t.text("1:5").travellers(), -1);
        t.x.road(6);
        due(t.text("5:007;0:999").travellers(), 2);
        due(t.x.traveller(0, 0), 5);
        due(t.x.traveller(0, 1), 7);
        due(t.x.traveller(1, 1), 999);
        due(t.text("0:1;0:2;0:3").travellers(), -9);
        due(t.x.count(2), 2);
        due(t.text("0:1;0:2").travellers(), 2);
        due(t.text("0:1").travellers(), -1);
        due(t.text("").travellers(), 0);
        due(new Talk().text(times("0:555;", 6) + "0:55").travellers(), -25);
    }

    private static void errands() {
        Talk.promise(7, "errands");
        String[] bad = {"c00=1", "a", "ax", "a0", "a0x", "a02=1", "a00", "a00:1", "a00=", "a00=x", "a00=555", "a00=5;", "b00=5;d", "A00=1", ";"};
        int[] at = {0, 1, 1, 2, 2, 2, 3, 3, 4, 4, 6, 6, 6, 0, 0};
        for (int i = 0; i < bad.length; i++) {
            Talk t = new Talk();
            t.x.road(2);
            t.text("0:5;1:5").travellers();
            due(t.text(bad[i]).errands(), -1 - at[i]);
            due(t.x.count(3), 0);
            due(t.x.count(11), 0);
        }
        Talk t = new Talk();
        due(t.x.errands(), 0);
        due(t.text("a00=1").errands(), -1);
        t.text("0:5").travellers();
        due(t.text("a90=07;a00=99").errands(), 2);
        due(t.x.errand(0, 3), 7);
        due(t.x.errand(0, 1), 9);
        due(t.text(times("a00=5;", 6) + "a00=5").errands(), -37);
        due(t.x.count(3), 2);
        due(t.text(times("a00=5;", 5) + "a00=5").errands(), 6);
        due(t.text("a00=5").errands(), -1);
        due(t.text("").errands(), 0);
    }

    private static int faultOf(String rule) {
        Talk t = new Talk();
        int answer = t.text(rule).rule();
        due(t.x.count(11), 0);
        return answer;
    }

    private static void rule() {
        Talk.promise(8, "rule");
        String[] bad = {"x", "v+", "v<s<h", "v<s=h", "(v<s)<h<1", "1234", "v v", "vv", "1v", "v1", "()", "(v", "v)", "(v))", "-", "v-",
            "v*/s", "+v", "*v", "<v", "v<", "v<<s", "((((v))))+(((((v)))))", "(((((v", "V", "12a", "(v<s<h)", "v(s)", "(v)s", "\0"};
        int[] at = {0, 2, 3, 3, 7, 3, 1, 1, 1, 1, 1, 2, 1, 3, 1, 2, 2, 0, 0, 0, 2, 2, 14, 4, 0, 2, 4, 1, 3, 0};
        for (int i = 0; i < bad.length; i++) {
            due(faultOf(bad[i]), -1 - at[i]);
        }
        String[] good = {"", "v", "123", "000", "--v", "v---s", "-(-v)", "v*-s/--h", "((((v))))", "(v<s)<h", "v<(s<h)", "v+1>s-2",
            "1=(2=3)", "v+s-h*l/p+n-d", "((((1)))+((2)))", "-v<-s"};
        for (String rule : good) {
            due(faultOf(rule), 0);
        }
        Talk.promise(8, "rule: 40 signs");
        due(faultOf(times("v+", 19) + "vx"), -40);
        due(faultOf(times("v+", 19) + "12"), 0);
        due(faultOf(times("v+", 19) + "123"), -41);
        due(faultOf(times("v+", 20)), -41);
        due(faultOf(times("v+", 20) + "v"), -41);
        due(faultOf(times("v+", 20) + "?"), -41);
        due(faultOf(times("-", 39) + "v"), 0);
        due(faultOf(times("-", 40) + "v"), -41);
        due(faultOf(times("v+", 19) + "(v"), -41);
        Talk.promise(8, "rule: a refused one changes nothing, an empty one is none");
        Talk t = new Talk();
        t.text("0u").words();
        due(t.text("v*9").rule(), 0);
        due(t.x.toll(0, 0), 36);
        due(t.text("7)").rule(), -2);
        due(t.x.toll(0, 0), 36);
        due(t.text("7").law(0), 0);
        due(t.x.toll(0, 0), 36);
        due(t.text("").rule(), 0);
        due(t.x.toll(0, 0), 5);
    }

    /** What a rule tells for both u in "bauu" together (station 1, hour 29: 5 of the day). */
    private static void isWorth(String rule, int want) {
        Talk t = new Talk();
        t.text("0bauu").words();
        t.x.road(2);
        t.x.pause(29);
        t.text(rule).rule();
        int all = t.x.toll(0, 1);
        due(t.x.row(4), want);
        due(all, t.x.row(0) + want);
    }

    private static void ruleValues() {
        Talk.promise(8, "rule: what it tells");
        isWorth("v", 8);
        isWorth("s", 2);
        isWorth("h", 10);
        isWorth("l", 8);
        isWorth("p", 5);
        isWorth("n", 3);
        isWorth("d", 1);
        isWorth("d*p", 3);
        isWorth("99", 198);
        isWorth("100", 198);
        isWorth("-1", 0);
        isWorth("1-2-3+9", 10);
        isWorth("1+2*3", 14);
        isWorth("(1+2)*3", 18);
        isWorth("7/2*2", 12);
        isWorth("7/0+5", 10);
        isWorth("9+-7/2", 12);
        isWorth("9-7/2", 12);
        isWorth("-7/2+9", 12);
        isWorth("--7", 14);
        isWorth("---7+9", 4);
        isWorth("9--7", 32);
        isWorth("-2*-3", 12);
        isWorth("2<3", 2);
        isWorth("3<2", 0);
        isWorth("3<3", 0);
        isWorth("3>2", 2);
        isWorth("3=3", 2);
        isWorth("2=3", 0);
        isWorth("1+1=2", 2);
        isWorth("(1<2)*9", 18);
        isWorth("p=3", 1);
        isWorth("p*(p=3)*10", 30);
        Talk.promise(8, "rule: as ints, with wrap-around");
        isWorth("999*999*999*999<0", 2 * (999 * 999 * 999 * 999 < 0 ? 1 : 0));
        isWorth("512*512*512*16<0", 2);
        isWorth("512*512*512*8*2=0", 2 * (512 * 512 * 512 * 8 * 2 == 0 ? 1 : 0));
        isWorth("512*512*512*16=-(512*512*512*16)", 2);
        isWorth("(512*512*512*16)/-1<0", 2);
        isWorth("0-512*512*512*16<0", 2);
    }

    private static void word() {
        Talk.promise(9, "word");
        Talk t = new Talk();
        t.text("7aeioux;50aabee;3z").words();
        int[][] want = {{6, 5, 7, -1, 1, 1, 1, 1, 1}, {5, 4, 5, 0, 2, 2, 0, 0, 0}, {1, 0, 3, -1, 0, 0, 0, 0, 0}};
        for (int w = 0; w < 3; w++) {
            for (int what = 0; what < 9; what++) {
                due(t.x.word(w, what), want[w][what]);
            }
        }
        for (int wrong : new int[] {-1, 3, LOW, HIGH}) {
            Talk.dueNoSuch(() -> t.x.word(wrong, 0));
        }
        for (int wrong : new int[] {-1, 9, LOW, HIGH}) {
            Talk.dueNoSuch(() -> t.x.word(0, wrong));
        }
    }

    private static void traveller() {
        Talk.promise(10, "traveller");
        Talk t = Talk.example();
        int[] want = {0, 20, 0, 11, 0};
        for (int what = 0; what < 5; what++) {
            due(t.x.traveller(0, what), want[what]);
        }
        t.x.walk(0, 1);
        t.x.say(0, 3);
        want = new int[] {1, 12, 8, 1, 11};
        for (int what = 0; what < 5; what++) {
            due(t.x.traveller(0, what), want[what]);
        }
        due(t.x.traveller(1, 3), 4);
        for (int wrong : new int[] {-1, 2, LOW, HIGH}) {
            Talk.dueNoSuch(() -> t.x.traveller(wrong, 0));
        }
        for (int wrong : new int[] {-1, 5, LOW, HIGH}) {
            Talk.dueNoSuch(() -> t.x.traveller(0, wrong));
        }
    }

    private static void errand() {
        Talk.promise(11, "errand");
        Talk t = Talk.example();
        int[][] want = {{0, 1, 0, 5, 1}, {0, 2, 1, 8, 0}, {1, 3, 1, 20, 0}, {0, 1, 1, 3, 0}};
        t.x.say(0, 1);
        for (int e = 0; e < 4; e++) {
            for (int what = 0; what < 5; what++) {
                due(t.x.errand(e, what), want[e][what]);
            }
        }
        for (int wrong : new int[] {-1, 4, LOW, HIGH}) {
            Talk.dueNoSuch(() -> t.x.errand(wrong, 0));
        }
        for (int wrong : new int[] {-1, 5, LOW, HIGH}) {
            Talk.dueNoSuch(() -> t.x.errand(0, wrong));
        }
    }

    private static void book() {
        Talk.promise(12, "book");
        Talk t = Talk.example();
        t.x.sheet(2, 2, 9999, 0);
        t.x.say(0, 0);
        t.x.say(0, 4);
        t.x.say(0, 4);
        t.x.say(1, 2);
        int[][] want = {{0, 1, 0, 5, 2}, {0, 0, 1, 1, 0}, {0, 0, 0, 0, 0}};
        for (int s = 0; s < 3; s++) {
            for (int v = 0; v < 5; v++) {
                due(t.x.book(s, v), want[s][v]);
            }
        }
        for (int wrong : new int[] {-1, 3, LOW, HIGH}) {
            Talk.dueNoSuch(() -> t.x.book(wrong, 0));
        }
        for (int wrong : new int[] {-1, 5, LOW, HIGH}) {
            Talk.dueNoSuch(() -> t.x.book(0, wrong));
        }
    }

    private static void dueSheet(int answer, int want, Talk t, int... purses) {
        due(answer, want);
        for (int i = 0; i < purses.length; i++) {
            due(t.x.traveller(i, 1), purses[i]);
        }
    }

    private static void sheet() {
        Talk.promise(13, "sheet");
        Talk t = new Talk();
        due(t.x.sheet(2, 4, 5, 5), 0);
        t.text("0:1;0:2;0:3").travellers();
        dueSheet(t.x.sheet(2, 3, 10, -4), 18, t, 10, 6, 2);
        dueSheet(t.x.sheet(2, 2, 10000, -10001), 9999, t, 9999, 0, 0);
        dueSheet(t.x.sheet(0, 3, 100, 27), 227, t, 100, 127, 0);
        dueSheet(t.x.sheet(0, 3, 255, 2), 4, t, 0, 1, 3);
        dueSheet(t.x.sheet(1, 3, 65535, 6), 16, t, 0, 5, 11);
        dueSheet(t.x.sheet(1, 2, 32767, 1), 9999, t, 9999, 0, 0);
        dueSheet(t.x.sheet(2, 2, HIGH, 1), 9999, t, 9999, 0, 0);
        dueSheet(t.x.sheet(2, 2, LOW, -1), 9999, t, 0, 9999, 0);
        dueSheet(t.x.sheet(2, 4, 7, 0), 21, t, 7, 7, 7);
        dueSheet(t.x.sheet(2, -1, 1, 1), -2, t, 7, 7, 7);
        dueSheet(t.x.sheet(0, LOW, 1, 1), -2, t, 7, 7, 7);
        dueSheet(t.x.sheet(4, -1, 1, 1), -1, t, 7, 7, 7);
        dueSheet(t.x.sheet(-1, 1, 1, 1), -1, t, 7, 7, 7);
        dueSheet(t.x.sheet(1, 5, 1, 1), -1, t, 7, 7, 7);
        dueSheet(t.x.sheet(3, 5, 1, 1), -1, t, 7, 7, 7);
        dueSheet(t.x.sheet(3, -5, 1, 1), -3, t, 0, 0, 0);
        dueSheet(t.x.sheet(2, 1, 3, 1), 3, t, 3, 0, 0);
        dueSheet(t.x.sheet(2, 0, 3, 1), 0, t, 0, 0, 0);
    }

    private static void toll() {
        Talk.promise(14, "toll");
        Talk t = Talk.example();
        due(t.x.toll(4, 2), 13);
        t.dueRow(0, 0, 0, 8, 5);
        for (int wrong : new int[] {-1, 5, LOW, HIGH}) {
            due(t.x.toll(wrong, 0), -1);
        }
        for (int wrong : new int[] {-1, 3, LOW, HIGH}) {
            due(t.x.toll(0, wrong), -1);
        }
        t.dueRow(0, 0, 0, 8, 5);
        due(t.x.toll(1, 0), 0);
        t.dueRow(0, 0, 0, 0, 0);
        Talk.promise(14, "toll: by the HOUR and the STATION");
        t.text("h+s*50").rule();
        t.x.pause(25);
        due(t.x.toll(3, 0), 3);
        due(t.x.toll(3, 1), 153);
        due(t.x.toll(3, 2), 297);
        t.dueRow(99, 99, 0, 0, 99);
        due(t.x.count(9), 1);
    }

    private static void walk() {
        Talk.promise(15, "walk");
        Talk t = Talk.example();
        due(t.x.walk(0, 0), -2);
        due(t.x.count(4), 0);
        due(t.x.walk(0, 1), 1);
        due(t.x.walk(0, 1), 2);
        due(t.x.walk(0, 1), -2);
        due(t.x.walk(0, 0), 1);
        due(t.x.count(4), 3);
        due(t.x.traveller(0, 0), 1);
        for (int wrong : new int[] {-1, 2, LOW, HIGH}) {
            due(t.x.walk(wrong, 1), -1);
            due(t.x.walk(0, wrong), -1);
        }
        due(t.x.count(4), 3);
        due(t.x.count(9), 3);
        due(t.x.walk(0, 0), 0);
        due(t.x.count(4), 4);
        due(t.x.undo(), 3);
        due(t.x.count(4), 3);
        due(t.x.traveller(0, 0), 1);
    }

    private static void pause() {
        Talk.promise(16, "pause");
        Talk t = new Talk();
        due(t.x.pause(0), 0);
        due(t.x.pause(99), 99);
        due(t.x.pause(1), 100);
        due(t.x.pause(100), -1);
        due(t.x.pause(-1), -1);
        due(t.x.pause(LOW), -1);
        due(t.x.count(4), 100);
        due(t.x.count(9), 2);
    }

    private static void say() {
        Talk.promise(17, "say");
        Talk t = Talk.example();
        due(t.x.say(1, 4), -2);
        due(t.x.say(2, 0), -1);
        due(t.x.say(-1, 0), -1);
        due(t.x.say(0, 5), -1);
        due(t.x.say(0, -1), -1);
        t.dueRow();
        due(t.x.count(9), 0);
        due(t.x.say(0, 0), 6);
        t.dueRow(1);
        due(t.x.say(0, 0), 6);
        t.dueRow(0);
        due(t.x.traveller(0, 1), 8);
        due(t.x.traveller(0, 2), 12);
        Talk.promise(17, "say: a compound does both, his own alone, there alone");
        Talk u = new Talk();
        u.text("12a;33b").words();
        u.x.road(2);
        u.text("0:1;0:0").travellers();
        u.text("a10=1;a20=1;a30=1;b10=1;a11=1;a10=1;b30=2").errands();
        due(u.x.say(0, 0), 1);
        u.dueRow(35);
        due(u.x.traveller(0, 1), 0);
        due(u.x.say(0, 0), -2);
        u.dueRow(35);
        due(u.x.say(1, 1), 0);
        u.dueRow(64);
        due(u.x.count(4), 0);
    }

    private static void alms() {
        Talk.promise(18, "alms");
        Talk t = new Talk();
        t.x.road(2);
        t.text("0:20;0:5;1:9").travellers();
        due(t.x.alms(0, 1, 20), 25);
        due(t.x.traveller(0, 1), 0);
        due(t.x.traveller(0, 2), 0);
        due(t.x.alms(0, 1, 1), -2);
        due(t.x.alms(0, 2, 1), -3);
        due(t.x.alms(1, 1, 1), -1);
        due(t.x.alms(0, 2, 0), -1);
        due(t.x.alms(0, 2, 10000), -1);
        due(t.x.alms(0, 2, LOW), -1);
        due(t.x.alms(0, 3, 1), -1);
        due(t.x.alms(-1, 0, 1), -1);
        due(t.x.count(9), 1);
        t.x.sheet(2, 3, 9999, -9);
        due(t.x.alms(0, 1, 9999), 9999);
        due(t.x.traveller(0, 1), 0);
        due(t.x.count(4), 0);
    }

    private static void journey() {
        Talk.promise(19, "journey");
        Talk t = Talk.example();
        due(t.x.journey(), 0);
        t.dueRow(0, 0);
        due(t.x.count(9), 0);
        String[] bad = {"x", "e>", "a", "a;", "aa", "a>>", "a>;", ";", "w", "w;", "w123", "w1;", "w-1", "a>;b", "a10", "W1"};
        int[] at = {0, 0, 1, 1, 1, 2, 3, 0, 1, 1, 3, 3, 1, 4, 2, 0};
        for (int i = 0; i < bad.length; i++) {
            due(t.text(bad[i]).journey(), -1 - at[i]);
            due(t.x.count(11), 0);
        }
        due(t.text("a1;a>;a!?").journey(), -9);
        due(t.x.count(5), 0);
        due(t.x.count(4), 0);
        t.dueRow(0, 0);
        due(t.text("a!;a>;w7;a3;b!").journey(), 4);
        t.dueRow(1, 8);
        due(t.x.count(5), 11);
        due(t.x.count(4), 8);
        due(t.x.count(9), 1);
        due(t.text("a!").journey(), 0);
        t.dueRow(1, 0);
        due(t.text("d1").journey(), 0);
        due(t.text("d>").journey(), 0);
        due(t.text("d!").journey(), 0);
        due(t.text("d<").journey(), 0);
        due(t.text("a9").journey(), 0);
        due(t.text("b>;b>").journey(), 1);
        t.dueRow(1, 0);
        due(t.text("a<;a<;a>").journey(), 1);
        t.dueRow(1, 0);
        due(t.x.undo(), 2);
        due(t.text("w0").journey(), 1);
        due(t.x.count(9), 3);
        Talk.promise(19, "journey: 60 signs");
        Talk u = Talk.example();
        due(u.text(times("a1;", 19) + "w3").journey(), 20);
        due(u.text(times("a1;", 19) + "w33").journey(), 20);
        due(u.text(times("a1;", 20)).journey(), -61);
        due(u.text(times("a1;", 20) + "a1").journey(), -61);
        due(u.text(times("a1;", 19) + "w333").journey(), -61);
        due(u.text(times("a1;", 19) + "a1?a1").journey(), -60);
        due(u.x.count(4), 36);
        Talk.promise(19, "journey: no WORD for the first ERRAND, though for the second");
        Talk v = new Talk();
        v.text("1a").words();
        v.text("0:9").travellers();
        v.text("a20=1;a10=1").errands();
        due(v.text("a!").journey(), 0);
        v.dueRow(1, 0);
        Talk.promise(19, "journey: the cheapest WORD of the HOUR");
        Talk w = new Talk();
        w.text("1a;1e").words();
        w.text("(v=0)*h*9+v*5").rule();
        w.text("0:99").travellers();
        w.text("a10=1;a10=1").errands();
        due(w.text("w1;a!").journey(), 2);
        w.dueRow(0, 5);
        due(w.x.undo(), 0);
        due(w.text("w24;a!").journey(), 2);
        w.dueRow(0, 0);
        due(w.x.count(5), 3);
    }

    private static void undo() {
        Talk.promise(20, "undo");
        Talk t = Talk.example();
        due(t.x.undo(), -1);
        t.x.walk(0, 1);
        t.x.pause(5);
        t.x.pause(0);
        t.x.say(0, 3);
        t.x.alms(0, 1, 2);
        t.text("a0;b2;b4").journey();
        t.x.walk(0, 7);
        t.x.say(0, 9);
        t.x.alms(0, 0, 1);
        t.text("c!").journey();
        t.text("").journey();
        due(t.x.count(9), 5);
        due(t.x.undo(), 4);
        due(t.x.traveller(0, 1), 10);
        due(t.x.traveller(1, 1), 11);
        due(t.x.undo(), 3);
        due(t.x.traveller(1, 1), 9);
        due(t.x.count(6), 3);
        due(t.x.undo(), 2);
        due(t.x.count(6), 0);
        due(t.x.count(5), 0);
        due(t.x.traveller(0, 2), 0);
        due(t.x.count(4), 6);
        due(t.x.undo(), 1);
        due(t.x.count(4), 1);
        due(t.x.undo(), 0);
        due(t.x.traveller(0, 0), 0);
        due(t.x.count(4), 0);
        due(t.x.undo(), -1);
        Talk.promise(20, "undo: the latest 12");
        Talk u = new Talk();
        for (int i = 1; i <= 15; i++) {
            due(u.x.pause(i), i * (i + 1) / 2);
            due(u.x.count(9), Math.min(i, 12));
        }
        due(u.x.pause(0), 120);
        due(u.x.pause(100), -1);
        for (int left = 11; left >= 0; left--) {
            due(u.x.undo(), left);
            due(u.x.count(4), (left + 3) * (left + 4) / 2);
        }
        due(u.x.undo(), -1);
        Talk.promise(20, "undo: forgotten");
        Talk v = Talk.example();
        v.x.pause(1);
        v.text("x").words();
        v.text("").words();
        v.text("").travellers();
        v.text("9").travellers();
        v.text("").errands();
        v.text("v").rule();
        v.x.road(1);
        v.x.again(0);
        v.x.keep(0);
        due(v.x.count(9), 1);
        due(v.text("1a").words(), 1);
        due(v.x.undo(), -1);
        v.x.pause(1);
        v.text("0:1").travellers();
        due(v.x.undo(), -1);
        v.x.pause(1);
        v.text("c11=1").errands();
        due(v.x.undo(), -1);
        v.x.pause(1);
        v.x.road(3);
        due(v.x.undo(), -1);
        v.x.keep(0);
        v.x.pause(1);
        v.x.again(0);
        due(v.x.undo(), -1);
    }

    private static void cheapest() {
        Talk.promise(21, "cheapest");
        Talk t = Talk.example();
        due(t.x.cheapest(1, 0), 1);
        t.dueRow(0, 3);
        due(t.x.cheapest(9, 0), -2);
        for (int wrong : new int[] {-1, 10, LOW, HIGH}) {
            due(t.x.cheapest(wrong, 0), -1);
            due(t.x.cheapest(1, wrong), -1);
        }
        due(t.x.cheapest(1, 3), -1);
        t.dueRow(0, 3);
        t.text("4e;45e;44ea").words();
        due(t.x.cheapest(4, 2), 5);
        t.dueRow(2, 3);
        due(t.x.cheapest(5, 2), 6);
        t.dueRow(2, 1);
        t.text("(v=1)*(s+h)*9").rule();
        t.x.pause(1);
        due(t.x.cheapest(4, 2), 5);
        t.dueRow(27, 3);
        t.text("(n=0)*(l=1)*50").rule();
        due(t.x.cheapest(4, 2), 7);
        t.dueRow(0, 3);
    }

    private static void sentence() {
        Talk.promise(22, "sentence");
        Talk t = Talk.example();
        due(t.text("").sentence(0), -1);
        due(t.text("x").sentence(0), -1);
        due(t.text("1x").sentence(0), -2);
        due(t.text(times("1", 13)).sentence(0), -13);
        due(t.text(times("1", 12) + "x").sentence(0), -13);
        due(t.text(times("1", 11) + "x").sentence(0), -12);
        due(t.text("x").sentence(3), -100);
        due(t.x.count(11), 0);
        due(t.text("1").sentence(-1), -100);
        due(t.text("19").sentence(0), -200);
        t.dueRow();
        due(t.text("3121").sentence(0), 20);
        t.dueRow(4, 1, 2, 1);
        due(t.text("9").sentence(0), -200);
        t.dueRow(4, 1, 2, 1);
        due(t.text(times("1", 12)).sentence(0), 0);
        due(t.x.count(10), 12);
        Talk.promise(22, "sentence: compounds");
        Talk u = new Talk();
        u.text("12e;1a;2a;21a;22u").words();
        due(u.text("12").sentence(0), 2);
        u.dueRow(0);
        due(u.text("121").sentence(0), 2);
        u.dueRow(1, 3);
        due(u.text("2121").sentence(0), 2);
        u.dueRow(3, 3);
        due(u.text("212").sentence(0), 2);
        u.dueRow(3, 2);
        due(u.text("22").sentence(0), 2);
        u.dueRow(2, 2);
        Talk.promise(22, "sentence: a compound tells nothing else");
        Talk v = new Talk();
        v.text("12a;0u").words();
        due(v.text("1").sentence(0), -200);
        due(v.text("2").sentence(0), -200);
        due(v.text("21").sentence(0), -200);
        due(v.text("012").sentence(0), 6);
        v.dueRow(1, 0);
        Talk.promise(22, "sentence: no sign behind the end of THE TEXT");
        v.x.sign(0x31323132);
        v.x.end(1);
        due(v.x.sentence(0), -200);
        v.x.sign(0x31323132);
        v.x.end(3);
        due(v.x.sentence(0), -200);
        Talk.promise(22, "sentence: of as cheap ones the least row");
        Talk w = new Talk();
        w.text("1b;12c;2d;1f").words();
        due(w.text("12").sentence(0), 0);
        w.dueRow(0, 2);
        due(w.text("1212").sentence(0), 0);
        w.dueRow(0, 2, 0, 2);
    }

    private static void when() {
        Talk.promise(23, "when");
        Talk t = Talk.example();
        due(t.x.when(4, 2), 0);
        t.dueRow(13, 13);
        for (int wrong : new int[] {-1, 5, LOW, HIGH}) {
            due(t.x.when(wrong, 0), -1);
            due(t.x.when(0, wrong), -1);
        }
        t.dueRow(13, 13);
        t.x.pause(30);
        t.text("(h=20)*5+(h>5)*(h<8)*50+9").rule();
        due(t.x.when(2, 0), 2);
        t.dueRow(18, 99 + 19);
        t.text("24-h").rule();
        due(t.x.when(2, 0), 17);
        t.dueRow(2, 36);
        t.text("h").rule();
        due(t.x.when(2, 0), 18);
        t.dueRow(0, 12);
        due(t.x.count(4), 30);
        t.text("h=6").rule();
        due(t.x.when(2, 0), 1);
        t.dueRow(0, 2);
        t.text("1-(h=5)").rule();
        due(t.x.when(2, 0), 23);
        t.dueRow(0, 2);
    }

    private static void shortest() {
        Talk.promise(24, "shortest");
        Talk t = Talk.example();
        due(t.x.shortest(1, 0, 0), 1);
        t.dueRow(2, 0);
        due(t.x.shortest(2, 0, 6), -2);
        due(t.x.shortest(2, 0, 7), 2);
        due(t.x.shortest(8, 0, 9999), -2);
        due(t.x.shortest(2, 0, 10000), -1);
        due(t.x.shortest(2, 0, -1), -1);
        due(t.x.shortest(-1, 0, 1), -1);
        due(t.x.shortest(10, 0, 1), -1);
        due(t.x.shortest(2, 3, 1), -1);
        due(t.x.shortest(2, -1, 1), -1);
        t.dueRow(2, 7);
        t.text("5uu;5ao;50oa;5bcd").words();
        due(t.x.shortest(5, 0, 9999), 6);
        t.dueRow(2, 5);
        due(t.x.shortest(5, 0, 4), 8);
        t.dueRow(3, 0);
        due(t.x.shortest(0, 0, 99), 7);
        Talk u = new Talk();
        u.text("0ab;1ab;0ab;0a;0e").words();
        due(u.x.shortest(0, 0, 0), -2);
        due(u.x.shortest(0, 0, 1), 3);
        u.text("l*9*(v<1)+(l=1)*50").rule();
        due(u.x.shortest(0, 0, 20), 0);
        u.dueRow(2, 18);
        due(u.x.shortest(0, 0, 9999), 4);
    }

    private static void differ() {
        Talk.promise(25, "differ");
        Talk t = new Talk();
        t.text("1kitten;1sittin;1sit;1u;1aeiou;1eioua").words();
        due(t.x.differ(0, 1), 2);
        t.dueRow(1);
        due(t.x.differ(0, 2), 4);
        t.dueRow(1);
        due(t.x.differ(2, 0), 4);
        due(t.x.differ(0, 3), 6);
        t.dueRow(2);
        due(t.x.differ(4, 5), 2);
        t.dueRow(2);
        due(t.x.differ(2, 3), 3);
        t.dueRow(1);
        t.text("1bcd").words();
        due(t.x.differ(6, 4), 5);
        t.dueRow(5);
        due(t.x.differ(4, 6), 5);
        t.dueRow(5);
        due(t.x.differ(6, 3), 3);
        t.dueRow(1);
        due(t.x.differ(5, 5), 0);
        t.dueRow(0);
        for (int wrong : new int[] {-1, 7, LOW, HIGH}) {
            due(t.x.differ(wrong, 0), -1);
            due(t.x.differ(0, wrong), -1);
        }
        t.dueRow(0);
    }

    private static void near() {
        Talk.promise(26, "near");
        Talk t = new Talk();
        due(t.x.near(0), -1);
        t.text("12abc").words();
        due(t.x.near(0), -2);
        t.dueRow();
        t.text("3abx;42abd;5zzz;1abc").words();
        due(t.x.near(0), 4);
        t.dueRow(0, 1);
        due(t.x.near(1), 0);
        t.dueRow(1, 0);
        due(t.x.near(2), 0);
        t.dueRow(1, 1);
        due(t.x.near(3), 0);
        t.dueRow(3, 0);
        for (int wrong : new int[] {-1, 5, LOW, HIGH}) {
            due(t.x.near(wrong), -1);
        }
        t.dueRow(3, 0);
    }

    private static void heard() {
        Talk.promise(27, "heard");
        Talk t = new Talk();
        t.text("1a;1abcdef;1abc").words();
        int[][] asked = {{0, 5, 0, 1, 2}, {0, 5, 1, 1, 1}, {0, 0, 1, 1, 1}, {0, 0, 0, 0, 1}, {0, 10, 0, 1, 1},
            {1, 9, 0, 531441, 1000000}, {1, 9, 1, 177147, 200000}, {1, 9, 2, 19683, 20000}, {1, 0, 2, 0, 1}, {1, 10, 2, 1, 1},
            {2, 5, 1, 1, 2}, {2, 5, 2, 7, 8}, {2, 2, 0, 1, 125}, {1, 5, 2, 11, 32}};
        for (int[] a : asked) {
            due(t.x.heard(a[0], a[1], a[2]), 0);
            t.dueRow(a[3], a[4]);
        }
        for (int[] wrong : new int[][] {{-1, 5, 1}, {3, 5, 1}, {0, -1, 1}, {0, 11, 1}, {0, 5, -1}, {0, 5, 3}, {HIGH, LOW, HIGH}}) {
            due(t.x.heard(wrong[0], wrong[1], wrong[2]), -1);
        }
        t.dueRow(11, 32);
    }

    private static void code() {
        Talk.promise(28, "code");
        Talk t = new Talk();
        due(t.x.code(3), 0);
        t.dueRow(0);
        due(t.x.code(-1), -1);
        due(t.x.code(7), -1);
        t.text("1aaa;1aab;1abb;1bbb;1aaa").words();
        due(t.x.code(0), 5);
        t.dueRow(31);
        due(t.x.code(1), 4);
        t.dueRow(15);
        due(t.x.code(2), 2);
        t.dueRow(10);
        due(t.x.code(3), 2);
        t.dueRow(9);
        due(t.x.code(4), 1);
        t.dueRow(8);
        due(t.x.code(6), 1);
        t.dueRow(8);
        Talk.promise(28, "code: the cheapest at STATION 0 now, then the least");
        Talk u = new Talk();
        u.x.road(2);
        u.text("1a;1e;1b;1c").words();
        due(u.x.code(2), 1);
        u.dueRow(4);
        u.text("s+h*(v=0)+3*(v>0)").rule();
        due(u.x.code(2), 1);
        u.dueRow(1);
        u.x.pause(1);
        due(u.x.code(2), 1);
        u.dueRow(4);
        due(u.x.code(HIGH), -1);
        u.dueRow(4);
    }

    private static void trip() {
        Talk.promise(29, "trip");
        Talk t = Talk.example();
        due(t.x.trip(0, 5), 7);
        t.dueRow(1, 3);
        due(t.x.trip(0, 0), -2);
        due(t.x.trip(0, 13), -1);
        due(t.x.trip(0, -1), -1);
        due(t.x.trip(2, 1), -1);
        due(t.x.trip(-1, 1), -1);
        t.dueRow(1, 3);
        due(t.x.trip(1, 0), 13);
        t.dueRow(0, 1);
        t.text("2:0").travellers();
        due(t.x.trip(2, 4), 0);
        t.dueRow(0, 0);
        Talk.promise(29, "trip: PURSE is left aside, waiting makes it cheaper, one WORD for two");
        Talk u = new Talk();
        u.x.road(6);
        u.text("1a;2e;12iu").words();
        u.text("0:0").travellers();
        u.text("a10=1;a20=1;a15=1").errands();
        u.text("9-h").rule();
        due(u.x.trip(0, 12), 2);
        u.dueRow(12, 3);
        due(u.x.trip(0, 5), 9 + 9 + 4);
        u.dueRow(5, 3);
        due(u.x.trip(0, 7), 7 + 7 + 2);
        u.dueRow(7, 3);
        u.text("9").rule();
        due(u.x.trip(0, 12), 27);
        u.dueRow(5, 3);
        due(u.x.trip(0, 4), -2);
        due(u.x.count(4), 0);
        due(u.x.count(5), 0);
        Talk.promise(29, "trip: nobody says what nobody means");
        Talk v = new Talk();
        v.text("1a").words();
        v.text("0:9").travellers();
        v.text("a10=1;a20=1").errands();
        due(v.x.trip(0, 12), -2);
        due(v.x.haste(0), -2);
    }

    private static void haste() {
        Talk.promise(30, "haste");
        Talk t = Talk.example();
        due(t.x.haste(0), 1);
        t.dueRow(7);
        due(t.x.haste(1), 0);
        t.dueRow(13);
        due(t.x.haste(2), -1);
        due(t.x.haste(-1), -1);
        t.dueRow(13);
        Talk.promise(30, "haste: whatever it costs, 12 HOURS at most");
        Talk u = new Talk();
        u.x.road(6);
        u.text("1a;1e").words();
        u.text("2:0").travellers();
        u.text("a15=1;a10=1").errands();
        u.text("40-h*3+v").rule();
        due(u.x.haste(0), 7);
        u.dueRow(34 + 19);
        u.text("a12=1").errands();
        due(u.x.haste(0), 7);
        due(u.x.count(4), 0);
        Talk v = new Talk();
        v.x.road(6);
        v.text("1a").words();
        v.text("5:0").travellers();
        v.text("a10=1;a15=1").errands();
        due(v.x.haste(0), 5);
        v.dueRow(2);
        due(v.x.trip(0, 5), 2);
    }

    private static void best() {
        Talk.promise(31, "best");
        Talk t = Talk.example();
        due(t.x.best(0), 5);
        t.dueRow(1, 0);
        due(t.x.best(1), 0);
        t.dueRow(0, 0);
        due(t.x.best(2), -1);
        due(t.x.best(-1), -1);
        t.dueRow(0, 0);
        Talk.promise(31, "best: each alone, as much WORTH as can be, the cheapest, the least");
        Talk u = new Talk();
        u.text("1a;2e;3i;45o").words();
        u.text("0:5;0:99").travellers();
        u.text("a10=3;a20=4;a30=5;b10=50;a90=9;a10=3").errands();
        due(u.x.best(0), 11);
        u.dueRow(1 + 4 + 32, 5);
        u.x.sheet(2, 1, 3, 0);
        due(u.x.best(0), 7);
        u.dueRow(3, 3);
        u.x.sheet(2, 1, 1, 0);
        due(u.x.best(0), 3);
        u.dueRow(1, 1);
        u.x.say(0, 0);
        due(u.x.best(0), 0);
        u.dueRow(0, 0);
        u.x.sheet(2, 2, 9999, 0);
        due(u.x.best(0), 9);
        u.dueRow(6, 5);
        due(u.x.best(1), 50);
        u.dueRow(8, 1);
        Talk v = new Talk();
        v.text("12u;2e").words();
        v.text("0:11").travellers();
        v.text("a10=8;a10=0;a20=8;a10=8").errands();
        due(v.x.best(0), 16);
        v.dueRow(5, 7);
        Talk w = new Talk();
        w.text("1a").words();
        w.text("0:0;0:0").travellers();
        w.text("b10=99;a10=1").errands();
        w.x.sheet(2, 2, 9999, 0);
        due(w.x.best(0), 1);
        w.dueRow(2, 1);
    }

    private static void takes() {
        Talk.promise(32, "takes");
        Talk t = Talk.example();
        due(t.x.takes(1, 0), 20);
        t.dueRow(3);
        due(t.x.takes(1, 1), 16);
        t.dueRow(2);
        due(t.x.takes(1, 2), 19);
        t.dueRow(2);
        due(t.x.takes(1, 3), 0);
        t.dueRow(1);
        due(t.x.takes(2, 0), 0);
        t.dueRow(0);
        for (int wrong : new int[] {-1, 100, LOW, HIGH}) {
            due(t.x.takes(0, wrong), -1);
            due(t.x.takes(wrong, 0), -1);
        }
        due(t.x.takes(3, 0), -1);
        t.x.walk(0, 1);
        t.x.say(0, 3);
        due(t.x.takes(1, 0), 13);
        t.dueRow(1);
        Talk.promise(32, "takes: the then cheapest WORD, x behind what THE RULE tells");
        Talk u = new Talk();
        u.text("1ae;1o;1").words();
        u.text("1ae;1o").words();
        u.text("0:0").travellers();
        u.text("a10=99;a10=7").errands();
        due(u.x.takes(0, 0), 6);
        due(u.x.takes(0, 3), 14);
        due(u.x.takes(0, 4), 8);
        u.text("99").rule();
        due(u.x.takes(0, 0), 99);
        u.dueRow(1);
        due(u.x.takes(0, 1), 0);
        u.text("0-50").rule();
        due(u.x.takes(0, 7), 14);
        due(u.x.takes(0, 99), 99);
        u.dueRow(1);
    }

    private static void greed() {
        Talk.promise(33, "greed");
        Talk t = Talk.example();
        due(t.x.greed(1), 0);
        t.dueRow(20, 20);
        due(t.x.greed(0), 0);
        t.dueRow(0, 0);
        due(t.x.greed(3), -1);
        due(t.x.greed(-1), -1);
        due(t.x.greed(HIGH), -1);
        t.dueRow(0, 0);
        Talk u = new Talk();
        u.text("1a;2uu").words();
        u.text("0:0").travellers();
        u.text("a10=20;a10=9;a10=10;a20=31").errands();
        due(u.x.greed(0), 8);
        u.dueRow(9 * 3 + 26, 13);
        u.text("a10=99").errands();
        due(u.x.greed(0), 98);
        u.dueRow(99, 14);
        u.text("0-1").rule();
        due(u.x.greed(0), 99);
        u.dueRow(99, 0);
        u.text("98").rule();
        due(u.x.greed(0), 1);
        u.dueRow(99, 98);
    }

    private static void law() {
        Talk.promise(34, "law");
        Talk t = Talk.example();
        due(t.text("v").law(0), 0);
        t.dueRow(4, -10);
        due(t.text("v+2").law(0), 4);
        t.dueRow(0, 10);
        due(t.text("").law(0), 0);
        t.dueRow(0, 0);
        due(t.text("(v=1)*9+(v>1)").law(2), 2);
        t.dueRow(2, 2 * 9 + 1 + 2 + 1 + 3 - 6 - 7 - 8 - 13);
        due(t.text("x").law(0), -1);
        due(t.text("v<s<h").law(0), -4);
        due(t.text(times("v+", 20)).law(0), -41);
        due(t.text("v").law(3), -100);
        due(t.text("x").law(-1), -100);
        due(t.x.count(11), 0);
        t.dueRow(2, -9);
        due(t.x.toll(0, 0), 6);
        t.text("s*9+h").rule();
        t.x.pause(3);
        due(t.text("s*9+4").law(1), 4);
        t.dueRow(0, 10);
        due(t.text("").law(1), 0);
        t.dueRow(4, 34 - 120);
    }

    private static void said() {
        Talk.promise(35, "said");
        Talk t = Talk.example();
        due(t.text("01010").said(), 4);
        t.dueRow(0);
        due(t.text("00000").said(), 4);
        t.dueRow(1);
        due(t.text("").said(), -1);
        due(t.text("0101").said(), -5);
        due(t.text("010100").said(), -6);
        due(t.text("01010x").said(), -6);
        due(t.text("0a").said(), -2);
        due(t.text("0a000000").said(), -2);
        due(t.x.count(11), 0);
        t.dueRow(1);
        due(t.text("99999").said(), 0);
        t.dueRow();
        due(t.text("11011").said(), 0);
        due(t.text("11101").said(), 0);
        due(t.text("11112").said(), 0);
        due(t.text("12101").said(), 0);
        due(t.text("12021").said(), 0);
        due(t.text("02020").said(), 3);
        t.dueRow(0, 0);
        due(t.text("12021").said(), 0);
        t.dueRow();
        due(t.text("12011").said(), 3);
        t.dueRow(0, 3);
        Talk.promise(35, "said: the fewest WORDS, then the least row");
        Talk u = new Talk();
        due(u.text("00000").said(), 0);
        u.text("1a;1aa;1aaa;1a").words();
        due(u.text("20000").said(), 4);
        u.dueRow(1);
        due(u.text("40000").said(), 2 + 1 + 3 + 5);
        u.dueRow(0, 2);
        due(u.text("90000").said(), 1 + 2 + 1);
        u.dueRow(2, 2, 2);
    }

    private static void ask() {
        Talk.promise(36, "ask");
        Talk t = new Talk();
        due(t.x.ask(), -2);
        t.dueRow();
        t.text("1a").words();
        due(t.x.ask(), 0);
        t.dueRow(1);
        t.text("1e;1aee").words();
        due(t.x.ask(), 1);
        t.dueRow(1);
        t.text("1a;1eeb").words();
        due(t.x.ask(), 1);
        t.dueRow(2);
        due(Talk.example().x.ask(), 3);
    }

    private static int drawn(int[] r, int n) {
        r[0] = (int) (r[0] * 1103515245L + 12345L);
        return (int) ((r[0] & 0xffffffffL) / 65536 % n);
    }

    private static void years() {
        Talk.promise(37, "years");
        Talk t = new Talk();
        due(t.x.years(1, 0), -2);
        t.text("1a").words();
        due(t.x.years(1, 1), -2);
        t.text("0:0").travellers();
        due(t.x.years(1, 0), -1);
        due(t.x.years(1, 61), -1);
        due(t.x.years(1, LOW), -1);
        t.dueRow();
        Talk u = new Talk();
        u.text("0:0").travellers();
        due(u.x.years(1, 1), -2);
        Talk.promise(37, "years: on one STATION each thing can fail alone");
        due(t.x.years(-77, 60), 0);
        t.dueRow(0, 60);
        due(t.x.count(4), 0);
        due(t.x.count(9), 0);
        due(t.x.years(3, 1), 0);
        t.dueRow(0, 1);
        Talk.promise(37, "years: what is drawn is done one by one");
        for (int seed : new int[] {0, 1, -1, 12345, LOW, HIGH, 987654321}) {
            Talk v = Talk.example();
            v.x.sheet(2, 2, 60, 1);
            int[] r = {seed};
            int paid = 0;
            int failed = 0;
            Talk w = Talk.example();
            w.x.sheet(2, 2, 60, 1);
            for (int i = 0; i < 30; i++) {
                int who = drawn(r, 2);
                int what = drawn(r, 4);
                int answer = what < 2 ? w.x.walk(who, 1 - what) : w.x.say(who, drawn(r, 5));
                failed += answer < 0 ? 1 : 0;
                paid += what < 2 || answer < 0 ? 0 : answer;
            }
            due(v.x.years(seed, 30), Integer.bitCount(w.x.count(5)));
            v.dueRow(paid, failed);
        }
        yearsChangeNothing();
        Talk.promise(37, "years: the TOLL is that of the HOUR in which it is said");
        Talk v = new Talk();
        v.text("1a").words();
        v.text("0:999").travellers();
        v.text("h").rule();
        int[] r = {5};
        int paid = 0;
        int failed = 0;
        for (int i = 0; i < 20; i++) {
            drawn(r, 1);
            if (drawn(r, 4) < 2) {
                failed++;
            } else {
                drawn(r, 1);
                paid += i;
            }
        }
        due(v.x.years(5, 20), 0);
        v.dueRow(paid, failed);
        Talk.promise(37, "years: ERRANDS that were done ahead of it do not count");
        v.text("").rule();
        v.text("a10=1").errands();
        v.x.say(0, 0);
        v.text("a10=1").errands();
        due(v.x.years(5, 20), 1);
        due(v.x.count(5), 1);
        due(v.x.years(5, 20), 1);
    }

    /** Asked with an undo list that is empty, in part full, and full, as the program works beside that list. */
    private static void yearsChangeNothing() {
        Talk.promise(37, "years: a question, it changes nothing but the ROW");
        for (int acts = 0; acts <= 14; acts++) {
            Talk t = Talk.example();
            Talk u = Talk.example();
            for (Talk each : new Talk[] {t, u}) {
                each.x.sheet(2, 2, 500, 1);
                each.x.keep(0);
                for (int i = 0; i < acts; i++) {
                    due(each.x.pause(i + 1) > 0, true);
                }
                each.x.keep(1);
                each.text("1a2b");
            }
            for (int seed = 0; seed < 2; seed++) {
                int done = t.x.years(seed, 60);
                long paid = t.x.row(0);
                long failed = t.x.row(1);
                due(paid > 0, true);
                alike(t, u);
                due(t.x.years(seed, 60), done);
                t.dueRow(paid, failed);
            }
            for (int left = Math.min(acts, 12) - 1; left >= 0; left--) {
                due(t.x.undo(), left);
                due(u.x.undo(), left);
                due(t.x.count(4), u.x.count(4));
                due(t.x.count(7), u.x.count(7));
            }
            due(t.x.undo(), -1);
            for (int i = 0; i < 2; i++) {
                due(t.x.again(i), true);
                due(u.x.again(i), true);
                alike(t, u);
            }
        }
    }

    /** All that can be asked of what is on the road is the same. */
    private static void alike(Talk one, Talk other) {
        for (int what = 0; what <= 11; what++) {
            if (what != 10) {
                due(one.x.count(what), other.x.count(what));
            }
        }
        for (int traveller = 0; traveller < other.x.count(2); traveller++) {
            for (int what = 0; what <= 4; what++) {
                due(one.x.traveller(traveller, what), other.x.traveller(traveller, what));
            }
        }
        for (int station = 0; station < other.x.count(0); station++) {
            for (int vowel = 0; vowel < 5; vowel++) {
                due(one.x.book(station, vowel), other.x.book(station, vowel));
            }
        }
    }

    private static void keep() {
        Talk.promise(38, "keep");
        Talk t = new Talk();
        due(t.x.keep(-1), false);
        due(t.x.keep(2), false);
        due(t.x.keep(LOW), false);
        due(t.x.keep(HIGH), false);
        due(t.x.again(0), false);
        due(t.x.keep(0), true);
        t.x.pause(3);
        due(t.x.keep(1), true);
        t.x.pause(4);
        due(t.x.again(1), true);
        due(t.x.count(4), 3);
        due(t.x.again(0), true);
        due(t.x.count(4), 0);
        t.x.pause(9);
        due(t.x.keep(0), true);
        t.x.pause(9);
        due(t.x.again(0), true);
        due(t.x.count(4), 9);
    }

    private static void again() {
        Talk.promise(39, "again");
        Talk t = Talk.example();
        for (int wrong : new int[] {-1, 0, 1, 2, LOW, HIGH}) {
            due(t.x.again(wrong), false);
        }
        t.x.say(0, 0);
        t.x.keep(0);
        t.text("a>;a3;w9;b<").journey();
        t.x.alms(0, 1, 1);
        t.x.sheet(3, 0, 0, 0);
        t.text("v*2").rule();
        due(t.x.again(0), true);
        due(t.x.count(4), 0);
        due(t.x.count(5), 1);
        due(t.x.count(6), 2);
        due(t.x.count(7), 23);
        due(t.x.count(9), 0);
        due(t.x.traveller(0, 0), 0);
        due(t.x.traveller(1, 0), 1);
        due(t.x.traveller(0, 2), 6);
        due(t.x.toll(0, 0), 8);
        t.x.pause(1);
        due(t.x.again(1), false);
        due(t.x.count(9), 1);
        due(t.x.again(0), true);
        Talk.promise(39, "again: what came since");
        t.text("").words();
        t.text("x").words();
        t.text("").travellers();
        t.text("").errands();
        t.x.road(0);
        due(t.x.again(0), true);
        t.text("1a").words();
        due(t.x.again(0), false);
        t.x.keep(0);
        t.text("0:1").travellers();
        due(t.x.again(0), false);
        t.x.keep(1);
        t.text("a00=1").errands();
        due(t.x.again(1), false);
        t.x.keep(1);
        t.x.road(4);
        due(t.x.again(1), false);
        t.x.keep(1);
        due(t.x.again(1), true);
    }

    private static void count() {
        Talk.promise(40, "count");
        Talk t = Talk.example();
        t.x.walk(0, 1);
        t.x.say(0, 3);
        t.x.pause(4);
        t.x.toll(0, 0);
        t.x.sign(0);
        int[] want = {3, 5, 2, 4, 5, 10, 3, 21, 8, 3, 5, 4};
        for (int i = 0; i < want.length; i++) {
            due(t.x.count(i), want[i]);
        }
        for (int wrong : new int[] {-1, 12, LOW, HIGH}) {
            due(t.x.count(wrong), -1);
        }
        t = new Talk();
        t.text("12a;3a;45a").words();
        due(t.x.count(8), 5);
    }

    private static void row() {
        Talk.promise(41, "row");
        Talk t = Talk.example();
        Talk.dueNoSuch(() -> t.x.row(0));
        t.x.toll(0, 0);
        due(t.x.row(4), 0);
        due(t.x.row(3), 4);
        for (int wrong : new int[] {-1, 5, LOW, HIGH}) {
            Talk.dueNoSuch(() -> t.x.row(wrong));
        }
        t.x.cheapest(1, 0);
        due(t.x.row(1), 3);
        Talk.dueNoSuch(() -> t.x.row(2));
        Talk.promise(41, "row: what refuses, and what tells none, leaves it");
        t.x.toll(9, 0);
        t.x.cheapest(9, 0);
        t.x.best(9);
        t.x.walk(0, 1);
        t.x.pause(1);
        t.x.undo();
        t.text("?").journey();
        t.text("?").said();
        t.text("?").law(0);
        t.text("9").sentence(0);
        t.x.trip(0, 0);
        t.x.sheet(2, 1, 1, 1);
        t.dueRow(0, 3);
        t.text("99999").said();
        t.dueRow();
        Talk.dueNoSuch(() -> t.x.row(0));
    }

    /** As many STATIONS, WORDS, TRAVELLERS, ERRANDS, signs as there can be: each call answers. */
    private static void full() {
        Talk.promise(1, "all that has room");
        Talk t = new Talk();
        t.x.road(6);
        due(t.text("00uuuuuu;11uuuuuu;12uuuuuu;23uuuuuu;3uuuuuu").words(), 5);
        due(t.text("45uuuuuu;5uuuuuu;6uuuuuu;7uuuuuu;99uuuuuu").words(), 5);
        due(t.text("5:999;5:999;5:999;5:999").travellers(), 4);
        due(t.text("a05=99;b15=99;c25=99;d35=99;a55=99;b65=99;c75=99;d95=99").errands(), 8);
        due(t.x.count(8), 1 + 2 + 4 + 8 + 32 + 512);
        due(t.x.word(9, 8), 6);
        due(t.x.toll(9, 5), 30);
        t.dueRow(0, 0, 0, 0, 30);
        due(t.x.cheapest(9, 5), 9);
        t.dueRow(30, 1);
        due(t.text("991212121212").sentence(5), 30 * 6);
        t.dueRow(9, 2, 2, 2, 2, 2);
        due(t.text("333333333333").sentence(5), 30 * 12);
        t.dueRow(4, 4, 4, 4, 4, 4, 4, 4, 4, 4, 4, 4);
        due(t.x.when(9, 5), 0);
        due(t.x.shortest(9, 5, 9999), 9);
        due(t.x.differ(9, 0), 0);
        due(t.x.near(9), 0);
        t.dueRow(0, 0);
        due(t.x.heard(9, 1, 2), 0);
        t.dueRow(127, 100000);
        due(t.x.code(0), 10);
        t.dueRow(1023);
        due(t.x.code(1), 1);
        t.dueRow(1);
        due(t.x.trip(3, 12), 60);
        t.dueRow(0, 2);
        due(t.x.haste(3), 0);
        t.dueRow(60);
        due(t.x.best(3), 198);
        t.dueRow(8 + 128, 60);
        due(t.x.takes(5, 11), 96 * 8);
        t.dueRow(8);
        due(t.x.greed(5), 11);
        t.dueRow(96 * 8, 240);
        due(t.text("").law(5), 0);
        t.dueRow(0, 0);
        due(t.text("00006").said(), 10);
        t.dueRow(0);
        due(t.text("00009").said(), 0);
        due(t.x.ask(), 0);
        t.dueRow(10);
        for (int i = 0; i < 14; i++) {
            due(t.x.say(i % 4, i % 4 == 3 ? 9 : i % 4 * 3), 30);
        }
        due(t.x.count(6), 84);
        due(t.x.count(9), 12);
        due(t.x.book(5, 4), 84);
        due(t.text("a9;b9;c9;d9;a<;b<;c<;d<").journey(), 8);
        t.dueRow(0, 120);
        due(t.x.years(1, 60) >= 0, true);
        due(t.x.sheet(2, 4, 9999, 0), 4 * 9999);
        due(t.x.count(7), 4 * 9999);
        due(t.x.keep(1), true);
        due(t.x.again(1), true);
        due(t.x.road(6), 6);
        due(t.text("00000000").words(), -1);
    }
}
