import java.util.ArrayList;
import java.util.Arrays;
import java.util.HashMap;
import java.util.List;
import java.util.Map;
import java.util.NoSuchElementException;
import java.util.TreeMap;
import java.util.regex.Matcher;
import java.util.regex.Pattern;

/**
 * The document told a second time, by other means than the program's (regular expressions, lists, plain search),
 * so that a slip in one of both shows where they differ.
 */
public final class Model {
    private static final String VOWELS = "aeiou";

    static final class Word {
        String letters;
        String meanings;

        boolean means(int m) {
            return meanings.indexOf('0' + m) >= 0;
        }

        int vowels(int v) {
            return (int) letters.chars().filter(c -> c == VOWELS.charAt(v)).count();
        }

        String vowels() {
            return letters.replaceAll("[^aeiou]", "");
        }
    }

    static final class Errand {
        int whose;
        int meaning;
        int station;
        int worth;
    }

    static final class State {
        int hour;
        List<int[]> people = new ArrayList<>();
        int done;
        int[][] books = new int[6][5];

        State copy() {
            State s = new State();
            s.hour = hour;
            s.done = done;
            for (int[] p : people) {
                s.people.add(p.clone());
            }
            for (int i = 0; i < 6; i++) {
                s.books[i] = books[i].clone();
            }
            return s;
        }
    }

    private String text = "";
    private String rule = "";
    private int stations = 1;
    private final List<Word> words = new ArrayList<>();
    private final List<Errand> errands = new ArrayList<>();
    private State now = new State();
    private final List<State> past = new ArrayList<>();
    private final Map<Integer, State> kept = new HashMap<>();
    private List<Long> row = new ArrayList<>();

    private void tell(long... numbers) {
        row = new ArrayList<>();
        for (long n : numbers) {
            row.add(n);
        }
    }

    // ---- texts

    public int sign(int v) {
        if (text.length() + 4 > 80) {
            return -1;
        }
        for (int shift = 24; shift >= 0; shift -= 8) {
            text += (char) (v >> shift & 255);
        }
        return text.length();
    }

    public boolean end(int n) {
        if (n < 0 || n > text.length()) {
            return false;
        }
        text = text.substring(0, n);
        return true;
    }

    private String take() {
        String all = text;
        text = "";
        return all;
    }

    interface Whole {
        boolean fits(String s);
    }

    /** Where a text fails: -1 if it is whole, else the first sign that no text goes on with. */
    private static int fails(String s, int limit, Whole viable, Whole whole) {
        String seen = s.substring(0, Math.min(limit, s.length()));
        for (int p = 0; p < seen.length(); p++) {
            if (!viable.fits(seen.substring(0, p + 1))) {
                return p;
            }
        }
        if (s.length() > limit) {
            return limit;
        }
        return whole.fits(s) ? -1 : s.length();
    }

    private static int failsLines(String s, int limit, String line, int room) {
        if (room == 0) {
            return 0;
        }
        String lines = "(?:" + line + ")(?:;(?:" + line + ")){0," + (room - 1) + "}";
        Pattern open = Pattern.compile(lines + ";?", Pattern.DOTALL);
        Pattern closed = Pattern.compile(lines, Pattern.DOTALL);
        return fails(s, limit, q -> {
            Matcher m = open.matcher(q);
            return m.matches() || m.hitEnd();
        }, q -> closed.matcher(q).matches());
    }

    private void forget() {
        past.clear();
        kept.clear();
    }

    public int road(int n) {
        int need = 1;
        for (int[] p : now.people) {
            need = Math.max(need, p[0] + 1);
        }
        for (Errand e : errands) {
            need = Math.max(need, e.station + 1);
        }
        if (n < need || n > 6) {
            return -1;
        }
        for (int s = n; s < 6; s++) {
            now.books[s] = new int[5];
        }
        int old = stations;
        stations = n;
        forget();
        return old;
    }

    public int words() {
        String s = take();
        if (s.isEmpty()) {
            return 0;
        }
        int p = failsLines(s, 76, "[0-9]{1,2}[a-z]{1,6}", 10 - words.size());
        if (p >= 0) {
            return -1 - p;
        }
        String[] lines = s.split(";");
        for (String line : lines) {
            Word w = new Word();
            w.letters = line.replaceAll("[0-9]", "");
            w.meanings = line.replaceAll("[a-z]", "");
            words.add(w);
        }
        forget();
        return lines.length;
    }

    public int travellers() {
        String s = take();
        if (s.isEmpty()) {
            return 0;
        }
        int p = failsLines(s, 40, "[0-" + (stations - 1) + "]:[0-9]{1,3}", 4 - now.people.size());
        if (p >= 0) {
            return -1 - p;
        }
        String[] lines = s.split(";");
        for (String line : lines) {
            now.people.add(new int[] {line.charAt(0) - '0', Integer.parseInt(line.substring(2)), 0});
        }
        forget();
        return lines.length;
    }

    public int errands() {
        String s = take();
        if (s.isEmpty()) {
            return 0;
        }
        String who = now.people.isEmpty() ? "(?!)" : "[a-" + (char) ('a' + now.people.size() - 1) + "]";
        int p = now.people.isEmpty() ? 0
            : failsLines(s, 76, who + "[0-9][0-" + (stations - 1) + "]=[0-9]{1,2}", 8 - errands.size());
        if (p >= 0) {
            return -1 - p;
        }
        String[] lines = s.split(";");
        for (String line : lines) {
            Errand e = new Errand();
            e.whose = line.charAt(0) - 'a';
            e.meaning = line.charAt(1) - '0';
            e.station = line.charAt(2) - '0';
            e.worth = Integer.parseInt(line.substring(4));
            errands.add(e);
        }
        forget();
        return lines.length;
    }

    // ---- rules

    private static boolean isRule(String s) {
        int deep = 0;
        for (char c : s.toCharArray()) {
            deep += c == '(' ? 1 : c == ')' ? -1 : 0;
            if (deep > 4 || deep < 0) {
                return false;
            }
        }
        if (s.indexOf('x') >= 0 || s.indexOf('#') >= 0) {
            return false;
        }
        String t = s.replaceAll("[0-9]+(?<=[0-9]{4})", "#").replaceAll("[0-9]+", "x").replaceAll("[vshlpnd]", "x");
        String sum = "-*x(?:[-+*/]-*x)*";
        String piece = sum + "(?:[<>=]" + sum + ")?";
        for (int i = 0; i < 40; i++) {
            t = t.replaceAll("\\(" + piece + "\\)", "x");
        }
        return t.matches(piece);
    }

    private static boolean isRuleSoFar(String s) {
        for (String closing : new String[] {"", ")", "))", ")))", "))))"}) {
            if (isRule(s + closing) || isRule(s + "1" + closing)) {
                return true;
            }
        }
        return false;
    }

    private static int failsRule(String s) {
        return s.isEmpty() ? -1 : fails(s, 40, Model::isRuleSoFar, Model::isRule);
    }

    public int rule() {
        String s = take();
        int p = failsRule(s);
        if (p >= 0) {
            return -1 - p;
        }
        rule = s;
        return 0;
    }

    private static int value(String s, Map<Character, Integer> facts) {
        List<Object> tokens = new ArrayList<>();
        for (int i = 0; i < s.length(); i++) {
            char c = s.charAt(i);
            if (c == '(') {
                int deep = 0;
                int k = i;
                do {
                    deep += s.charAt(k) == '(' ? 1 : s.charAt(k) == ')' ? -1 : 0;
                    k++;
                } while (deep > 0);
                tokens.add(value(s.substring(i + 1, k - 1), facts));
                i = k - 1;
            } else if (Character.isDigit(c)) {
                int k = i;
                while (k < s.length() && Character.isDigit(s.charAt(k))) {
                    k++;
                }
                tokens.add(Integer.parseInt(s.substring(i, k)));
                i = k - 1;
            } else if (Character.isLetter(c)) {
                tokens.add(facts.get(c));
            } else {
                tokens.add(c);
            }
        }
        for (int i = tokens.size() - 2; i >= 0; i--) {
            boolean ahead = i == 0 || tokens.get(i - 1) instanceof Character;
            if (ahead && tokens.get(i).equals('-')) {
                tokens.remove(i);
                tokens.set(i, -(Integer) tokens.get(i));
            }
        }
        for (String signs : new String[] {"*/", "+-", "<>="}) {
            for (int i = 1; i < tokens.size(); ) {
                char sign = (Character) tokens.get(i);
                if (signs.indexOf(sign) < 0) {
                    i += 2;
                    continue;
                }
                int a = (Integer) tokens.get(i - 1);
                int b = (Integer) tokens.get(i + 1);
                int r = sign == '*' ? a * b : sign == '/' ? (b == 0 ? 0 : a / b) : sign == '+' ? a + b
                    : sign == '-' ? a - b : sign == '<' ? (a < b ? 1 : 0) : sign == '>' ? (a > b ? 1 : 0) : (a == b ? 1 : 0);
                tokens.set(i - 1, r);
                tokens.remove(i);
                tokens.remove(i);
            }
        }
        return (Integer) tokens.get(0);
    }

    private int[] parts(String by, Word w, int station, int hour) {
        int[] parts = new int[5];
        int ahead = 0;
        for (int p = 0; p < w.letters.length(); p++) {
            int v = VOWELS.indexOf(w.letters.charAt(p));
            if (v < 0) {
                continue;
            }
            Map<Character, Integer> facts = new HashMap<>();
            facts.put('v', v);
            facts.put('s', station);
            facts.put('h', hour % 24);
            facts.put('l', w.letters.length());
            facts.put('p', p);
            facts.put('n', ahead++);
            facts.put('d', p > 0 && w.letters.charAt(p - 1) == w.letters.charAt(p) ? 1 : 0);
            parts[v] += Math.max(0, Math.min(99, value(by.isEmpty() ? "v+1" : by, facts)));
        }
        return parts;
    }

    private int price(int w, int station, int hour) {
        return Arrays.stream(parts(rule, words.get(w), station, hour)).sum();
    }

    // ---- what is there

    private boolean noWord(int w) {
        return w < 0 || w >= words.size();
    }

    private boolean noTraveller(int t) {
        return t < 0 || t >= now.people.size();
    }

    private boolean noStation(int s) {
        return s < 0 || s >= stations;
    }

    private boolean isDone(int e) {
        return (now.done >> e) % 2 == 1;
    }

    public int word(int word, int what) {
        if (noWord(word) || what < 0 || what > 8) {
            throw new NoSuchElementException();
        }
        Word w = words.get(word);
        if (what >= 4) {
            return w.vowels(what - 4);
        }
        return new int[] {w.letters.length(), w.vowels().length(), w.meanings.charAt(0) - '0',
            w.meanings.length() == 2 ? w.meanings.charAt(1) - '0' : -1}[what];
    }

    public int traveller(int traveller, int what) {
        if (noTraveller(traveller) || what < 0 || what > 4) {
            throw new NoSuchElementException();
        }
        if (what < 3) {
            return now.people.get(traveller)[what];
        }
        int open = 0;
        int worth = 0;
        for (int e = 0; e < errands.size(); e++) {
            if (errands.get(e).whose == traveller) {
                open += isDone(e) ? 0 : 1 << e;
                worth += isDone(e) ? errands.get(e).worth : 0;
            }
        }
        return what == 3 ? open : worth;
    }

    public int errand(int errand, int what) {
        if (errand < 0 || errand >= errands.size() || what < 0 || what > 4) {
            throw new NoSuchElementException();
        }
        Errand e = errands.get(errand);
        return new int[] {e.whose, e.meaning, e.station, e.worth, isDone(errand) ? 1 : 0}[what];
    }

    public int book(int station, int vowel) {
        if (noStation(station) || vowel < 0 || vowel > 4) {
            throw new NoSuchElementException();
        }
        return now.books[station][vowel];
    }

    public int sheet(int kind, int n, int f, int step) {
        if (kind < 0 || kind > 3 || n > 4) {
            return -1;
        }
        if (kind < 3 && n < 0) {
            return -2;
        }
        int sum = 0;
        for (int i = 0; i < now.people.size(); i++) {
            int entry = 0;
            if (kind < 3 && i < n) {
                entry = f;
                for (int k = 0; k < i; k++) {
                    entry += step;
                }
                entry = kind == 0 ? (byte) entry : kind == 1 ? (short) entry : entry;
            }
            now.people.get(i)[1] = Math.max(0, Math.min(9999, entry));
            sum += now.people.get(i)[1];
        }
        return kind == 3 ? -3 : sum;
    }

    // ---- on the road

    public int toll(int word, int station) {
        if (noWord(word) || noStation(station)) {
            return -1;
        }
        int[] parts = parts(rule, words.get(word), station, now.hour);
        tell(Arrays.stream(parts).asLongStream().toArray());
        return Arrays.stream(parts).sum();
    }

    private void note(State before) {
        past.add(before);
        if (past.size() > 12) {
            past.remove(0);
        }
    }

    private int doWalk(int t, int way, int hours) {
        if (noTraveller(t) || (way != 0 && way != 1)) {
            return -1;
        }
        int to = now.people.get(t)[0] + (way == 1 ? 1 : -1);
        if (noStation(to)) {
            return -2;
        }
        now.people.get(t)[0] = to;
        now.hour += hours;
        return to;
    }

    private int lastDone;

    private int doSay(int t, int w) {
        if (noTraveller(t) || noWord(w)) {
            return -1;
        }
        int[] me = now.people.get(t);
        int price = price(w, me[0], now.hour);
        if (me[1] < price) {
            return -2;
        }
        me[1] -= price;
        me[2] += price;
        for (int v = 0; v < 5; v++) {
            now.books[me[0]][v] += words.get(w).vowels(v);
        }
        int before = now.done;
        for (int e = 0; e < errands.size(); e++) {
            Errand errand = errands.get(e);
            if (errand.whose == t && errand.station == me[0] && words.get(w).means(errand.meaning)) {
                now.done |= 1 << e;
            }
        }
        lastDone = now.done - before;
        return price;
    }

    public int walk(int traveller, int way) {
        State before = now.copy();
        int r = doWalk(traveller, way, 1);
        if (r >= 0) {
            note(before);
        }
        return r;
    }

    public int pause(int n) {
        if (n < 0 || n > 99) {
            return -1;
        }
        if (n > 0) {
            note(now.copy());
        }
        return now.hour += n;
    }

    public int say(int traveller, int word) {
        State before = now.copy();
        int r = doSay(traveller, word);
        if (r >= 0) {
            note(before);
            tell(lastDone);
        }
        return r;
    }

    public int alms(int from, int to, int n) {
        if (noTraveller(from) || noTraveller(to) || from == to || n < 1 || n > 9999) {
            return -1;
        }
        if (now.people.get(from)[0] != now.people.get(to)[0]) {
            return -3;
        }
        if (now.people.get(from)[1] < n) {
            return -2;
        }
        note(now.copy());
        now.people.get(from)[1] -= n;
        return now.people.get(to)[1] = Math.min(9999, now.people.get(to)[1] + n);
    }

    public int journey() {
        String s = take();
        int p = s.isEmpty() ? -1 : failsLines(s, 60, "[a-d][<>!0-9]|w[0-9]{1,2}", 60);
        if (p >= 0) {
            return -1 - p;
        }
        State before = now.copy();
        int done = 0;
        int paid = 0;
        int stuck = 0;
        for (String act : s.isEmpty() ? new String[0] : s.split(";")) {
            int r = act(act);
            if (r < 0) {
                stuck = 1;
                break;
            }
            paid += r;
            done++;
        }
        if (done > 0) {
            note(before);
        }
        tell(stuck, paid);
        return done;
    }

    private int act(String act) {
        int who = act.charAt(0) - 'a';
        char what = act.charAt(1);
        if (act.charAt(0) == 'w') {
            now.hour += Integer.parseInt(act.substring(1));
            return 0;
        }
        if (what == '>' || what == '<') {
            return doWalk(who, what == '>' ? 1 : 0, 1) < 0 ? -1 : 0;
        }
        if (what != '!') {
            return doSay(who, what - '0');
        }
        for (int e = 0; e < errands.size() && !noTraveller(who); e++) {
            Errand errand = errands.get(e);
            if (errand.whose == who && errand.station == now.people.get(who)[0] && !isDone(e)) {
                List<Integer> ws = sorted(errand.meaning, errand.station, 0);
                return ws.isEmpty() ? -1 : doSay(who, ws.get(0));
            }
        }
        return -1;
    }

    public int undo() {
        if (past.isEmpty()) {
            return -1;
        }
        now = past.remove(past.size() - 1);
        return past.size();
    }

    // ---- sayings

    /** The WORDS for a MEANING, the cheapest first. */
    private List<Integer> sorted(int meaning, int station, int raise) {
        List<Integer> ws = new ArrayList<>();
        for (int w = 0; w < words.size(); w++) {
            if (words.get(w).means(meaning)) {
                ws.add(w);
            }
        }
        ws.sort((a, b) -> raised(a, station, raise) - raised(b, station, raise));
        return ws;
    }

    private int raised(int w, int station, int raise) {
        return price(w, station, now.hour) + raise * words.get(w).vowels().length();
    }

    public int cheapest(int meaning, int station) {
        if (meaning < 0 || meaning > 9 || noStation(station)) {
            return -1;
        }
        List<Integer> ws = sorted(meaning, station, 0);
        if (ws.isEmpty()) {
            return -2;
        }
        tell(price(ws.get(0), station, now.hour), ws.size());
        return ws.get(0);
    }

    private static int compare(List<Integer> a, List<Integer> b) {
        for (int i = 0; i < a.size() && i < b.size(); i++) {
            if (!a.get(i).equals(b.get(i))) {
                return a.get(i) - b.get(i);
            }
        }
        return a.size() - b.size();
    }

    public int sentence(int station) {
        String s = take();
        if (noStation(station)) {
            return -100;
        }
        int p = fails(s, 12, q -> q.matches("[0-9]+"), q -> q.matches("[0-9]+"));
        if (p >= 0) {
            return -1 - p;
        }
        // cheapest[i]: the least price, then the least row, of the first i digits
        int[] prices = new int[s.length() + 1];
        List<List<Integer>> rows = new ArrayList<>();
        rows.add(new ArrayList<>());
        for (int i = 1; i <= s.length(); i++) {
            rows.add(null);
            for (int w = 0; w < words.size(); w++) {
                String m = words.get(w).meanings;
                int from = i - m.length();
                if (from < 0 || rows.get(from) == null || !s.startsWith(m, from)) {
                    continue;
                }
                int price = prices[from] + price(w, station, now.hour);
                List<Integer> said = new ArrayList<>(rows.get(from));
                said.add(w);
                if (rows.get(i) == null || price < prices[i] || price == prices[i] && compare(said, rows.get(i)) < 0) {
                    prices[i] = price;
                    rows.set(i, said);
                }
            }
        }
        if (rows.get(s.length()) == null) {
            return -200;
        }
        tell(rows.get(s.length()).stream().mapToLong(w -> w).toArray());
        return prices[s.length()];
    }

    public int when(int word, int station) {
        if (noWord(word) || noStation(station)) {
            return -1;
        }
        int best = 23;
        for (int h = 23; h >= 0; h--) {
            if (price(word, station, now.hour + h) <= price(word, station, now.hour + best)) {
                best = h;
            }
        }
        tell(price(word, station, now.hour + best), price(word, station, now.hour));
        return best;
    }

    public int shortest(int meaning, int station, int n) {
        if (meaning < 0 || meaning > 9 || noStation(station) || n < 0 || n > 9999) {
            return -1;
        }
        List<Integer> ws = sorted(meaning, station, 0);
        ws.removeIf(w -> price(w, station, now.hour) > n);
        ws.sort((a, b) -> words.get(a).letters.length() - words.get(b).letters.length());
        if (ws.isEmpty()) {
            return -2;
        }
        tell(words.get(ws.get(0)).letters.length(), price(ws.get(0), station, now.hour));
        return ws.get(0);
    }

    // ---- what is heard

    private static int distance(String a, String b) {
        if (a.isEmpty() || b.isEmpty()) {
            return a.length() + b.length();
        }
        int[][] d = new int[a.length() + 1][b.length() + 1];
        for (int i = 0; i <= a.length(); i++) {
            for (int j = 0; j <= b.length(); j++) {
                if (i == 0 || j == 0) {
                    d[i][j] = i + j;
                } else {
                    int same = a.charAt(i - 1) == b.charAt(j - 1) ? 0 : 1;
                    d[i][j] = Math.min(d[i - 1][j - 1] + same, 1 + Math.min(d[i - 1][j], d[i][j - 1]));
                }
            }
        }
        return d[a.length()][b.length()];
    }

    private int distance(int a, int b) {
        return distance(words.get(a).letters, words.get(b).letters);
    }

    public int differ(int one, int other) {
        if (noWord(one) || noWord(other)) {
            return -1;
        }
        tell(distance(words.get(one).vowels(), words.get(other).vowels()));
        return distance(one, other);
    }

    public int near(int word) {
        if (noWord(word)) {
            return -1;
        }
        TreeMap<Integer, Integer> byDistance = new TreeMap<>();
        for (int w = 0; w < words.size(); w++) {
            if (w != word) {
                byDistance.putIfAbsent(distance(word, w), w);
            }
        }
        if (byDistance.isEmpty()) {
            return -2;
        }
        int found = byDistance.firstEntry().getValue();
        boolean share = words.get(word).meanings.chars().anyMatch(c -> words.get(found).meanings.indexOf(c) >= 0);
        tell(byDistance.firstKey(), share ? 1 : 0);
        return found;
    }

    public int heard(int word, int p, int n) {
        if (noWord(word) || p < 0 || p > 10 || n < 0 || n > 2) {
            return -1;
        }
        int letters = words.get(word).letters.length();
        long upper = 0;
        for (int wrongSet = 0; wrongSet < 1 << letters; wrongSet++) {
            if (Integer.bitCount(wrongSet) <= n) {
                long product = 1;
                for (int i = 0; i < letters; i++) {
                    product *= (wrongSet >> i & 1) == 1 ? 10 - p : p;
                }
                upper += product;
            }
        }
        long lower = 1;
        for (int i = 0; i < letters; i++) {
            lower *= 10;
        }
        for (long d = lower; d > 1; d--) {
            if (lower % d == 0 && upper % d == 0) {
                upper /= d;
                lower /= d;
                break;
            }
        }
        tell(upper, lower);
        return 0;
    }

    public int code(int n) {
        if (n < 0 || n > 6) {
            return -1;
        }
        List<Integer> sets = new ArrayList<>();
        Map<Integer, Integer> prices = new HashMap<>();
        int[] price = new int[words.size()];
        int[][] apart = new int[words.size()][words.size()];
        for (int a = 0; a < words.size(); a++) {
            price[a] = price(a, 0, now.hour);
            for (int b = 0; b < words.size(); b++) {
                apart[a][b] = distance(a, b);
            }
        }
        for (int set = 0; set < 1 << words.size(); set++) {
            boolean far = true;
            int sum = 0;
            for (int a = 0; a < words.size(); a++) {
                for (int b = 0; b < a; b++) {
                    far &= (set >> a & set >> b & 1) == 0 || apart[a][b] >= n;
                }
                sum += (set >> a & 1) * price[a];
            }
            if (far) {
                sets.add(set);
                prices.put(set, sum);
            }
        }
        sets.sort((a, b) -> Integer.bitCount(a) != Integer.bitCount(b) ? Integer.bitCount(b) - Integer.bitCount(a)
            : !prices.get(a).equals(prices.get(b)) ? prices.get(a) - prices.get(b) : a - b);
        tell(sets.get(0));
        return Integer.bitCount(sets.get(0));
    }

    // ---- errands

    /** Least tolls by STATION and what is done, in each HOUR: closed under all that can be said there. */
    private List<Integer> leastByHour(int traveller, int hours) {
        int open = traveller(traveller, 3);
        Map<Integer, Integer> costs = new HashMap<>();
        costs.put(now.people.get(traveller)[0] * 256, 0);
        List<Integer> least = new ArrayList<>();
        for (int h = 0; h <= hours; h++) {
            if (h > 0) {
                Map<Integer, Integer> next = new HashMap<>();
                for (Map.Entry<Integer, Integer> e : costs.entrySet()) {
                    for (int by = -256; by <= 256; by += 256) {
                        int to = e.getKey() + by;
                        if (!noStation(Math.floorDiv(to, 256))) {
                            next.merge(to, e.getValue(), Math::min);
                        }
                    }
                }
                costs = next;
            }
            for (int round = 0; round < 9; round++) {
                for (int key : new ArrayList<>(costs.keySet())) {
                    for (int w = 0; w < words.size(); w++) {
                        int to = key;
                        for (int e = 0; e < errands.size(); e++) {
                            Errand errand = errands.get(e);
                            if ((open >> e & 1) == 1 && errand.station == key / 256 && words.get(w).means(errand.meaning)) {
                                to |= 1 << e;
                            }
                        }
                        if (to != key) {
                            costs.merge(to, costs.get(key) + cachedPrice(w, key / 256, now.hour + h), Math::min);
                        }
                    }
                }
            }
            int best = Integer.MAX_VALUE;
            for (int s = 0; s < stations; s++) {
                best = Math.min(best, costs.getOrDefault(s * 256 + open, Integer.MAX_VALUE));
            }
            least.add(best);
        }
        return least;
    }

    private final Map<String, Integer> cache = new HashMap<>();

    private int cachedPrice(int w, int station, int hour) {
        return cache.computeIfAbsent(rule + "|" + words.get(w).letters + "|" + station + "|" + hour % 24,
            k -> price(w, station, hour));
    }

    public int trip(int traveller, int n) {
        if (noTraveller(traveller) || n < 0 || n > 12) {
            return -1;
        }
        List<Integer> least = leastByHour(traveller, n);
        int best = least.stream().mapToInt(i -> i).min().getAsInt();
        if (best == Integer.MAX_VALUE) {
            return -2;
        }
        tell(least.indexOf(best), Integer.bitCount(traveller(traveller, 3)));
        return best;
    }

    public int haste(int traveller) {
        if (noTraveller(traveller)) {
            return -1;
        }
        List<Integer> least = leastByHour(traveller, 12);
        for (int h = 0; h <= 12; h++) {
            if (least.get(h) < Integer.MAX_VALUE) {
                tell(least.get(h));
                return h;
            }
        }
        return -2;
    }

    public int best(int traveller) {
        if (noTraveller(traveller)) {
            return -1;
        }
        int station = now.people.get(traveller)[0];
        int bestSet = 0;
        int bestWorth = 0;
        int bestPrice = 0;
        Map<Integer, List<Integer>> ws = new HashMap<>();
        for (Errand e : errands) {
            ws.put(e.meaning, sorted(e.meaning, station, 0));
        }
        for (int set = (1 << errands.size()) - 1; set >= 0; set--) {
            int worth = 0;
            int price = 0;
            boolean can = true;
            for (int e = 0; e < errands.size(); e++) {
                if ((set >> e & 1) == 1) {
                    Errand errand = errands.get(e);
                    List<Integer> w = ws.get(errand.meaning);
                    can &= errand.whose == traveller && errand.station == station && !isDone(e) && !w.isEmpty();
                    worth += errand.worth;
                    price += w.isEmpty() ? 0 : cachedPrice(w.get(0), station, now.hour);
                }
            }
            can &= price <= now.people.get(traveller)[1];
            if (can && (worth > bestWorth || worth == bestWorth && price <= bestPrice)) {
                bestSet = set;
                bestWorth = worth;
                bestPrice = price;
            }
        }
        tell(bestSet, bestPrice);
        return bestWorth;
    }

    // ---- tolls, laws

    private int[] income(int station, int x) {
        int sum = 0;
        int said = 0;
        for (int e = 0; e < errands.size(); e++) {
            Errand errand = errands.get(e);
            int least = Integer.MAX_VALUE;
            for (int w = 0; w < words.size(); w++) {
                if (words.get(w).means(errand.meaning)) {
                    least = Math.min(least, cachedPrice(w, station, now.hour) + x * words.get(w).vowels().length());
                }
            }
            if (errand.station == station && !isDone(e) && least <= errand.worth) {
                sum += least;
                said++;
            }
        }
        return new int[] {sum, said};
    }

    public int takes(int station, int x) {
        if (noStation(station) || x < 0 || x > 99) {
            return -1;
        }
        int[] in = income(station, x);
        tell(in[1]);
        return in[0];
    }

    public int greed(int station) {
        if (noStation(station)) {
            return -1;
        }
        int best = 99;
        for (int x = 99; x >= 0; x--) {
            if (income(station, x)[0] >= income(station, best)[0]) {
                best = x;
            }
        }
        tell(income(station, best)[0], income(station, 0)[0]);
        return best;
    }

    public int law(int station) {
        String s = take();
        if (noStation(station)) {
            return -100;
        }
        int p = failsRule(s);
        if (p >= 0) {
            return -1 - p;
        }
        int more = 0;
        int less = 0;
        int sum = 0;
        for (Word w : words) {
            int by = Arrays.stream(parts(s, w, station, now.hour)).sum()
                - Arrays.stream(parts(rule, w, station, now.hour)).sum();
            more += by > 0 ? 1 : 0;
            less += by < 0 ? 1 : 0;
            sum += by;
        }
        tell(less, sum);
        return more;
    }

    // ---- what was said

    private void rows(List<Integer> ahead, int many, List<List<Integer>> into) {
        if (ahead.size() == many) {
            into.add(new ArrayList<>(ahead));
            return;
        }
        for (int w = ahead.isEmpty() ? 0 : ahead.get(ahead.size() - 1); w < words.size(); w++) {
            ahead.add(w);
            rows(ahead, many, into);
            ahead.remove(ahead.size() - 1);
        }
    }

    public int said() {
        String s = take();
        int p = fails(s, 5, q -> q.matches("[0-9]*"), q -> q.matches("[0-9]{5}"));
        if (p >= 0) {
            return -1 - p;
        }
        List<List<Integer>> all = new ArrayList<>();
        for (int many = 1; many <= 4; many++) {
            rows(new ArrayList<>(), many, all);
        }
        all.removeIf(r -> {
            for (int v = 0; v < 5; v++) {
                int vowel = v;
                if (r.stream().mapToInt(w -> words.get(w).vowels(vowel)).sum() != s.charAt(v) - '0') {
                    return true;
                }
            }
            return false;
        });
        tell(all.isEmpty() ? new long[0] : all.get(0).stream().mapToLong(w -> w).toArray());
        return all.size();
    }

    public int ask() {
        if (words.isEmpty()) {
            return -2;
        }
        int best = 0;
        int least = Integer.MAX_VALUE;
        for (int v = 0; v < 5; v++) {
            Map<Integer, Integer> groups = new HashMap<>();
            for (Word w : words) {
                groups.merge(w.vowels(v), 1, Integer::sum);
            }
            int most = groups.values().stream().mapToInt(i -> i).max().getAsInt();
            if (most < least) {
                best = v;
                least = most;
            }
        }
        tell(least);
        return best;
    }

    private long drawn;

    private int draw(int n) {
        drawn = (drawn * 1103515245L + 12345L) & 0xffffffffL;
        return (int) (drawn / 65536 % n);
    }

    public int years(int seed, int n) {
        if (now.people.isEmpty() || words.isEmpty()) {
            return -2;
        }
        if (n < 1 || n > 60) {
            return -1;
        }
        drawn = seed & 0xffffffffL;
        State ahead = now;
        now = ahead.copy();
        int before = now.done;
        int paid = 0;
        int failed = 0;
        for (int i = 0; i < n; i++) {
            int who = draw(now.people.size());
            int what = draw(4);
            if (what < 2) {
                failed += doWalk(who, what == 0 ? 1 : 0, 0) < 0 ? 1 : 0;
            } else {
                int r = doSay(who, draw(words.size()));
                failed += r < 0 ? 1 : 0;
                paid += Math.max(r, 0);
            }
            now.hour++;
        }
        int done = Integer.bitCount(now.done ^ before);
        now = ahead;
        tell(paid, failed);
        return done;
    }

    // ---- kept

    public boolean keep(int i) {
        if (i != 0 && i != 1) {
            return false;
        }
        kept.put(i, now.copy());
        return true;
    }

    public boolean again(int i) {
        if (!kept.containsKey(i)) {
            return false;
        }
        now = kept.get(i).copy();
        past.clear();
        return true;
    }

    public int count(int what) {
        int vowels = 0;
        for (int[] b : now.books) {
            vowels += Arrays.stream(b).sum();
        }
        int compounds = 0;
        for (int w = 0; w < words.size(); w++) {
            compounds += words.get(w).meanings.length() == 2 ? 1 << w : 0;
        }
        int[] all = {stations, words.size(), now.people.size(), errands.size(), now.hour, now.done, vowels,
            now.people.stream().mapToInt(p -> p[1]).sum(), compounds, past.size(), row.size(), text.length()};
        return what < 0 || what >= all.length ? -1 : all[what];
    }

    public long row(int i) {
        if (i < 0 || i >= row.size()) {
            throw new NoSuchElementException();
        }
        return row.get(i);
    }
}
