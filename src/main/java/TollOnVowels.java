import java.util.Arrays;
import java.util.NoSuchElementException;

/** A road on which each vowel that is spoken costs; the document's promises say what each call answers. */
public final class TollOnVowels {
    public static final int NONE = -1;

    private static final int CANNOT = -2;
    private static final int APART = -3;
    private static final int MISSING = -3;
    private static final int NO_STATION = -100;
    private static final int UNSAYABLE = -200;

    private static final int MOST_STATIONS = 6;
    private static final int MOST_WORDS = 10;
    private static final int MOST_LETTERS = 6;
    private static final int MOST_TRAVELLERS = 4;
    private static final int MOST_ERRANDS = 8;
    private static final int MOST_PURSE = 9999;
    private static final int MOST_HOURS = 12;
    private static final int MOST_RAISE = 99;
    private static final int MOST_SAID = 4;
    // More than the rising rows of four of ten WORDS (715).
    private static final int MOST_ROWS = 1000;
    private static final int VOWELS = 5;
    private static final int MEANINGS = 10;
    private static final int DAY = 24;
    private static final int KEPT = 2;

    private static final int WORD_SIGNS = 76;
    private static final int TRAVELLER_SIGNS = 40;
    private static final int ERRAND_SIGNS = 76;
    private static final int RULE_SIGNS = 40;
    private static final int JOURNEY_SIGNS = 60;
    private static final int SENTENCE_SIGNS = 12;

    private static final int WORD_LINE = 0;
    private static final int TRAVELLER_LINE = 1;
    private static final int ERRAND_LINE = 2;
    private static final int ACT_LINE = 3;

    // An ACT is one number: below WAIT it is who * WHO + what (a digit is a WORD), above it WAIT + hours.
    private static final int MOST_ACTS = 21;
    private static final int WHO = 16;
    private static final int ONWARD = 10;
    private static final int BACK = 11;
    private static final int ERRAND_HERE = 12;
    private static final int WAIT = 1000;

    private final Text text = new Text();
    private final Row told = new Row();
    private final Lexicon lexicon = new Lexicon();
    private final Duties duties = new Duties();
    private final Scene now = new Scene();
    private final Past past = new Past();
    private final Scene[] kept = {new Scene(), new Scene()};
    private final boolean[] isKept = new boolean[KEPT];
    private final Changes changes = new Changes();
    private final Plan plan = new Plan();
    private final int[] acts = new int[MOST_ACTS];
    private final int[] prices = new int[MOST_WORDS];
    private final int[] otherPrices = new int[MOST_WORDS];
    private final int[] rest = new int[VOWELS];
    private final int[] picked = new int[MOST_SAID];
    private Tariff tariff = new Tariff();
    private Tariff spare = new Tariff();
    private int stations = 1;
    private int people = 0;
    // What speak() and incomeBy() tell besides their answer, as a method answers one number alone.
    private int besides = 0;

    public TollOnVowels() {
    }

    // ---- words, travellers, errands

    public int sign(int v) {
        return text.addFour(v) ? text.size : NONE;
    }

    public boolean end(int n) {
        if (n < 0 || n > text.size) {
            return false;
        }
        text.size = n;
        return true;
    }

    public int road(int n) {
        if (n < stationsNeeded() || n > MOST_STATIONS) {
            return NONE;
        }
        int before = stations;
        now.closeBooks(n);
        stations = n;
        forget();
        return before;
    }

    public int words() {
        int lines = readLines(WORD_LINE, WORD_SIGNS, lexicon.size, MOST_WORDS);
        if (lines > 0) {
            lexicon.size += lines;
            forget();
        }
        return lines;
    }

    public int travellers() {
        int lines = readLines(TRAVELLER_LINE, TRAVELLER_SIGNS, people, MOST_TRAVELLERS);
        if (lines > 0) {
            people += lines;
            forget();
        }
        return lines;
    }

    public int errands() {
        int lines = readLines(ERRAND_LINE, ERRAND_SIGNS, duties.size, MOST_ERRANDS);
        if (lines > 0) {
            duties.size += lines;
            forget();
        }
        return lines;
    }

    public int rule() {
        int fault = readSpareTariff();
        if (fault == 0) {
            Tariff old = tariff;
            tariff = spare;
            spare = old;
        }
        return fault;
    }

    public int word(int word, int what) throws NoSuchElementException {
        if (!isWord(word)) {
            throw new NoSuchElementException();
        }
        switch (what) {
            case 0: return lexicon.length[word];
            case 1: return lexicon.vowelsOf(word);
            case 2: return lexicon.first[word];
            case 3: return lexicon.second[word];
            case 4: case 5: case 6: case 7: case 8: return lexicon.heardIn(word, what - 4);
            default: throw new NoSuchElementException();
        }
    }

    public int traveller(int traveller, int what) throws NoSuchElementException {
        if (!isTraveller(traveller)) {
            throw new NoSuchElementException();
        }
        switch (what) {
            case 0: return now.place[traveller];
            case 1: return now.purse[traveller];
            case 2: return now.spent[traveller];
            case 3: return duties.of(traveller) & ~now.done;
            case 4: return duties.sumOf(duties.worth, duties.of(traveller) & now.done);
            default: throw new NoSuchElementException();
        }
    }

    public int errand(int errand, int what) throws NoSuchElementException {
        if (errand < 0 || errand >= duties.size) {
            throw new NoSuchElementException();
        }
        switch (what) {
            case 0: return duties.whose[errand];
            case 1: return duties.meaning[errand];
            case 2: return duties.place[errand];
            case 3: return duties.worth[errand];
            case 4: return now.done >> errand & 1;
            default: throw new NoSuchElementException();
        }
    }

    public int book(int station, int vowel) throws NoSuchElementException {
        if (!isStation(station) || vowel < 0 || vowel >= VOWELS) {
            throw new NoSuchElementException();
        }
        return now.book[station * VOWELS + vowel];
    }

    public int sheet(int kind, int n, int f, int step) {
        if (kind < 0 || kind > 3 || n > MOST_TRAVELLERS) {
            return NONE;
        }
        boolean missing = kind == 3;
        if (!missing && n < 0) {
            return CANNOT;
        }
        for (int i = 0; i < people; i++) {
            now.purse[i] = missing || i >= n ? 0 : between(entry(kind, f + i * step), MOST_PURSE);
        }
        return missing ? MISSING : pursesInAll();
    }

    // ---- on the road

    public int toll(int word, int station) {
        if (!isWord(word) || !isStation(station)) {
            return NONE;
        }
        int price = tariff.charge(lexicon, word, station, now.hour);
        told.clear();
        for (int v = 0; v < VOWELS; v++) {
            told.add(tariff.parts[v]);
        }
        return price;
    }

    public int walk(int traveller, int way) {
        past.mark(now);
        int where = goes(traveller, way);
        if (where >= 0) {
            past.confirm();
        }
        return where;
    }

    public int pause(int n) {
        if (n < 0 || n > 99) {
            return NONE;
        }
        if (n > 0) {
            past.mark(now);
            past.confirm();
        }
        now.hour += n;
        return now.hour;
    }

    public int say(int traveller, int word) {
        past.mark(now);
        int price = speak(traveller, word);
        if (price >= 0) {
            past.confirm();
            told.tell(besides);
        }
        return price;
    }

    public int alms(int from, int to, int n) {
        if (!isTraveller(from) || !isTraveller(to) || from == to || n < 1 || n > MOST_PURSE) {
            return NONE;
        }
        if (now.place[from] != now.place[to]) {
            return APART;
        }
        if (now.purse[from] < n) {
            return CANNOT;
        }
        past.mark(now);
        past.confirm();
        now.purse[from] -= n;
        now.purse[to] = between(now.purse[to] + n, MOST_PURSE);
        return now.purse[to];
    }

    public int journey() {
        int lines = readLines(ACT_LINE, JOURNEY_SIGNS, 0, MOST_ACTS);
        if (lines < 0) {
            return lines;
        }
        past.mark(now);
        int paid = 0;
        int done = 0;
        boolean stuck = false;
        while (done < lines && !stuck) {
            int price = act(acts[done]);
            if (price < 0) {
                stuck = true;
            } else {
                paid += price;
                done++;
            }
        }
        if (done > 0) {
            past.confirm();
        }
        told.tell(stuck ? 1 : 0, paid);
        return done;
    }

    public int undo() {
        return past.takeBack(now) ? past.size : NONE;
    }

    // ---- sayings

    public int cheapest(int meaning, int station) {
        if (!isMeaning(meaning) || !isStation(station)) {
            return NONE;
        }
        priceAll(tariff, station, prices);
        int word = cheapestFor(meaning, 0);
        if (word == NONE) {
            return CANNOT;
        }
        told.tell(prices[word], lexicon.meaningCount(meaning));
        return word;
    }

    public int sentence(int station) {
        text.open(SENTENCE_SIGNS);
        int fault = isStation(station) ? readDigits(1, SENTENCE_SIGNS) : NO_STATION;
        int digits = text.size;
        text.size = 0;
        if (fault < 0) {
            return fault;
        }
        priceAll(tariff, station, prices);
        int price = plan.sentencePrice(lexicon, prices, text.signs, digits);
        if (price < 0) {
            return UNSAYABLE;
        }
        tellSentence(digits);
        return price;
    }

    public int when(int word, int station) {
        if (!isWord(word) || !isStation(station)) {
            return NONE;
        }
        int present = tariff.charge(lexicon, word, station, now.hour);
        int least = present;
        int best = 0;
        for (int later = 1; later < DAY; later++) {
            int price = tariff.charge(lexicon, word, station, now.hour + later);
            if (price < least) {
                least = price;
                best = later;
            }
        }
        told.tell(least, present);
        return best;
    }

    public int shortest(int meaning, int station, int n) {
        if (!isMeaning(meaning) || !isStation(station) || n < 0 || n > MOST_PURSE) {
            return NONE;
        }
        priceAll(tariff, station, prices);
        int best = NONE;
        for (int w = 0; w < lexicon.size; w++) {
            if (lexicon.means(w, meaning) && prices[w] <= n && (best == NONE || isShorter(w, best))) {
                best = w;
            }
        }
        if (best == NONE) {
            return CANNOT;
        }
        told.tell(lexicon.length[best], prices[best]);
        return best;
    }

    // ---- what is heard

    public int differ(int one, int other) {
        if (!isWord(one) || !isWord(other)) {
            return NONE;
        }
        told.tell(changes.ofVowels(lexicon, one, other));
        return changes.ofLetters(lexicon, one, other);
    }

    public int near(int word) {
        if (!isWord(word)) {
            return NONE;
        }
        int best = NONE;
        int least = 0;
        for (int w = 0; w < lexicon.size; w++) {
            int by = w == word ? 0 : changes.ofLetters(lexicon, word, w);
            if (w != word && (best == NONE || by < least)) {
                best = w;
                least = by;
            }
        }
        if (best == NONE) {
            return CANNOT;
        }
        told.tell(least, lexicon.shareMeaning(word, best) ? 1 : 0);
        return best;
    }

    public int heard(int word, int p, int n) {
        if (!isWord(word) || p < 0 || p > 10 || n < 0 || n > 2) {
            return NONE;
        }
        int letters = lexicon.length[word];
        long upper = 0;
        long ways = 1;
        for (int wrong = 0; wrong <= n && wrong <= letters; wrong++) {
            upper += ways * power(p, letters - wrong) * power(10 - p, wrong);
            ways = ways * (letters - wrong) / (wrong + 1);
        }
        long lower = power(10, letters);
        long shared = commonDivisor(upper, lower);
        told.tell(upper / shared, lower / shared);
        return 0;
    }

    public int code(int n) {
        if (n < 0 || n > 6) {
            return NONE;
        }
        priceAll(tariff, 0, prices);
        changes.markFar(lexicon, n);
        int best = 0;
        for (int set = 1; set < 1 << lexicon.size; set++) {
            int more = Integer.bitCount(set) - Integer.bitCount(best);
            if (more >= 0 && changes.areFar(set, lexicon.size)
                    && (more > 0 || priceOf(set) < priceOf(best))) {
                best = set;
            }
        }
        told.tell(best);
        return Integer.bitCount(best);
    }

    // ---- errands

    public int trip(int traveller, int n) {
        if (!isTraveller(traveller) || n < 0 || n > MOST_HOURS) {
            return NONE;
        }
        int hours = soonest(traveller, n, false);
        if (hours < 0) {
            return CANNOT;
        }
        told.tell(hours, plan.many);
        return plan.least;
    }

    public int haste(int traveller) {
        if (!isTraveller(traveller)) {
            return NONE;
        }
        int hours = soonest(traveller, MOST_HOURS, true);
        if (hours < 0) {
            return CANNOT;
        }
        told.tell(plan.least);
        return hours;
    }

    public int best(int traveller) {
        if (!isTraveller(traveller)) {
            return NONE;
        }
        int open = openFor(traveller);
        int best = 0;
        int worth = 0;
        int price = 0;
        for (int set = 1; set <= open; set++) {
            int setPrice = (set & ~open) == 0 ? duties.sumOf(duties.price, set) : MOST_PURSE + 1;
            if (setPrice <= now.purse[traveller]) {
                int setWorth = duties.sumOf(duties.worth, set);
                if (setWorth > worth || setWorth == worth && setPrice < price) {
                    best = set;
                    worth = setWorth;
                    price = setPrice;
                }
            }
        }
        told.tell(best, price);
        return worth;
    }

    // ---- tolls, laws

    public int takes(int station, int x) {
        if (!isStation(station) || x < 0 || x > MOST_RAISE) {
            return NONE;
        }
        priceAll(tariff, station, prices);
        int sum = incomeBy(station, x);
        told.tell(besides);
        return sum;
    }

    public int greed(int station) {
        if (!isStation(station)) {
            return NONE;
        }
        priceAll(tariff, station, prices);
        int plain = incomeBy(station, 0);
        int most = plain;
        int best = 0;
        for (int x = 1; x <= MOST_RAISE; x++) {
            int sum = incomeBy(station, x);
            if (sum > most) {
                most = sum;
                best = x;
            }
        }
        told.tell(most, plain);
        return best;
    }

    public int law(int station) {
        int fault = readSpareTariff();
        if (!isStation(station)) {
            return NO_STATION;
        }
        if (fault < 0) {
            return fault;
        }
        priceAll(tariff, station, prices);
        priceAll(spare, station, otherPrices);
        int dearer = 0;
        int cheaper = 0;
        int change = 0;
        for (int w = 0; w < lexicon.size; w++) {
            int by = otherPrices[w] - prices[w];
            change += by;
            if (by > 0) {
                dearer++;
            } else if (by < 0) {
                cheaper++;
            }
        }
        told.tell(cheaper, change);
        return dearer;
    }

    // ---- what was said

    public int said() {
        text.open(VOWELS);
        int fault = readDigits(VOWELS, VOWELS);
        text.size = 0;
        if (fault < 0) {
            return fault;
        }
        for (int v = 0; v < VOWELS; v++) {
            rest[v] = text.signs[v] - '0';
        }
        told.clear();
        int ways = 0;
        for (int many = 1; many <= MOST_SAID && lexicon.size > 0; many++) {
            ways += waysToSay(many);
        }
        return ways;
    }

    public int ask() {
        if (lexicon.size == 0) {
            return CANNOT;
        }
        int best = 0;
        int least = lexicon.mostAlike(0);
        for (int v = 1; v < VOWELS; v++) {
            int left = lexicon.mostAlike(v);
            if (left < least) {
                best = v;
                least = left;
            }
        }
        told.tell(least);
        return best;
    }

    public int years(int seed, int n) {
        if (people == 0 || lexicon.size == 0) {
            return CANNOT;
        }
        if (n < 1 || n > 60) {
            return NONE;
        }
        // What is drawn is done on the road itself and taken back: a question changes nothing.
        past.mark(now);
        Draws draws = new Draws(seed);
        int before = Integer.bitCount(now.done);
        int paid = 0;
        int failed = 0;
        for (int i = 0; i < n; i++) {
            int price = drawnAct(draws);
            if (price < 0) {
                failed++;
            } else {
                paid += price;
            }
            now.hour++;
        }
        int done = Integer.bitCount(now.done) - before;
        past.backToMark(now);
        told.tell(paid, failed);
        return done;
    }

    // ---- kept

    public boolean keep(int i) {
        if (i < 0 || i >= KEPT) {
            return false;
        }
        kept[i].copy(now);
        isKept[i] = true;
        return true;
    }

    public boolean again(int i) {
        if (i < 0 || i >= KEPT || !isKept[i]) {
            return false;
        }
        now.copy(kept[i]);
        past.size = 0;
        return true;
    }

    public int count(int what) {
        switch (what) {
            case 0: return stations;
            case 1: return lexicon.size;
            case 2: return people;
            case 3: return duties.size;
            case 4: return now.hour;
            case 5: return now.done;
            case 6: return now.vowelsInBooks();
            case 7: return pursesInAll();
            case 8: return lexicon.compounds();
            case 9: return past.size;
            case 10: return told.size;
            case 11: return text.size;
            default: return NONE;
        }
    }

    public long row(int i) throws NoSuchElementException {
        if (i < 0 || i >= told.size) {
            throw new NoSuchElementException();
        }
        return told.numbers[i];
    }

    // ---- what is there

    private boolean isStation(int station) {
        return station >= 0 && station < stations;
    }

    private boolean isWord(int word) {
        return word >= 0 && word < lexicon.size;
    }

    private boolean isTraveller(int traveller) {
        return traveller >= 0 && traveller < people;
    }

    private static boolean isMeaning(int meaning) {
        return meaning >= 0 && meaning < MEANINGS;
    }

    private int stationsNeeded() {
        int needed = 1;
        for (int i = 0; i < people; i++) {
            needed = Math.max(needed, now.place[i] + 1);
        }
        for (int i = 0; i < duties.size; i++) {
            needed = Math.max(needed, duties.place[i] + 1);
        }
        return needed;
    }

    private int pursesInAll() {
        int sum = 0;
        for (int i = 0; i < people; i++) {
            sum += now.purse[i];
        }
        return sum;
    }

    /** What is kept of an earlier road does not fit to the new one. */
    private void forget() {
        past.size = 0;
        for (int i = 0; i < KEPT; i++) {
            isKept[i] = false;
        }
    }

    private static int between(int value, int most) {
        return value < 0 ? 0 : Math.min(value, most);
    }

    private static int entry(int kind, int value) {
        if (kind == 0) {
            return (byte) value;
        }
        return kind == 1 ? (short) value : value;
    }

    // ---- reading THE TEXT

    /** How many LINES THE TEXT tells; they stand behind the first 'have' ones, but are not counted in yet. */
    private int readLines(int kind, int signs, int have, int most) {
        text.open(signs);
        int lines = text.size == 0 ? 0 : linesUpTo(kind, have, most);
        text.size = 0;
        return lines;
    }

    private int linesUpTo(int kind, int have, int most) {
        for (int lines = 1; have + lines <= most; lines++) {
            if (!readLine(kind, have + lines - 1)) {
                return text.fault();
            }
            if (!text.take(';')) {
                return text.isOver() ? lines : text.fault();
            }
        }
        return text.fault();
    }

    private boolean readLine(int kind, int index) {
        switch (kind) {
            case WORD_LINE: return lexicon.readWord(text, index);
            case TRAVELLER_LINE: return now.readTraveller(text, index, stations);
            case ERRAND_LINE: return duties.readErrand(text, index, people, stations);
            default: return readAct(index);
        }
    }

    private boolean readAct(int index) {
        if (text.take('w')) {
            int hours = text.takeNumber(2);
            acts[index] = WAIT + hours;
            return hours >= 0;
        }
        int who = text.takeFrom('a', MOST_TRAVELLERS);
        if (who < 0) {
            return false;
        }
        int what = text.takeFrom('0', MOST_WORDS);
        if (what < 0) {
            what = text.take('>') ? ONWARD : text.take('<') ? BACK : text.take('!') ? ERRAND_HERE : NONE;
        }
        acts[index] = who * WHO + what;
        return what >= 0;
    }

    /** Whether THE TEXT is digits alone, as many as told: 0 or -1 - p. */
    private int readDigits(int fewest, int most) {
        int digits = 0;
        while (digits < most && text.takeFrom('0', 10) >= 0) {
            digits++;
        }
        return digits >= fewest && text.isOver() ? 0 : text.fault();
    }

    private int readSpareTariff() {
        text.open(RULE_SIGNS);
        int fault = spare.read(text) ? 0 : text.fault();
        text.size = 0;
        return fault;
    }

    // ---- what is done on the road

    private int move(int traveller, int way) {
        if (!isTraveller(traveller) || way < 0 || way > 1) {
            return NONE;
        }
        int where = now.place[traveller] + (way == 1 ? 1 : -1);
        if (!isStation(where)) {
            return CANNOT;
        }
        now.place[traveller] = where;
        return where;
    }

    private int goes(int traveller, int way) {
        int where = move(traveller, way);
        if (where >= 0) {
            now.hour++;
        }
        return where;
    }

    /** TOLL of what is said; the ERRANDS done by it are left besides. */
    private int speak(int traveller, int word) {
        if (!isTraveller(traveller) || !isWord(word)) {
            return NONE;
        }
        int station = now.place[traveller];
        int price = tariff.charge(lexicon, word, station, now.hour);
        if (now.purse[traveller] < price) {
            return CANNOT;
        }
        now.purse[traveller] -= price;
        now.spent[traveller] += price;
        for (int v = 0; v < VOWELS; v++) {
            now.book[station * VOWELS + v] += lexicon.heardIn(word, v);
        }
        besides = duties.metBy(lexicon, word, station) & duties.of(traveller) & ~now.done;
        now.done |= besides;
        return price;
    }

    /** TOLL that an ACT of A JOURNEY costs, or below 0 if it can't be done. */
    private int act(int act) {
        if (act >= WAIT) {
            now.hour += act - WAIT;
            return 0;
        }
        int who = act / WHO;
        int what = act % WHO;
        switch (what) {
            case ONWARD: return Math.min(goes(who, 1), 0);
            case BACK: return Math.min(goes(who, 0), 0);
            case ERRAND_HERE: return speak(who, wordForErrand(who));
            default: return speak(who, what);
        }
    }

    private int wordForErrand(int traveller) {
        if (!isTraveller(traveller)) {
            return NONE;
        }
        int station = now.place[traveller];
        int open = duties.of(traveller) & duties.at(station) & ~now.done;
        if (open == 0) {
            return NONE;
        }
        priceAll(tariff, station, prices);
        return cheapestFor(duties.meaning[duties.firstOf(open)], 0);
    }

    private int drawnAct(Draws draws) {
        int who = draws.below(people);
        int what = draws.below(4);
        return what < 2 ? Math.min(move(who, 1 - what), 0) : speak(who, draws.below(lexicon.size));
    }

    // ---- prices

    private void priceAll(Tariff by, int station, int[] into) {
        for (int w = 0; w < lexicon.size; w++) {
            into[w] = by.charge(lexicon, w, station, now.hour);
        }
    }

    /** The WORD for a MEANING that costs the least by the prices at hand, if each VOWEL costs so much more. */
    private int cheapestFor(int meaning, int raise) {
        int best = NONE;
        int least = 0;
        for (int w = 0; w < lexicon.size; w++) {
            int price = prices[w] + raise * lexicon.vowelsOf(w);
            if (lexicon.means(w, meaning) && (best == NONE || price < least)) {
                best = w;
                least = price;
            }
        }
        return best;
    }

    private int priceOf(int set) {
        int sum = 0;
        for (int w = 0; w < lexicon.size; w++) {
            sum += (set >> w & 1) * prices[w];
        }
        return sum;
    }

    private boolean isShorter(int word, int than) {
        int letters = lexicon.length[word] - lexicon.length[than];
        return letters < 0 || letters == 0 && prices[word] < prices[than];
    }

    private void tellSentence(int digits) {
        told.clear();
        int at = 0;
        for (int i = 0; i < digits && at < digits; i++) {
            told.add(plan.choice[at]);
            at += plan.step[at];
        }
    }

    // ---- errands

    /** His ERRANDS where he is that are not done and for which there is a WORD; each is priced by itself. */
    private int openFor(int traveller) {
        int station = now.place[traveller];
        int open = duties.of(traveller) & duties.at(station) & ~now.done;
        priceAll(tariff, station, prices);
        for (int e = 0; e < duties.size; e++) {
            int word = cheapestFor(duties.meaning[e], 0);
            duties.price[e] = word == NONE ? 0 : prices[word];
            if (word == NONE) {
                open &= ~(1 << e);
            }
        }
        return open;
    }

    /** What ERRANDS bring in by the prices at hand and so much more a VOWEL; how many are said is left besides. */
    private int incomeBy(int station, int raise) {
        int open = duties.at(station) & ~now.done;
        int sum = 0;
        besides = 0;
        for (int e = 0; e < duties.size; e++) {
            int word = (open >> e & 1) == 1 ? cheapestFor(duties.meaning[e], raise) : NONE;
            int price = word == NONE ? 0 : prices[word] + raise * lexicon.vowelsOf(word);
            if (word != NONE && price <= duties.worth[e]) {
                sum += price;
                besides++;
            }
        }
        return sum;
    }

    /** In how many HOURS he does all for the least TOLL (or, with any TOLL, the first time that he can). */
    private int soonest(int traveller, int hours, boolean anyToll) {
        int open = duties.of(traveller) & ~now.done;
        int place = now.place[traveller];
        plan.begin(open, place, stations);
        int soonest = NONE;
        for (int later = 0; later <= hours && !(anyToll && soonest != NONE); later++) {
            if (later > 0) {
                plan.walkOn();
            }
            for (int s = Math.max(0, place - later); s < stations && s <= place + later; s++) {
                sayThere(open & duties.at(s), s, later);
            }
            if (plan.isCheaperNow()) {
                soonest = later;
            }
        }
        return soonest;
    }

    private void sayThere(int open, int station, int later) {
        for (int w = 0; w < lexicon.size && open != 0; w++) {
            int met = open & duties.metBy(lexicon, w, station);
            if (met != 0) {
                plan.sayAt(station, met, tariff.charge(lexicon, w, station, now.hour + later));
            }
        }
    }

    // ---- what was said

    /** How many rising rows of so many WORDS leave no VOWEL of the rest; the first one of all is told. */
    private int waysToSay(int many) {
        for (int i = 0; i < many; i++) {
            picked[i] = 0;
        }
        int ways = 0;
        boolean more = true;
        for (int i = 0; i < MOST_ROWS && more; i++) {
            if (leavesNone(many)) {
                if (told.size == 0) {
                    tellPicked(many);
                }
                ways++;
            }
            more = pickNext(many);
        }
        return ways;
    }

    private boolean leavesNone(int many) {
        for (int v = 0; v < VOWELS; v++) {
            int left = rest[v];
            for (int i = 0; i < many; i++) {
                left -= lexicon.heardIn(picked[i], v);
            }
            if (left != 0) {
                return false;
            }
        }
        return true;
    }

    private void tellPicked(int many) {
        for (int i = 0; i < many; i++) {
            told.add(picked[i]);
        }
    }

    private boolean pickNext(int many) {
        int last = many - 1;
        while (last >= 0 && picked[last] >= lexicon.size - 1) {
            last--;
        }
        if (last < 0) {
            return false;
        }
        int word = picked[last] + 1;
        for (int i = last; i < many; i++) {
            picked[i] = word;
        }
        return true;
    }

    // ---- numbers

    private static long power(int base, int times) {
        long product = 1;
        for (int i = 0; i < times; i++) {
            product *= base;
        }
        return product;
    }

    /** Of numbers from 0 on, not both 0; at least 1, so that it may divide. */
    private static long commonDivisor(long one, long other) {
        long a = one;
        long b = other;
        for (int i = 0; i < 100 && b != 0; i++) {
            long left = a % b;
            a = b;
            b = left;
        }
        return Math.max(a, 1);
    }

    /** THE TEXT, and a reader that goes over its first signs. */
    private static final class Text {
        private static final int ROOM = 80;
        private static final int OVER = -1;
        final int[] signs = new int[ROOM];
        int size;
        private int at;
        private int seen;

        boolean addFour(int v) {
            if (size < 0 || size > ROOM - 4) {
                return false;
            }
            for (int i = 0; i < 4; i++) {
                signs[size + i] = v >>> (24 - 8 * i) & 255;
            }
            size += 4;
            return true;
        }

        /** The reader sees no sign behind 'most', so that a longer text fails there at the latest. */
        void open(int most) {
            at = 0;
            seen = Math.min(size, Math.min(most, ROOM));
        }

        boolean isOver() {
            return at == size;
        }

        int fault() {
            return -1 - at;
        }

        int peek() {
            return at >= 0 && at < seen ? signs[at] : OVER;
        }

        boolean take(int sign) {
            if (peek() != sign) {
                return false;
            }
            at++;
            return true;
        }

        /** Which one of 'many' signs from 'first' on stands here; NONE if it is another. */
        int takeFrom(int first, int many) {
            int which = at >= 0 && at < seen ? signs[at] - first : NONE;
            if (which < 0 || which >= many) {
                return NONE;
            }
            at++;
            return which;
        }

        int takeNumber(int mostDigits) {
            int number = takeFrom('0', 10);
            for (int i = 1; i < mostDigits && number >= 0; i++) {
                int digit = takeFrom('0', 10);
                if (digit < 0) {
                    return number;
                }
                number = number * 10 + digit;
            }
            return number;
        }
    }

    /** The ROW. */
    private static final class Row {
        private static final int ROOM = 12;
        final long[] numbers = new long[ROOM];
        int size;

        void clear() {
            size = 0;
        }

        void add(long number) {
            if (size >= 0 && size < ROOM) {
                numbers[size] = number;
                size++;
            }
        }

        void tell(long number) {
            clear();
            add(number);
        }

        void tell(long number, long other) {
            clear();
            add(number);
            add(other);
        }
    }

    /** The WORDS. */
    private static final class Lexicon {
        int size;
        final int[] length = new int[MOST_WORDS];
        final int[] first = new int[MOST_WORDS];
        final int[] second = new int[MOST_WORDS];
        private final int[] letters = new int[MOST_WORDS * MOST_LETTERS];
        private final int[] often = new int[MOST_WORDS * VOWELS];
        private final int[] vowels = new int[MOST_WORDS];
        private final int[] alike = new int[MOST_LETTERS + 1];

        static int vowelOf(int letter) {
            switch (letter) {
                case 'a': return 0;
                case 'e': return 1;
                case 'i': return 2;
                case 'o': return 3;
                case 'u': return 4;
                default: return NONE;
            }
        }

        boolean readWord(Text text, int word) {
            first[word] = text.takeFrom('0', MEANINGS);
            if (first[word] < 0) {
                return false;
            }
            second[word] = text.takeFrom('0', MEANINGS);
            int many = 0;
            for (int i = 0; i < MOST_LETTERS && many == i; i++) {
                int letter = text.takeFrom('a', 26);
                if (letter >= 0) {
                    letters[word * MOST_LETTERS + i] = 'a' + letter;
                    many++;
                }
            }
            length[word] = many;
            countVowels(word);
            return many > 0;
        }

        private void countVowels(int word) {
            vowels[word] = 0;
            for (int v = 0; v < VOWELS; v++) {
                often[word * VOWELS + v] = 0;
            }
            for (int i = 0; i < length[word]; i++) {
                int vowel = vowelOf(letter(word, i));
                if (vowel >= 0) {
                    often[word * VOWELS + vowel]++;
                    vowels[word]++;
                }
            }
        }

        int letter(int word, int place) {
            return letters[word * MOST_LETTERS + place];
        }

        int heardIn(int word, int vowel) {
            return often[word * VOWELS + vowel];
        }

        int vowelsOf(int word) {
            return vowels[word];
        }

        boolean means(int word, int meaning) {
            return first[word] == meaning || second[word] == meaning;
        }

        boolean isCompound(int word) {
            return second[word] != NONE;
        }

        boolean shareMeaning(int one, int other) {
            return means(one, first[other]) || isCompound(other) && means(one, second[other]);
        }

        int meaningCount(int meaning) {
            int many = 0;
            for (int w = 0; w < size; w++) {
                if (means(w, meaning)) {
                    many++;
                }
            }
            return many;
        }

        int compounds() {
            int set = 0;
            for (int w = 0; w < size; w++) {
                if (isCompound(w)) {
                    set |= 1 << w;
                }
            }
            return set;
        }

        /** How many WORDS at most have a VOWEL equally often. */
        int mostAlike(int vowel) {
            Arrays.fill(alike, 0);
            int most = 0;
            for (int w = 0; w < size; w++) {
                int times = heardIn(w, vowel);
                alike[times]++;
                most = Math.max(most, alike[times]);
            }
            return most;
        }
    }

    /** A RULE: its text turned into steps for a stack, as each question asks it for many VOWELS. */
    private static final class Tariff {
        private static final int MOST_NESTED = 4;
        private static final int MOST_PRICE = 99;
        // A step is a NUMBER, or from FACT on which fact it takes, or from SIGN on the sign of what it does.
        private static final int FACT = 1000;
        private static final int SIGN = 2000;
        private static final int NEGATE = SIGN;
        private static final int WHICH = 0;
        private static final int STATION = 1;
        private static final int HOUR = 2;
        private static final int LETTERS = 3;
        private static final int PLACE = 4;
        private static final int AHEAD = 5;
        private static final int DOUBLED = 6;

        final int[] parts = new int[VOWELS];
        private final int[] steps = new int[RULE_SIGNS];
        private final int[] stack = new int[RULE_SIGNS];
        private final int[] facts = new int[DOUBLED + 1];
        private int size;

        Tariff() {
            size = 0;
            becomeNone();
        }

        private void becomeNone() {
            steps[0] = FACT + WHICH;
            steps[1] = 1;
            steps[2] = SIGN + '+';
            size = 3;
        }

        boolean read(Text text) {
            if (text.isOver()) {
                becomeNone();
                return true;
            }
            size = 0;
            return readComparison(text, 0) && text.isOver();
        }

        private boolean readComparison(Text text, int nested) {
            if (!readSum(text, nested)) {
                return false;
            }
            int sign = takeEither(text, '<', '>');
            if (sign == NONE) {
                sign = takeEither(text, '=', '=');
            }
            return sign == NONE || readSum(text, nested) && put(SIGN + sign);
        }

        private boolean readSum(Text text, int nested) {
            boolean fine = readProduct(text, nested);
            int sign = 0;
            for (int i = 0; i < RULE_SIGNS && fine && sign != NONE; i++) {
                sign = takeEither(text, '+', '-');
                fine = sign == NONE || readProduct(text, nested) && put(SIGN + sign);
            }
            return fine;
        }

        private boolean readProduct(Text text, int nested) {
            boolean fine = readFactor(text, nested);
            int sign = 0;
            for (int i = 0; i < RULE_SIGNS && fine && sign != NONE; i++) {
                sign = takeEither(text, '*', '/');
                fine = sign == NONE || readFactor(text, nested) && put(SIGN + sign);
            }
            return fine;
        }

        private boolean readFactor(Text text, int nested) {
            int minuses = 0;
            while (minuses < RULE_SIGNS && text.take('-')) {
                minuses++;
            }
            return readThing(text, nested) && (minuses % 2 == 0 || put(NEGATE));
        }

        private boolean readThing(Text text, int nested) {
            if (nested < MOST_NESTED && text.take('(')) {
                return readComparison(text, nested + 1) && text.take(')');
            }
            int number = text.takeNumber(3);
            if (number >= 0) {
                return put(number);
            }
            int fact = factOf(text.peek());
            return fact >= 0 && text.take(text.peek()) && put(FACT + fact);
        }

        private static int takeEither(Text text, int one, int other) {
            return text.take(one) ? one : text.take(other) ? other : NONE;
        }

        private boolean put(int step) {
            if (size >= RULE_SIGNS) {
                return false;
            }
            steps[size] = step;
            size++;
            return true;
        }

        private static int factOf(int sign) {
            switch (sign) {
                case 'v': return WHICH;
                case 's': return STATION;
                case 'h': return HOUR;
                case 'l': return LETTERS;
                case 'p': return PLACE;
                case 'n': return AHEAD;
                case 'd': return DOUBLED;
                default: return NONE;
            }
        }

        /** THE TOLL of a WORD; what of it is by each VOWEL is left in parts. */
        int charge(Lexicon lexicon, int word, int station, int hour) {
            Arrays.fill(parts, 0);
            facts[STATION] = station;
            facts[HOUR] = hour % DAY;
            facts[LETTERS] = lexicon.length[word];
            facts[AHEAD] = 0;
            int sum = 0;
            int last = NONE;
            for (int i = 0; i < lexicon.length[word]; i++) {
                int letter = lexicon.letter(word, i);
                int vowel = Lexicon.vowelOf(letter);
                if (vowel >= 0) {
                    facts[WHICH] = vowel;
                    facts[PLACE] = i;
                    facts[DOUBLED] = letter == last ? 1 : 0;
                    int price = between(value(), MOST_PRICE);
                    parts[vowel] += price;
                    sum += price;
                    facts[AHEAD]++;
                }
                last = letter;
            }
            return sum;
        }

        private int value() {
            int high = 0;
            for (int i = 0; i < size; i++) {
                int step = steps[i];
                if (step < SIGN && high < RULE_SIGNS) {
                    stack[high] = step < FACT ? step : facts[step - FACT];
                    high++;
                } else if (step == NEGATE && high > 0) {
                    stack[high - 1] = -stack[high - 1];
                } else if (high > 1) {
                    high--;
                    stack[high - 1] = joined(step - SIGN, stack[high - 1], stack[high]);
                }
            }
            return stack[0];
        }

        private static int joined(int sign, int one, int other) {
            switch (sign) {
                case '+': return one + other;
                case '-': return one - other;
                case '*': return one * other;
                case '/': return other == 0 ? 0 : one / other;
                case '<': return one < other ? 1 : 0;
                case '>': return one > other ? 1 : 0;
                default: return one == other ? 1 : 0;
            }
        }
    }

    /** The ERRANDS, but for what is done of them, which can be undone. */
    private static final class Duties {
        int size;
        final int[] whose = new int[MOST_ERRANDS];
        final int[] meaning = new int[MOST_ERRANDS];
        final int[] place = new int[MOST_ERRANDS];
        final int[] worth = new int[MOST_ERRANDS];
        // What the cheapest WORD for each costs, where and when it was asked last.
        final int[] price = new int[MOST_ERRANDS];

        boolean readErrand(Text text, int errand, int people, int stations) {
            whose[errand] = text.takeFrom('a', people);
            if (whose[errand] < 0) {
                return false;
            }
            meaning[errand] = text.takeFrom('0', MEANINGS);
            if (meaning[errand] < 0) {
                return false;
            }
            place[errand] = text.takeFrom('0', stations);
            if (place[errand] < 0 || !text.take('=')) {
                return false;
            }
            worth[errand] = text.takeNumber(2);
            return worth[errand] >= 0;
        }

        int of(int traveller) {
            int set = 0;
            for (int e = 0; e < size; e++) {
                if (whose[e] == traveller) {
                    set |= 1 << e;
                }
            }
            return set;
        }

        int at(int station) {
            int set = 0;
            for (int e = 0; e < size; e++) {
                if (place[e] == station) {
                    set |= 1 << e;
                }
            }
            return set;
        }

        /** Whoever's and done or not: those at a STATION for which a WORD is right. */
        int metBy(Lexicon lexicon, int word, int station) {
            int set = 0;
            for (int e = 0; e < size; e++) {
                if (place[e] == station && lexicon.means(word, meaning[e])) {
                    set |= 1 << e;
                }
            }
            return set;
        }

        /** The first of a set that is not empty. */
        int firstOf(int set) {
            for (int e = 0; e < size; e++) {
                if ((set >> e & 1) == 1) {
                    return e;
                }
            }
            return 0;
        }

        int sumOf(int[] amounts, int set) {
            int sum = 0;
            for (int e = 0; e < size; e++) {
                sum += (set >> e & 1) * amounts[e];
            }
            return sum;
        }
    }

    /** All that is undone and kept: HOUR, TRAVELLERS, what is done, THE BOOKS. */
    private static final class Scene {
        int hour;
        int done;
        final int[] place = new int[MOST_TRAVELLERS];
        final int[] purse = new int[MOST_TRAVELLERS];
        final int[] spent = new int[MOST_TRAVELLERS];
        final int[] book = new int[MOST_STATIONS * VOWELS];

        void copy(Scene other) {
            hour = other.hour;
            done = other.done;
            System.arraycopy(other.place, 0, place, 0, MOST_TRAVELLERS);
            System.arraycopy(other.purse, 0, purse, 0, MOST_TRAVELLERS);
            System.arraycopy(other.spent, 0, spent, 0, MOST_TRAVELLERS);
            System.arraycopy(other.book, 0, book, 0, MOST_STATIONS * VOWELS);
        }

        boolean readTraveller(Text text, int traveller, int stations) {
            place[traveller] = text.takeFrom('0', stations);
            if (place[traveller] < 0 || !text.take(':')) {
                return false;
            }
            purse[traveller] = text.takeNumber(3);
            spent[traveller] = 0;
            return purse[traveller] >= 0;
        }

        void closeBooks(int fromStation) {
            for (int i = fromStation * VOWELS; i < MOST_STATIONS * VOWELS; i++) {
                book[i] = 0;
            }
        }

        int vowelsInBooks() {
            int sum = 0;
            for (int i = 0; i < MOST_STATIONS * VOWELS; i++) {
                sum += book[i];
            }
            return sum;
        }
    }

    /** Scenes ahead of what was done last; one more than can be undone, so that marking loses none. */
    private static final class Past {
        private static final int MOST = 12;
        private final Scene[] scenes = new Scene[MOST + 1];
        private int oldest;
        int size;

        Past() {
            for (int i = 0; i <= MOST; i++) {
                scenes[i] = new Scene();
            }
        }

        private int slot(int index) {
            return (oldest + index) % (MOST + 1);
        }

        /** Notes how all is, till it is known whether what comes is done. */
        void mark(Scene scene) {
            scenes[slot(size)].copy(scene);
        }

        void confirm() {
            if (size < MOST) {
                size++;
            } else {
                oldest = slot(1);
            }
        }

        /** As it was at the latest mark, if that was not confirmed. */
        void backToMark(Scene scene) {
            scene.copy(scenes[slot(size)]);
        }

        boolean takeBack(Scene scene) {
            if (size <= 0) {
                return false;
            }
            size--;
            backToMark(scene);
            return true;
        }
    }

    /** By how many changes WORDS differ. */
    private static final class Changes {
        private final int[] one = new int[MOST_LETTERS];
        private final int[] other = new int[MOST_LETTERS];
        private final int[] line = new int[MOST_LETTERS + 1];
        private final int[] far = new int[MOST_WORDS];

        int ofLetters(Lexicon lexicon, int word, int than) {
            return fewest(spell(lexicon, word, one, false), spell(lexicon, than, other, false));
        }

        int ofVowels(Lexicon lexicon, int word, int than) {
            return fewest(spell(lexicon, word, one, true), spell(lexicon, than, other, true));
        }

        private static int spell(Lexicon lexicon, int word, int[] into, boolean vowelsAlone) {
            int many = 0;
            for (int i = 0; i < lexicon.length[word]; i++) {
                int letter = lexicon.letter(word, i);
                if (!vowelsAlone || Lexicon.vowelOf(letter) >= 0) {
                    into[many] = letter;
                    many++;
                }
            }
            return many;
        }

        private int fewest(int ones, int others) {
            for (int j = 0; j <= others; j++) {
                line[j] = j;
            }
            for (int i = 1; i <= ones; i++) {
                int corner = line[0];
                line[0] = i;
                for (int j = 1; j <= others; j++) {
                    int swapped = corner + (one[i - 1] == other[j - 1] ? 0 : 1);
                    corner = line[j];
                    line[j] = Math.min(swapped, Math.min(line[j], line[j - 1]) + 1);
                }
            }
            return line[others];
        }

        /** Notes for each WORD which ones may stand beside it in a code: itself, and those that differ enough. */
        void markFar(Lexicon lexicon, int n) {
            for (int w = 0; w < lexicon.size; w++) {
                far[w] = 1 << w;
                for (int u = 0; u < w; u++) {
                    if (ofLetters(lexicon, w, u) >= n) {
                        far[w] |= 1 << u;
                        far[u] |= 1 << w;
                    }
                }
            }
        }

        boolean areFar(int set, int words) {
            for (int w = 0; w < words; w++) {
                if ((set >> w & 1) == 1 && (set & ~far[w]) != 0) {
                    return false;
                }
            }
            return true;
        }
    }

    /** Least tolls: of a sentence from each digit on; of a trip by STATION and by what is done of it. */
    private static final class Plan {
        private static final int NEVER = 1000000;
        private static final int SETS = 1 << MOST_ERRANDS;

        final int[] choice = new int[SENTENCE_SIGNS];
        final int[] step = new int[SENTENCE_SIGNS];
        int least;
        int many;
        private final int[] tail = new int[SENTENCE_SIGNS + 1];
        private int[] costs = new int[MOST_STATIONS * SETS];
        private int[] next = new int[MOST_STATIONS * SETS];
        private int goal;
        private int stations;

        /** The least price, or NONE; each choice is the first WORD of the least row from its digit on. */
        int sentencePrice(Lexicon lexicon, int[] prices, int[] signs, int digits) {
            tail[digits] = 0;
            for (int i = digits - 1; i >= 0; i--) {
                tail[i] = NEVER;
                for (int w = 0; w < lexicon.size; w++) {
                    int told = toldBy(lexicon, w, signs, i, digits);
                    if (told > 0 && prices[w] + tail[i + told] < tail[i]) {
                        tail[i] = prices[w] + tail[i + told];
                        choice[i] = w;
                        step[i] = told;
                    }
                }
            }
            return tail[0] < NEVER ? tail[0] : NONE;
        }

        private static int toldBy(Lexicon lexicon, int word, int[] signs, int at, int digits) {
            if (lexicon.first[word] != signs[at] - '0') {
                return 0;
            }
            if (!lexicon.isCompound(word)) {
                return 1;
            }
            return at + 1 < digits && lexicon.second[word] == signs[at + 1] - '0' ? 2 : 0;
        }

        void begin(int open, int place, int stationCount) {
            goal = open;
            many = Integer.bitCount(open);
            stations = stationCount;
            least = NEVER;
            Arrays.fill(costs, NEVER);
            costs[place * SETS] = 0;
        }

        void sayAt(int station, int met, int price) {
            int base = station * SETS;
            for (int set = 0; set <= goal; set++) {
                int cost = costs[base + set] + price;
                if (cost < costs[base + (set | met)]) {
                    costs[base + (set | met)] = cost;
                }
            }
        }

        /** An HOUR goes by: he comes from a STATION beside, or has waited. */
        void walkOn() {
            for (int s = 0; s < stations; s++) {
                for (int set = 0; set <= goal; set++) {
                    int cost = costs[s * SETS + set];
                    if (s > 0) {
                        cost = Math.min(cost, costs[(s - 1) * SETS + set]);
                    }
                    if (s + 1 < stations) {
                        cost = Math.min(cost, costs[(s + 1) * SETS + set]);
                    }
                    next[s * SETS + set] = cost;
                }
            }
            int[] old = costs;
            costs = next;
            next = old;
        }

        /** Whether all is done now for less than ever before. */
        boolean isCheaperNow() {
            int cost = NEVER;
            for (int s = 0; s < stations; s++) {
                cost = Math.min(cost, costs[s * SETS + goal]);
            }
            if (cost >= least) {
                return false;
            }
            least = cost;
            return true;
        }
    }

    /** DRAWS from a seed. */
    private static final class Draws {
        private int r;

        Draws(int seed) {
            r = seed;
        }

        int below(int n) {
            r = r * 1103515245 + 12345;
            return n > 0 ? (r >>> 16) % n : 0;
        }
    }
}
