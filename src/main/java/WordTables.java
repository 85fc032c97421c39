import java.util.Arrays;
import java.util.NoSuchElementException;

/** An inn where guests make words by their first letters; the document's promises say what every call answers. */
public final class WordTables {
    public static final int NONE = -1;

    private static final int NO_WAY = -2;

    private static final int MOST_TAPE = 900;
    private static final int MOST_TABLES = 3;
    private static final int MOST_CHAIRS = 6;
    private static final int MOST_WORDS = 24;
    private static final int MOST_LETTERS = 6;
    private static final int MOST_WORTH = 99;
    private static final int MOST_GUESTS = 8;
    private static final int MOST_LIKELY = 6;
    private static final int MOST_WEIGHT = 9;
    private static final int MOST_SEEN = 6;
    private static final int MOST_HOPE = 4;
    private static final int MOST_MARKS = 3;
    private static final int ALPHABET = 26;

    // No word at a table: behind the last word's number, so that in rows that rise a word stands ahead of none.
    private static final int EMPTY = MOST_WORDS;
    // What a table can be: one of the words, or empty.
    private static final int KINDS = MOST_WORDS + 1;

    private static final int ANY = 0;
    private static final int ENDS = 1;
    private static final int BACK = 2;

    private static final int LONG = 1;
    private static final int DEAR = 2;
    private static final int WISE = 3;

    private static final int NOT_REFUSED = 0;
    private static final int NONE_SUCH = 1;
    private static final int NUMBER = 2;
    private static final int NO_ROOM = 3;
    private static final int FAULTY = 4;
    private static final int NOT_SO = 5;
    private static final int THERE_IS_NONE = 6;

    // What is read is a draft until it is known to be sound: a fault leaves the inn as it was.
    private final House draft = new House();
    private final Reader reader = new Reader(draft);
    private final House house = new House();
    private final Growth growth = new Growth(house);
    private final Ladders ladders = new Ladders(house, growth);
    private final Survey best = new Survey(house);
    private final Survey risen = new Survey(house);
    private final Survey lacking = new Survey(house);
    private final Survey oneMore = new Survey(house);
    private final int[] gainOf = new int[ALPHABET];
    private final Future future = new Future(house, growth);
    private final Steward steward = new Steward(house, growth, future);
    private final Stairs stairs = new Stairs(house, growth);
    private final Sighting sighting = new Sighting(house, growth);
    private final Night tonight = new Night();
    private final Night trial = new Night();
    private final Night[] marks = new Night[MOST_MARKS];
    private int marked;
    private int refusal;

    public WordTables() {
        for (int m = 0; m < MOST_MARKS; m++) {
            marks[m] = new Night();
        }
    }

    // ---- the inn

    public int feed(int a, int b, int c, int d, int e) {
        return reader.append(a, b, c, d, e);
    }

    public int inn(int n) {
        if (n < 0 || n > reader.taped) {
            return refused(NUMBER);
        }
        if (!reader.readInn(n)) {
            return refused(FAULTY);
        }
        house.copyFrom(draft);
        growth.weave();
        tonight.begin(0);
        renew();
        return granted(house.guests);
    }

    public int fault() {
        return reader.faultNumber;
    }

    public int where() {
        return refusal == FAULTY ? reader.faultPlace : NONE;
    }

    // ---- words

    public int word(int w, int what) {
        if (!house.isWord(w)) {
            return refused(NONE_SUCH);
        }
        switch (what) {
            case 0: return granted(house.lengthOf(w));
            case 1: return granted(house.valueOf(w));
            case 2: return granted(house.isBarred(w) ? 1 : 0);
            case 3: return granted(house.isGood(w) ? 1 : 0);
            default: return refused(NONE_SUCH);
        }
    }

    public int letter(int w, int i) {
        if (!house.isWord(w) || i < 0 || i >= house.lengthOf(w)) {
            return refused(NONE_SUCH);
        }
        return granted(house.glyphOf(w, i));
    }

    public int grows(int word, int other) {
        if (!house.isWord(word) || !house.isWord(other)) {
            return refused(NONE_SUCH);
        }
        if (!house.isGood(word) || !house.isGood(other)) {
            return refused(NOT_SO);
        }
        int by = growth.letterOf(word, other);
        return granted(by < 0 ? NO_WAY : by);
    }

    public int chain(int word) {
        if (!house.isWord(word)) {
            return refused(NONE_SUCH);
        }
        if (!house.isGood(word)) {
            return refused(NOT_SO);
        }
        return granted(growth.chainOf(word));
    }

    public int ladder(int word, int other) {
        if (!house.isWord(word) || !house.isWord(other)) {
            return refused(NONE_SUCH);
        }
        if (!house.isGood(word) || !house.isGood(other)) {
            return refused(NOT_SO);
        }
        ladders.measure(other);
        int far = ladders.farOf(word);
        return granted(far < 0 ? NO_WAY : far);
    }

    public int rung(int word, int other, int i) {
        if (!house.isWord(word) || !house.isWord(other) || i < 0) {
            return refused(NONE_SUCH);
        }
        if (!house.isGood(word) || !house.isGood(other)) {
            return refused(NOT_SO);
        }
        ladders.measure(other);
        int far = ladders.farOf(word);
        if (far < 0) {
            return refused(THERE_IS_NONE);
        }
        if (i > far) {
            return refused(NONE_SUCH);
        }
        return granted(ladders.after(word, i));
    }

    public int grundy(int word) {
        if (!house.isOpen() || word != -1 && !house.isWord(word)) {
            return refused(NONE_SUCH);
        }
        if (word != -1 && !house.isGood(word)) {
            return refused(NOT_SO);
        }
        return granted(growth.nimOf(word == -1 ? EMPTY : word));
    }

    // ---- all at once

    public int most() {
        return house.isOpen() ? granted(bestPlan().sat) : refused(NONE_SUCH);
    }

    public int worth() {
        return house.isOpen() ? granted(bestPlan().gold) : refused(NONE_SUCH);
    }

    public int plan(int i) {
        if (i < 0 || i >= house.tables) {
            return refused(NONE_SUCH);
        }
        int w = bestPlan().foundAt(i);
        return granted(w == EMPTY ? NO_WAY : w);
    }

    public int richest() {
        return house.isOpen() ? granted(bestPlan().rich) : refused(NONE_SUCH);
    }

    public int fewest() {
        if (!house.isOpen()) {
            return refused(NONE_SUCH);
        }
        int few = bestPlan().few;
        return granted(few > MOST_TABLES ? NO_WAY : few);
    }

    public int wanted() {
        if (!house.isOpen()) {
            return refused(NONE_SUCH);
        }
        int lack = lackingPlan().lack;
        return granted(lack < 0 ? NO_WAY : lack);
    }

    public int wants(int i) {
        if (!house.isOpen() || i < 0) {
            return refused(NONE_SUCH);
        }
        int lack = lackingPlan().lack;
        if (lack < 0) {
            return refused(THERE_IS_NONE);
        }
        if (i >= lack) {
            return refused(NONE_SUCH);
        }
        return granted(lacking.lackingAt(i));
    }

    public int gains(int letter) {
        if (!house.isOpen()) {
            return refused(NONE_SUCH);
        }
        if (letter < 0 || letter >= ALPHABET) {
            return refused(NUMBER);
        }
        if (gainOf[letter] < 0) {
            oneMore.gather(letter);
            offerGood(oneMore, MOST_LETTERS);
            oneMore.findPlans();
            gainOf[letter] = oneMore.sat - bestPlan().sat;
        }
        return granted(gainOf[letter]);
    }

    // ---- a night

    public boolean night(int host) {
        if (!house.isOpen() || !isHost(host)) {
            return denied(NONE_SUCH);
        }
        tonight.begin(host);
        return allowed();
    }

    public int come(int n) {
        if (!house.isOpen()) {
            return refused(NONE_SUCH);
        }
        if (n < 1 || n > MOST_GUESTS) {
            return refused(NUMBER);
        }
        int before = tonight.came;
        if (before >= house.guests) {
            return refused(THERE_IS_NONE);
        }
        for (int i = 0; i < n && tonight.came < house.guests; i++) {
            steward.receive(tonight);
        }
        return granted(tonight.came - before);
    }

    public boolean seat(int table, int word) {
        if (table < 0 || table >= house.tables || !house.isWord(word)) {
            return denied(NONE_SUCH);
        }
        if (tonight.came >= house.guests) {
            return denied(THERE_IS_NONE);
        }
        if (growth.letterOf(tonight.at(table), word) != house.firstOf(tonight.came)) {
            return denied(NOT_SO);
        }
        tonight.sitDown(table, word);
        return allowed();
    }

    public boolean stand() {
        if (!house.isOpen()) {
            return denied(NONE_SUCH);
        }
        if (tonight.came >= house.guests) {
            return denied(THERE_IS_NONE);
        }
        tonight.leaveStanding();
        return allowed();
    }

    public int can() {
        if (!house.isOpen()) {
            return refused(NONE_SUCH);
        }
        if (tonight.came >= house.guests) {
            return refused(THERE_IS_NONE);
        }
        int letter = house.firstOf(tonight.came);
        int ways = 0;
        for (int t = 0; t < house.tables; t++) {
            ways += growth.waysBy(tonight.at(t), letter);
        }
        return granted(ways);
    }

    public int table(int t) {
        if (t < 0 || t >= house.tables) {
            return refused(NONE_SUCH);
        }
        int w = tonight.at(t);
        return granted(w == EMPTY ? NO_WAY : w);
    }

    public int standing() {
        return house.isOpen() ? granted(tonight.standingBits()) : refused(NONE_SUCH);
    }

    public int ever() {
        if (!house.isOpen()) {
            return refused(NONE_SUCH);
        }
        if (!risen.known) {
            // Orders are free, so what ends a night is any plan of words that one letter can grow into.
            risen.gather(NONE);
            offerGood(risen, 1);
            risen.findPlans();
        }
        return granted(risen.sat);
    }

    public int rises(int word) {
        if (!house.isWord(word)) {
            return refused(NONE_SUCH);
        }
        if (!house.isGood(word)) {
            return refused(NOT_SO);
        }
        return granted(growth.riseOf(word));
    }

    public int steps(int a, int b, int c, int up) {
        if (!house.isOpen() || !isTold(0, a) || !isTold(1, b) || !isTold(2, c)) {
            return refused(NONE_SUCH);
        }
        if (up < 0 || up > MOST_GUESTS) {
            return refused(NUMBER);
        }
        if (!isEmptyOrGood(a) || !isEmptyOrGood(b) || !isEmptyOrGood(c)) {
            return refused(NOT_SO);
        }
        int goal = stairs.codeOf(a == -1 ? EMPTY : a, b == -1 ? EMPTY : b, c == -1 ? EMPTY : c);
        return granted(stairs.climb(tonight, goal, up));
    }

    public int able() {
        return house.isOpen() ? granted(future.fromBeginning()) : refused(NONE_SUCH);
    }

    public int sits(int host) {
        if (!house.isOpen() || !isHost(host)) {
            return refused(NONE_SUCH);
        }
        trial.begin(host);
        for (int g = 0; g < house.guests; g++) {
            steward.receive(trial);
        }
        return granted(Integer.bitCount(trial.seated));
    }

    public long hope(int k, boolean lower) {
        if (!house.isOpen()) {
            return refused(NONE_SUCH);
        }
        if (k < 1 || k > MOST_HOPE) {
            return refused(NUMBER);
        }
        if (house.likelies < 1) {
            return refused(THERE_IS_NONE);
        }
        int above = future.hopeFrom(tonight, k);
        int below = future.weightOf(k);
        int shared = commonDivisor(above, below);
        return granted(shared < 1 ? NONE : (lower ? below : above) / shared);
    }

    public int game() {
        return house.isOpen() ? granted(nimTonight()) : refused(NONE_SUCH);
    }

    public int move() {
        if (!house.isOpen()) {
            return refused(NONE_SUCH);
        }
        int all = nimTonight();
        for (int t = 0; t < house.tables; t++) {
            int w = tonight.at(t);
            int others = all ^ growth.nimOf(w);
            for (int i = 0; i < growth.ups(w); i++) {
                int v = growth.upOf(w, i);
                if (growth.nimOf(v) == others) {
                    return granted(MOST_WORDS * t + v);
                }
            }
        }
        return granted(NO_WAY);
    }

    public int mark() {
        if (!house.isOpen()) {
            return refused(NONE_SUCH);
        }
        if (marked < 0 || marked >= MOST_MARKS) {
            return refused(NO_ROOM);
        }
        marks[marked].copyFrom(tonight);
        marked++;
        return granted(marked - 1);
    }

    public boolean back(int mark) {
        if (mark < 0 || mark >= marked || mark >= MOST_MARKS) {
            return denied(NONE_SUCH);
        }
        tonight.copyFrom(marks[mark]);
        return allowed();
    }

    // ---- an evening seen

    public int wrong() {
        if (!house.isOpen()) {
            return refused(NONE_SUCH);
        }
        if (house.seens < 1) {
            return refused(THERE_IS_NONE);
        }
        return granted(sighting.firstWrong());
    }

    public int ways() {
        if (!house.isOpen()) {
            return refused(NONE_SUCH);
        }
        if (house.seens < 1) {
            return refused(THERE_IS_NONE);
        }
        return granted(sighting.rowsWith(NONE));
    }

    public int waysOf(int guest) {
        if (!house.isGuest(guest)) {
            return refused(NONE_SUCH);
        }
        if (house.seens < 1) {
            return refused(THERE_IS_NONE);
        }
        return granted(sighting.rowsWith(guest));
    }

    // ---- acts

    public boolean rename(int guest, int letter) {
        if (!house.isGuest(guest)) {
            return denied(NONE_SUCH);
        }
        if (letter < 0 || letter >= ALPHABET) {
            return denied(NUMBER);
        }
        if (house.firstOf(guest) == letter) {
            return denied(NOT_SO);
        }
        house.setFirst(guest, letter);
        tonight.begin(tonight.hostNumber);
        renew();
        return allowed();
    }

    public boolean bar(int word, boolean is) {
        if (!house.isWord(word)) {
            return denied(NONE_SUCH);
        }
        if (house.isBarred(word) == is) {
            return denied(NOT_SO);
        }
        house.setBarred(word, is);
        growth.settle();
        tonight.begin(tonight.hostNumber);
        renew();
        return allowed();
    }

    // ---- what is seen

    public int guest(int g) {
        return house.isGuest(g) ? granted(house.firstOf(g)) : refused(NONE_SUCH);
    }

    public int led(int i) throws NoSuchElementException {
        int g = tonight.seatedGuest(i);
        if (g < 0) {
            throw new NoSuchElementException();
        }
        return g;
    }

    public int size(int what) {
        switch (what) {
            case 0: return house.tables;
            case 1: return house.chairs;
            case 2: return house.words;
            case 3: return house.guests;
            case 4: return house.likelies;
            case 5: return house.seens;
            case 6: return tonight.came;
            case 7: return tonight.hostNumber;
            case 8: return marked;
            case 9: return reader.taped;
            default: return NONE;
        }
    }

    public int trouble() {
        return refusal;
    }

    // ---- what the calls share

    private int granted(int answer) {
        refusal = NOT_REFUSED;
        return answer;
    }

    private int refused(int number) {
        refusal = number;
        return NONE;
    }

    private boolean allowed() {
        refusal = NOT_REFUSED;
        return true;
    }

    private boolean denied(int number) {
        refusal = number;
        return false;
    }

    /** The letters or the words are others now: what was found out by the old ones is forgotten. */
    private void renew() {
        marked = 0;
        best.known = false;
        risen.known = false;
        lacking.known = false;
        Arrays.fill(gainOf, -1);
        future.forget();
    }

    private Survey bestPlan() {
        if (!best.known) {
            best.gather(NONE);
            offerGood(best, MOST_LETTERS);
            best.findPlans();
        }
        return best;
    }

    private Survey lackingPlan() {
        if (!lacking.known) {
            lacking.gather(NONE);
            offerGood(lacking, MOST_LETTERS);
            lacking.findLack();
        }
        return lacking;
    }

    private void offerGood(Survey survey, int highestRise) {
        for (int w = 0; w < house.words; w++) {
            if (house.isGood(w) && growth.riseOf(w) <= highestRise) {
                survey.offer(w);
            }
        }
    }

    private boolean isHost(int number) {
        return number >= 0 && number <= WISE;
    }

    private boolean isTold(int t, int w) {
        return w == -1 || t < house.tables && house.isWord(w);
    }

    private boolean isEmptyOrGood(int w) {
        return w == -1 || house.isGood(w);
    }

    private int nimTonight() {
        int all = 0;
        for (int t = 0; t < house.tables; t++) {
            all ^= growth.nimOf(tonight.at(t));
        }
        return all;
    }

    private static int commonDivisor(int a, int b) {
        int large = Math.max(a, b);
        int small = Math.min(a, b);
        for (int i = 0; i < 64 && small > 0; i++) {
            int rest = large % small;
            large = small;
            small = rest;
        }
        return large;
    }

    /** An inn as it is told: rows of fixed lengths, and how much of each is used. */
    private static final class House {
        int tables;
        int chairs;
        int manner;
        int words;
        int guests;
        int likelies;
        int seens;
        private final int[] length = new int[MOST_WORDS];
        private final int[] value = new int[MOST_WORDS];
        // Each word's letters, NONE behind its last one; the last row, of no word, has none.
        private final int[][] glyph = new int[KINDS][MOST_LETTERS];
        private final boolean[] barred = new boolean[MOST_WORDS];
        private final int[] first = new int[MOST_GUESTS];
        private final int[] likely = new int[MOST_LIKELY];
        private final int[] weight = new int[MOST_LIKELY];
        private final int[] seen = new int[MOST_SEEN];

        House() {
            Arrays.fill(glyph[EMPTY], NONE);
        }

        void clear() {
            tables = 0;
            chairs = 0;
            manner = ANY;
            words = 0;
            guests = 0;
            likelies = 0;
            seens = 0;
        }

        void copyFrom(House other) {
            tables = other.tables;
            chairs = other.chairs;
            manner = other.manner;
            words = other.words;
            guests = other.guests;
            likelies = other.likelies;
            seens = other.seens;
            for (int w = 0; w < MOST_WORDS; w++) {
                length[w] = other.length[w];
                value[w] = other.value[w];
                barred[w] = other.barred[w];
                System.arraycopy(other.glyph[w], 0, glyph[w], 0, MOST_LETTERS);
            }
            System.arraycopy(other.first, 0, first, 0, MOST_GUESTS);
            System.arraycopy(other.likely, 0, likely, 0, MOST_LIKELY);
            System.arraycopy(other.weight, 0, weight, 0, MOST_LIKELY);
            System.arraycopy(other.seen, 0, seen, 0, MOST_SEEN);
        }

        boolean isOpen() {
            return tables > 0;
        }

        boolean isWord(int w) {
            return w >= 0 && w < words && w < MOST_WORDS;
        }

        boolean isGuest(int g) {
            return g >= 0 && g < guests && g < MOST_GUESTS;
        }

        boolean isBarred(int w) {
            return isWord(w) && barred[w];
        }

        boolean isGood(int w) {
            return isWord(w) && !barred[w] && length[w] <= chairs;
        }

        int lengthOf(int w) {
            return isWord(w) ? length[w] : 0;
        }

        int valueOf(int w) {
            return isWord(w) ? value[w] : 0;
        }

        int glyphOf(int w, int i) {
            return isWord(w) && i >= 0 && i < MOST_LETTERS ? glyph[w][i] : NONE;
        }

        int[] glyphsOf(int w) {
            return glyph[isWord(w) ? w : EMPTY];
        }

        int firstOf(int g) {
            return isGuest(g) ? first[g] : NONE;
        }

        int likelyOf(int i) {
            return i >= 0 && i < likelies && i < MOST_LIKELY ? likely[i] : NONE;
        }

        int weightOf(int i) {
            return i >= 0 && i < likelies && i < MOST_LIKELY ? weight[i] : 0;
        }

        int seenOf(int i) {
            return i >= 0 && i < seens && i < MOST_SEEN ? seen[i] : NONE;
        }

        void setBarred(int w, boolean is) {
            if (isWord(w)) {
                barred[w] = is;
            }
        }

        void setValue(int w, int worth) {
            if (isWord(w)) {
                value[w] = worth;
            }
        }

        void setFirst(int g, int letter) {
            if (isGuest(g)) {
                first[g] = letter;
            }
        }

        void addWord(int[] bytes, int start, int stop) {
            if (words < MOST_WORDS && start >= 0 && stop <= bytes.length && stop - start <= MOST_LETTERS) {
                Arrays.fill(glyph[words], NONE);
                for (int i = start; i < stop; i++) {
                    glyph[words][i - start] = bytes[i] - 'a';
                }
                length[words] = stop - start;
                barred[words] = false;
                words++;
            }
        }

        void addGuest(int letter) {
            if (guests < MOST_GUESTS) {
                first[guests] = letter;
                guests++;
            }
        }

        void addLikely(int letter, int parts) {
            if (likelies < MOST_LIKELY) {
                likely[likelies] = letter;
                weight[likelies] = parts;
                likelies++;
            }
        }

        void addSeen(int w) {
            if (seens < MOST_SEEN) {
                seen[seens] = w;
                seens++;
            }
        }
    }

    /** The tape, and an inn read from it token by token; the first fault ends the reading. */
    private static final class Reader {
        private static final int END = 0;
        private static final int WORD = 1;
        private static final int WHOLE = 2;
        private static final int SEMICOLON = 3;
        private static final int COMMA = 4;
        private static final int BAD = 5;

        private static final int FORM = 1;
        private static final int UNTOLD = 2;
        private static final int AGAIN = 3;
        private static final int BOUNDS = 4;
        private static final int MANY = 5;
        private static final int LACKS = 6;

        private static final int LONGEST_WORD = 8;
        private static final int LONGEST_WHOLE = 3;

        int taped;
        int faultNumber;
        int faultPlace;
        private final int[] tape = new int[MOST_TAPE];
        private final int[] nameStart = new int[MOST_GUESTS];
        private final int[] nameStop = new int[MOST_GUESTS];
        private final House told;
        private boolean innTold;
        private boolean seenTold;
        private int end;
        private int kind;
        private int start;
        private int stop;
        private int number;

        Reader(House told) {
            this.told = told;
        }

        int append(int a, int b, int c, int d, int e) {
            if (taped + 20 > MOST_TAPE) {
                return NONE;
            }
            appendFour(a);
            appendFour(b);
            appendFour(c);
            appendFour(d);
            appendFour(e);
            return taped;
        }

        private void appendFour(int bytes) {
            for (int shift = 24; shift >= 0 && taped < MOST_TAPE; shift -= 8) {
                tape[taped] = bytes >>> shift & 255;
                taped++;
            }
        }

        /** Whether the first n bytes are an inn without a fault; it is the draft then. The tape is empty after it. */
        boolean readInn(int n) {
            told.clear();
            innTold = false;
            seenTold = false;
            faultNumber = 0;
            faultPlace = NONE;
            end = Math.min(n, taped);
            stop = 0;
            taped = 0;
            next();
            boolean goesOn = readLine();
            for (int lines = 0; goesOn && kind == SEMICOLON && lines < MOST_TAPE; lines++) {
                next();
                goesOn = readLine();
            }
            return goesOn && ends();
        }

        private boolean ends() {
            if (kind != END) {
                return fails(FORM);
            }
            if (!innTold || told.words < 1 || told.guests < 1) {
                return fails(LACKS);
            }
            return true;
        }

        private boolean readLine() {
            if (reads("inn")) {
                return readHouse();
            }
            if (reads("word")) {
                return readWord();
            }
            if (reads("guest")) {
                return readGuests();
            }
            if (reads("likely")) {
                return readLikely();
            }
            if (reads("seen")) {
                return readSeen();
            }
            return fails(FORM);
        }

        private boolean readHouse() {
            if (innTold) {
                return fails(AGAIN);
            }
            innTold = true;
            next();
            if (!readKey("tables") || !readWhole(1, MOST_TABLES)) {
                return false;
            }
            told.tables = number;
            if (!readKey("chairs") || !readWhole(1, MOST_CHAIRS)) {
                return false;
            }
            told.chairs = number;
            return readKey("grows") && readManner();
        }

        private boolean readManner() {
            if (reads("any")) {
                told.manner = ANY;
            } else if (reads("ends")) {
                told.manner = ENDS;
            } else if (reads("back")) {
                told.manner = BACK;
            } else {
                return fails(FORM);
            }
            next();
            return true;
        }

        private boolean readWord() {
            if (told.words >= MOST_WORDS) {
                return fails(MANY);
            }
            next();
            if (kind != WORD) {
                return fails(FORM);
            }
            if (toldWord() >= 0) {
                return fails(AGAIN);
            }
            if (stop - start > MOST_LETTERS) {
                return fails(BOUNDS);
            }
            told.addWord(tape, start, stop);
            int w = told.words - 1;
            next();
            if (!readKey("worth") || !readWhole(0, MOST_WORTH)) {
                return false;
            }
            told.setValue(w, number);
            if (reads("barred")) {
                told.setBarred(w, true);
                next();
            }
            return true;
        }

        private boolean readGuests() {
            for (int names = 0; names <= MOST_GUESTS; names++) {
                next();
                if (kind != WORD) {
                    return fails(FORM);
                }
                if (isNamed()) {
                    return fails(AGAIN);
                }
                if (told.guests >= MOST_GUESTS) {
                    return fails(MANY);
                }
                nameStart[told.guests] = start;
                nameStop[told.guests] = stop;
                told.addGuest(byteAt(start) - 'a');
                next();
                if (kind != COMMA) {
                    return true;
                }
            }
            return fails(MANY);
        }

        private boolean readLikely() {
            if (told.likelies >= MOST_LIKELY) {
                return fails(MANY);
            }
            next();
            if (kind != WORD) {
                return fails(FORM);
            }
            if (stop - start > 1) {
                return fails(BOUNDS);
            }
            int letter = byteAt(start) - 'a';
            for (int i = 0; i < told.likelies; i++) {
                if (told.likelyOf(i) == letter) {
                    return fails(AGAIN);
                }
            }
            next();
            if (!readWhole(1, MOST_WEIGHT)) {
                return false;
            }
            told.addLikely(letter, number);
            return true;
        }

        private boolean readSeen() {
            if (seenTold) {
                return fails(AGAIN);
            }
            seenTold = true;
            for (int words = 0; words <= MOST_SEEN; words++) {
                next();
                if (kind != WORD) {
                    return fails(FORM);
                }
                int w = toldWord();
                if (w < 0) {
                    return fails(UNTOLD);
                }
                if (told.seens >= MOST_SEEN) {
                    return fails(MANY);
                }
                told.addSeen(w);
                next();
                if (kind != COMMA) {
                    return true;
                }
            }
            return fails(MANY);
        }

        private boolean readKey(String key) {
            if (!reads(key)) {
                return fails(FORM);
            }
            next();
            return true;
        }

        private boolean readWhole(int least, int highest) {
            if (kind != WHOLE) {
                return fails(FORM);
            }
            number = 0;
            for (int i = start; i < stop; i++) {
                number = number * 10 + byteAt(i) - '0';
            }
            if (number < least || number > highest) {
                return fails(BOUNDS);
            }
            next();
            return true;
        }

        private boolean fails(int fault) {
            faultNumber = fault;
            faultPlace = start;
            return false;
        }

        private boolean reads(String key) {
            if (kind != WORD || stop - start != key.length()) {
                return false;
            }
            for (int i = 0; i < key.length(); i++) {
                if (byteAt(start + i) != key.charAt(i)) {
                    return false;
                }
            }
            return true;
        }

        private int toldWord() {
            for (int w = 0; w < told.words; w++) {
                if (isWordHere(w)) {
                    return w;
                }
            }
            return NONE;
        }

        private boolean isWordHere(int w) {
            if (told.lengthOf(w) != stop - start) {
                return false;
            }
            for (int i = start; i < stop; i++) {
                if (told.glyphOf(w, i - start) != byteAt(i) - 'a') {
                    return false;
                }
            }
            return true;
        }

        private boolean isNamed() {
            for (int g = 0; g < told.guests && g < MOST_GUESTS; g++) {
                if (isNameHere(nameStart[g], nameStop[g])) {
                    return true;
                }
            }
            return false;
        }

        private boolean isNameHere(int from, int to) {
            if (to - from != stop - start) {
                return false;
            }
            for (int i = from; i < to; i++) {
                if (byteAt(i) != byteAt(start + i - from)) {
                    return false;
                }
            }
            return true;
        }

        /** The next token, of which a run of letters or digits too long is none. */
        private void next() {
            start = stop;
            while (start < end && byteAt(start) == ' ') {
                start++;
            }
            stop = start + 1;
            int sign = byteAt(start);
            if (start >= end) {
                stop = start;
                kind = END;
            } else if (sign == ';') {
                kind = SEMICOLON;
            } else if (sign == ',') {
                kind = COMMA;
            } else if (sign >= 'a' && sign <= 'z') {
                stop = runEnd('a', 'z');
                kind = stop - start <= LONGEST_WORD ? WORD : BAD;
            } else if (sign >= '0' && sign <= '9') {
                stop = runEnd('0', '9');
                kind = stop - start <= LONGEST_WHOLE ? WHOLE : BAD;
            } else {
                kind = BAD;
            }
        }

        private int runEnd(int low, int high) {
            int i = start;
            while (i < end && byteAt(i) >= low && byteAt(i) <= high) {
                i++;
            }
            return i;
        }

        private int byteAt(int i) {
            return i >= 0 && i < MOST_TAPE ? tape[i] : NONE;
        }
    }

    /** Which words become which, and what follows from that alone. */
    private static final class Growth {
        private final House house;
        // By which letter one becomes the other, whatever is barred; NONE if it doesn't.
        private final int[][] woven = new int[KINDS][MOST_WORDS];
        // The same among good words alone; what each becomes, rising, and the letters of that.
        private final int[][] gain = new int[KINDS][MOST_WORDS];
        private final int[][] up = new int[KINDS][MOST_WORDS];
        private final int[][] by = new int[KINDS][MOST_WORDS];
        private final int[] upCount = new int[KINDS];
        private final int[][] down = new int[MOST_WORDS][KINDS];
        private final int[] downCount = new int[MOST_WORDS];
        private final int[] links = new int[KINDS];
        private final int[] nim = new int[KINDS];
        private final int[] rise = new int[KINDS];

        Growth(House house) {
            this.house = house;
        }

        /** The words are new ones. */
        void weave() {
            for (int v = 0; v < MOST_WORDS; v++) {
                for (int w = 0; w < MOST_WORDS; w++) {
                    woven[w][v] = letterBetween(w, v);
                }
                woven[EMPTY][v] = house.lengthOf(v) == 1 ? house.glyphOf(v, 0) : NONE;
            }
            settle();
        }

        private int letterBetween(int w, int v) {
            int n = house.lengthOf(w);
            if (n < 1 || house.lengthOf(v) != n + 1) {
                return NONE;
            }
            for (int p = 0; p <= n; p++) {
                boolean allowed = p == n || house.manner == ANY || p == 0 && house.manner == ENDS;
                if (allowed && isWithout(v, p, w)) {
                    return house.glyphOf(v, p);
                }
            }
            return NONE;
        }

        private boolean isWithout(int v, int p, int w) {
            for (int i = 0; i < house.lengthOf(w); i++) {
                if (house.glyphOf(w, i) != house.glyphOf(v, i < p ? i : i + 1)) {
                    return false;
                }
            }
            return true;
        }

        /** Other words are good now. */
        void settle() {
            Arrays.fill(upCount, 0);
            Arrays.fill(downCount, 0);
            for (int w = 0; w < KINDS; w++) {
                for (int v = 0; v < MOST_WORDS; v++) {
                    boolean both = (w == EMPTY || house.isGood(w)) && house.isGood(v);
                    gain[w][v] = both ? woven[w][v] : NONE;
                    if (gain[w][v] >= 0) {
                        link(w, v);
                    }
                }
            }
            for (int n = MOST_LETTERS; n >= 0; n--) {
                lookUp(n);
            }
            for (int n = 1; n <= MOST_LETTERS; n++) {
                lookDown(n);
            }
        }

        private void link(int w, int v) {
            if (upCount[w] < MOST_WORDS && downCount[v] < KINDS) {
                up[w][upCount[w]] = v;
                by[w][upCount[w]] = gain[w][v];
                upCount[w]++;
                down[v][downCount[v]] = w;
                downCount[v]++;
            }
        }

        /** Chains and grundies of what has n letters, those of longer words being known. */
        private void lookUp(int n) {
            for (int w = 0; w < KINDS; w++) {
                if (house.lengthOf(w) != n) {
                    continue;
                }
                int longest = 0;
                int nims = 0;
                for (int i = 0; i < upCount[w]; i++) {
                    longest = Math.max(longest, 1 + chainOf(up[w][i]));
                    nims |= 1 << nimOf(up[w][i]);
                }
                links[w] = longest;
                nim[w] = leastWithout(nims);
            }
        }

        private static int leastWithout(int bits) {
            int least = 0;
            while (least < 31 && (bits >> least & 1) == 1) {
                least++;
            }
            return least;
        }

        private void lookDown(int n) {
            for (int w = 0; w < MOST_WORDS; w++) {
                if (house.lengthOf(w) != n) {
                    continue;
                }
                int least = n;
                for (int i = 0; i < downCount[w]; i++) {
                    if (down[w][i] != EMPTY) {
                        least = Math.min(least, riseOf(down[w][i]));
                    }
                }
                rise[w] = least;
            }
        }

        private boolean isKind(int w) {
            return w >= 0 && w < KINDS;
        }

        private boolean isSpot(int w) {
            return w >= 0 && w < MOST_WORDS;
        }

        int chainOf(int w) {
            return isKind(w) ? links[w] : 0;
        }

        int nimOf(int w) {
            return isKind(w) ? nim[w] : 0;
        }

        int riseOf(int w) {
            return isKind(w) ? rise[w] : 0;
        }

        int letterOf(int w, int v) {
            return isKind(w) && isSpot(v) ? gain[w][v] : NONE;
        }

        int ups(int w) {
            return isKind(w) ? upCount[w] : 0;
        }

        int upOf(int w, int i) {
            return isKind(w) && isSpot(i) ? up[w][i] : NONE;
        }

        int byOf(int w, int i) {
            return isKind(w) && isSpot(i) ? by[w][i] : NONE;
        }

        int downs(int w) {
            return isSpot(w) ? downCount[w] : 0;
        }

        int downOf(int w, int i) {
            return isSpot(w) && isKind(i) ? down[w][i] : NONE;
        }

        int waysBy(int w, int letter) {
            int ways = 0;
            for (int i = 0; i < ups(w); i++) {
                if (byOf(w, i) == letter) {
                    ways++;
                }
            }
            return ways;
        }
    }

    /** How far every word is from one of them, by growing or the other way round. */
    private static final class Ladders {
        private final House house;
        private final Growth growth;
        private final int[] far = new int[MOST_WORDS];
        private final int[] queue = new int[MOST_WORDS];

        Ladders(House house, Growth growth) {
            this.house = house;
            this.growth = growth;
        }

        void measure(int goal) {
            Arrays.fill(far, NONE);
            if (!house.isGood(goal)) {
                return;
            }
            far[goal] = 0;
            queue[0] = goal;
            int tail = 1;
            for (int head = 0; head < tail && head < MOST_WORDS; head++) {
                int w = queue[head];
                for (int v = 0; v < house.words; v++) {
                    if (farOf(v) < 0 && isRung(w, v) && tail < MOST_WORDS) {
                        far[v] = farOf(w) + 1;
                        queue[tail] = v;
                        tail++;
                    }
                }
            }
        }

        private boolean isRung(int w, int v) {
            return house.isWord(v) && (growth.letterOf(w, v) >= 0 || growth.letterOf(v, w) >= 0);
        }

        int farOf(int w) {
            return w >= 0 && w < MOST_WORDS ? far[w] : NONE;
        }

        /** The word behind so many steps, each to the first word that is nearer. */
        int after(int w, int steps) {
            int at = w;
            for (int i = 0; i < steps && i < MOST_WORDS; i++) {
                at = nearer(at);
            }
            return at;
        }

        private int nearer(int w) {
            for (int v = 0; v < house.words; v++) {
                if (isRung(w, v) && farOf(v) == farOf(w) - 1) {
                    return v;
                }
            }
            return w;
        }
    }

    /** A search through all plans of the words offered, in rows that rise, a word ahead of none. */
    private static final class Survey {
        // More letters than any plan can have.
        private static final int ALL_LETTERS = MOST_TABLES * MOST_LETTERS;

        boolean known;
        int sat;
        int gold;
        int rich;
        int few;
        int lack;
        private final House house;
        private final int[] left = new int[ALPHABET];
        private final int[] pick = new int[MOST_WORDS];
        private final int[] chosen = new int[MOST_TABLES];
        private final int[] found = new int[MOST_TABLES];
        private boolean adding;
        private int picks;
        private int people;
        private int letters;
        private int over;
        private int limit;
        private int value;

        Survey(House house) {
            this.house = house;
        }

        /** All guests' letters, and one more if it isn't NONE. */
        void gather(int oneMore) {
            Arrays.fill(left, 0);
            people = 0;
            for (int g = 0; g < house.guests; g++) {
                addLetter(house.firstOf(g));
            }
            addLetter(oneMore);
            picks = 0;
            letters = 0;
            over = 0;
            value = 0;
            Arrays.fill(found, EMPTY);
        }

        private void addLetter(int letter) {
            if (letter >= 0 && letter < ALPHABET) {
                left[letter]++;
                people++;
            }
        }

        void offer(int w) {
            if (picks < MOST_WORDS) {
                pick[picks] = w;
                picks++;
            }
        }

        void findPlans() {
            adding = false;
            limit = 0;
            sat = NONE;
            gold = NONE;
            rich = 0;
            few = MOST_TABLES + 1;
            spread(0, 0);
            known = true;
        }

        void findLack() {
            adding = true;
            limit = ALL_LETTERS;
            lack = NONE;
            spread(0, 0);
            for (int t = 0; t < MOST_TABLES; t++) {
                take(found[t]);
            }
            known = true;
        }

        private void spread(int depth, int from) {
            if (depth >= 0 && depth < house.tables && depth < MOST_TABLES) {
                for (int p = Math.max(from, 0); p < picks && p < MOST_WORDS; p++) {
                    chosen[depth] = pick[p];
                    take(pick[p]);
                    if (over <= limit) {
                        spread(depth + 1, p);
                    }
                    giveBack(pick[p]);
                }
            }
            if (adding) {
                judgeLack(depth);
            } else {
                judgePlan(depth);
            }
        }

        private void judgePlan(int depth) {
            rich = Math.max(rich, value);
            if (letters == people) {
                few = Math.min(few, depth);
            }
            if (letters > sat || letters == sat && value > gold) {
                sat = letters;
                gold = value;
                keep(depth);
            }
        }

        private void judgeLack(int depth) {
            if (letters - over == people && over <= limit) {
                lack = over;
                limit = over - 1;
                keep(depth);
            }
        }

        private void keep(int depth) {
            for (int t = 0; t < MOST_TABLES; t++) {
                found[t] = t < depth ? chosen[t] : EMPTY;
            }
        }

        private void take(int w) {
            int[] row = house.glyphsOf(w);
            for (int i = 0; i < row.length && row[i] >= 0 && row[i] < ALPHABET; i++) {
                over += left[row[i]] > 0 ? 0 : 1;
                left[row[i]]--;
                letters++;
            }
            value += house.valueOf(w);
        }

        private void giveBack(int w) {
            int[] row = house.glyphsOf(w);
            for (int i = 0; i < row.length && row[i] >= 0 && row[i] < ALPHABET; i++) {
                left[row[i]]++;
                over -= left[row[i]] > 0 ? 0 : 1;
                letters--;
            }
            value -= house.valueOf(w);
        }

        int foundAt(int i) {
            return i >= 0 && i < MOST_TABLES ? found[i] : EMPTY;
        }

        /** The i-th letter lacking, rising: those that the plan found has taken beyond what is there. */
        int lackingAt(int i) {
            int before = 0;
            for (int letter = 0; letter < ALPHABET; letter++) {
                before += Math.max(0, -left[letter]);
                if (i < before) {
                    return letter;
                }
            }
            return NONE;
        }
    }

    /** A night as it stands: what the tables are, who has come, who of them sits. */
    private static final class Night {
        int hostNumber;
        int came;
        int seated;
        private final int[] at = new int[MOST_TABLES];

        Night() {
            Arrays.fill(at, EMPTY);
        }

        void begin(int host) {
            hostNumber = host;
            came = 0;
            seated = 0;
            Arrays.fill(at, EMPTY);
        }

        void copyFrom(Night other) {
            hostNumber = other.hostNumber;
            came = other.came;
            seated = other.seated;
            System.arraycopy(other.at, 0, at, 0, MOST_TABLES);
        }

        int at(int t) {
            return t >= 0 && t < MOST_TABLES ? at[t] : EMPTY;
        }

        void sitDown(int t, int w) {
            if (t >= 0 && t < MOST_TABLES) {
                at[t] = w;
                seated |= 1 << came;
                came++;
            }
        }

        void leaveStanding() {
            came++;
        }

        int standingBits() {
            return (1 << came) - 1 & ~seated;
        }

        /** The i-th guest that sits, NONE if there is none such. */
        int seatedGuest(int i) {
            int ahead = 0;
            for (int g = 0; g < came; g++) {
                if ((seated >> g & 1) == 1) {
                    if (ahead == i) {
                        return g;
                    }
                    ahead++;
                }
            }
            return NONE;
        }
    }

    /** What can still come of tables, whose order doesn't matter: kept for every three kinds that rise. */
    private static final class Future {
        private static final int SLOTS = KINDS * (KINDS + 1) * (KINDS + 2) / 6;

        private final House house;
        private final Growth growth;
        // Four bits for each guest: how many from that one on can sit, and one more; 0 isn't known yet.
        private final int[] sitting = new int[SLOTS];
        // The mean times the whole weight, and one more; 0 isn't known yet.
        private final int[] hopes = new int[MOST_HOPE * SLOTS];
        private boolean sittingUsed;
        private boolean hopesUsed;

        Future(House house, Growth growth) {
            this.house = house;
            this.growth = growth;
        }

        void forget() {
            if (sittingUsed) {
                Arrays.fill(sitting, 0);
                sittingUsed = false;
            }
            if (hopesUsed) {
                Arrays.fill(hopes, 0);
                hopesUsed = false;
            }
        }

        /** How many of all guests can sit at most, if all tables are empty. */
        int fromBeginning() {
            return mostFrom(0, EMPTY, EMPTY, EMPTY);
        }

        /** How many of the guests behind the night's next one can sit, if table t (none of them: NONE) becomes v. */
        int behindNext(Night night, int t, int v) {
            return mostFrom(night.came + 1, t == 0 ? v : night.at(0), t == 1 ? v : night.at(1), t == 2 ? v : night.at(2));
        }

        /** The hope of k letters from the night's tables, times the k-th power of the whole weight. */
        int hopeFrom(Night night, int k) {
            return hoped(k, night.at(0), night.at(1), night.at(2));
        }

        /** How many of the guests from g on can sit at most, if the tables are a, b and c. */
        private int mostFrom(int g, int a, int b, int c) {
            int low = Math.min(a, Math.min(b, c));
            int high = Math.max(a, Math.max(b, c));
            int mid = a + b + c - low - high;
            if (g < 0 || g >= house.guests || low < 0 || high >= KINDS) {
                return 0;
            }
            int slot = slotOf(low, mid, high);
            int shift = 4 * g;
            int kept = sitting[slot] >>> shift & 15;
            if (kept > 0) {
                return kept - 1;
            }
            int most = Math.max(mostFrom(g + 1, low, mid, high), mostSeated(g, low, mid, high));
            if (house.tables > 1 && mid != low) {
                most = Math.max(most, mostSeated(g, mid, low, high));
            }
            if (house.tables > 2 && high != mid) {
                most = Math.max(most, mostSeated(g, high, low, mid));
            }
            sitting[slot] |= most + 1 << shift;
            sittingUsed = true;
            return most;
        }

        /** The same if guest g sits at the table that is w; 0 if that can't be. */
        private int mostSeated(int g, int w, int other, int third) {
            int letter = house.firstOf(g);
            int most = 0;
            for (int i = 0; i < growth.ups(w); i++) {
                if (growth.byOf(w, i) == letter) {
                    most = Math.max(most, 1 + mostFrom(g + 1, growth.upOf(w, i), other, third));
                }
            }
            return most;
        }

        private int hoped(int k, int a, int b, int c) {
            int low = Math.min(a, Math.min(b, c));
            int high = Math.max(a, Math.max(b, c));
            int mid = a + b + c - low - high;
            if (k < 1 || k > MOST_HOPE || low < 0 || high >= KINDS) {
                return 0;
            }
            int slot = (k - 1) * SLOTS + slotOf(low, mid, high);
            if (hopes[slot] > 0) {
                return hopes[slot] - 1;
            }
            int left = hoped(k - 1, low, mid, high);
            int sum = 0;
            for (int i = 0; i < house.likelies; i++) {
                int letter = house.likelyOf(i);
                int top = Math.max(left, hopedSeated(k, letter, low, mid, high));
                if (house.tables > 1 && mid != low) {
                    top = Math.max(top, hopedSeated(k, letter, mid, low, high));
                }
                if (house.tables > 2 && high != mid) {
                    top = Math.max(top, hopedSeated(k, letter, high, low, mid));
                }
                sum += house.weightOf(i) * top;
            }
            hopes[slot] = sum + 1;
            hopesUsed = true;
            return sum;
        }

        /** The same if the first letter has come and sits at the table that is w; 0 if that can't be. */
        private int hopedSeated(int k, int letter, int w, int other, int third) {
            int top = 0;
            for (int i = 0; i < growth.ups(w); i++) {
                if (growth.byOf(w, i) == letter) {
                    top = Math.max(top, weightOf(k - 1) + hoped(k - 1, growth.upOf(w, i), other, third));
                }
            }
            return top;
        }

        /** The k-th power of the whole weight. */
        int weightOf(int k) {
            int sum = 0;
            for (int i = 0; i < house.likelies; i++) {
                sum += house.weightOf(i);
            }
            int power = 1;
            for (int i = 0; i < k && i < MOST_HOPE; i++) {
                power *= sum;
            }
            return power;
        }

        private static int slotOf(int low, int mid, int high) {
            int slot = high * (high + 1) * (high + 2) / 6 + mid * (mid + 1) / 2 + low;
            return slot < 0 || slot >= SLOTS ? 0 : slot;
        }
    }

    /** Who seats guests, each by the night's host. */
    private static final class Steward {
        private final House house;
        private final Growth growth;
        private final Future future;

        Steward(House house, Growth growth, Future future) {
            this.house = house;
            this.growth = growth;
            this.future = future;
        }

        /** The next guest comes, if there is one. */
        void receive(Night night) {
            if (!house.isGuest(night.came)) {
                return;
            }
            int letter = house.firstOf(night.came);
            int table = NONE;
            int word = NONE;
            int top = 0;
            for (int t = 0; t < house.tables; t++) {
                int w = night.at(t);
                for (int i = 0; i < growth.ups(w); i++) {
                    if (growth.byOf(w, i) == letter) {
                        int score = scoreOf(night, t, growth.upOf(w, i));
                        if (table < 0 || score > top) {
                            table = t;
                            word = growth.upOf(w, i);
                            top = score;
                        }
                    }
                }
            }
            if (table < 0 || night.hostNumber == WISE && future.behindNext(night, NONE, EMPTY) > top) {
                night.leaveStanding();
            } else {
                night.sitDown(table, word);
            }
        }

        private int scoreOf(Night night, int t, int v) {
            switch (night.hostNumber) {
                case LONG: return growth.chainOf(v);
                case DEAR: return house.valueOf(v) - house.valueOf(night.at(t));
                case WISE: return 1 + future.behindNext(night, t, v);
                default: return 0;
            }
        }
    }

    /**
     * The way from tables to tables by sitting down and getting up, all tables being one code. Each step brings one
     * table nearer to what it shall be, or farther from it: ways are looked for in the order of how often that is so.
     */
    private static final class Stairs {
        private static final int CODES = KINDS * KINDS * KINDS;
        private static final int BITS = 32;

        private final House house;
        private final Growth growth;
        // How many stand by each letter while a code is looked at; else all who have come.
        private final int[] stands = new int[ALPHABET];
        // How far each table's kinds are from what it shall be, if letters and those standing didn't matter.
        private final int[][] away = new int[MOST_TABLES][KINDS];
        private final int[] queue = new int[KINDS];
        // Codes with as few steps back as can be, and those with one more; each is put into either once.
        private int[] now = new int[CODES];
        private int[] later = new int[CODES];
        private final int[] wasNow = new int[CODES / BITS + 1];
        private final int[] wasLater = new int[CODES / BITS + 1];
        private int nowCount;
        private int laterCount;
        private int people;
        private int limit;

        Stairs(House house, Growth growth) {
            this.house = house;
            this.growth = growth;
        }

        int codeOf(int a, int b, int c) {
            return (a * KINDS + b) * KINDS + c;
        }

        private static int kindAt(int code, int t) {
            return t == 0 ? code / (KINDS * KINDS) : t == 1 ? code / KINDS % KINDS : code % KINDS;
        }

        private static int placeOf(int t) {
            return t == 0 ? KINDS * KINDS : t == 1 ? KINDS : 1;
        }

        int climb(Night night, int goal, int up) {
            int begin = codeOf(night.at(0), night.at(1), night.at(2));
            if (begin == goal) {
                return 0;
            }
            gather(night);
            limit = up;
            int nearest = awayFrom(begin, goal);
            if (nearest < 0 || !canBe(goal)) {
                return NO_WAY;
            }
            Arrays.fill(wasNow, 0);
            Arrays.fill(wasLater, 0);
            nowCount = 0;
            laterCount = 0;
            putNow(begin);
            // A step back must be made good by another one: two steps more.
            for (int far = nearest; far <= 2 * CODES && nowCount > 0; far += 2) {
                goOnAll();
                if (isIn(wasNow, goal)) {
                    return far;
                }
                takeLater();
            }
            return NO_WAY;
        }

        private void gather(Night night) {
            Arrays.fill(stands, 0);
            people = night.came;
            for (int g = 0; g < people; g++) {
                int letter = house.firstOf(g);
                if (letter >= 0 && letter < ALPHABET) {
                    stands[letter]++;
                }
            }
        }

        /** How many steps there are at least; NONE if a table can never become what it shall be. */
        private int awayFrom(int begin, int goal) {
            int sum = 0;
            for (int t = 0; t < house.tables && t < MOST_TABLES; t++) {
                measure(away[t], kindAt(goal, t));
                int far = farOf(t, kindAt(begin, t));
                if (far < 0) {
                    return NONE;
                }
                sum += far;
            }
            return sum;
        }

        private void measure(int[] far, int goal) {
            Arrays.fill(far, NONE);
            if (goal < 0 || goal >= KINDS || far.length < KINDS) {
                return;
            }
            far[goal] = 0;
            queue[0] = goal;
            int tail = 1;
            for (int head = 0; head < tail && head < KINDS; head++) {
                int w = queue[head];
                int ups = growth.ups(w);
                for (int i = 0; i < ups + growth.downs(w); i++) {
                    int v = i < ups ? growth.upOf(w, i) : growth.downOf(w, i - ups);
                    if (v >= 0 && v < KINDS && far[v] < 0 && tail < KINDS) {
                        far[v] = far[w] + 1;
                        queue[tail] = v;
                        tail++;
                    }
                }
            }
        }

        private int farOf(int t, int w) {
            return t >= 0 && t < MOST_TABLES && w >= 0 && w < KINDS ? away[t][w] : NONE;
        }

        /** Those at the tables of a code sit, or (by 1) are counted among all again. */
        private void shift(int code, int by) {
            for (int t = 0; t < MOST_TABLES; t++) {
                int[] row = house.glyphsOf(kindAt(code, t));
                for (int i = 0; i < row.length && row[i] >= 0 && row[i] < ALPHABET; i++) {
                    stands[row[i]] += by;
                }
            }
        }

        /** Whether there are letters for all its tables, and no more stand than may. */
        private boolean canBe(int code) {
            boolean can = standingAt(code) <= limit;
            shift(code, -1);
            for (int letter = 0; letter < ALPHABET; letter++) {
                can &= stands[letter] >= 0;
            }
            shift(code, 1);
            return can;
        }

        private boolean isStanding(int letter) {
            return letter >= 0 && letter < ALPHABET && stands[letter] > 0;
        }

        private int standingAt(int code) {
            return people - house.lengthOf(kindAt(code, 0)) - house.lengthOf(kindAt(code, 1))
                - house.lengthOf(kindAt(code, 2));
        }

        private void goOnAll() {
            for (int looked = 0; looked < CODES && nowCount > 0; looked++) {
                nowCount--;
                goOn(now[nowCount]);
            }
        }

        private void goOn(int code) {
            int standing = standingAt(code);
            shift(code, -1);
            for (int t = 0; t < house.tables; t++) {
                int w = kindAt(code, t);
                if (standing - 1 <= limit) {
                    for (int i = 0; i < growth.ups(w); i++) {
                        if (isStanding(growth.byOf(w, i))) {
                            step(code, t, w, growth.upOf(w, i));
                        }
                    }
                }
                if (standing + 1 <= limit) {
                    for (int i = 0; i < growth.downs(w); i++) {
                        step(code, t, w, growth.downOf(w, i));
                    }
                }
            }
            shift(code, 1);
        }

        private void step(int code, int t, int w, int v) {
            int other = code + (v - w) * placeOf(t);
            if (farOf(t, v) < farOf(t, w)) {
                putNow(other);
            } else {
                putLater(other);
            }
        }

        private void putNow(int code) {
            if (code >= 0 && code < CODES && nowCount < CODES && !isIn(wasNow, code)) {
                wasNow[code / BITS] |= 1 << code % BITS;
                now[nowCount] = code;
                nowCount++;
            }
        }

        private void putLater(int code) {
            if (code >= 0 && code < CODES && laterCount < CODES && !isIn(wasNow, code) && !isIn(wasLater, code)) {
                wasLater[code / BITS] |= 1 << code % BITS;
                later[laterCount] = code;
                laterCount++;
            }
        }

        private void takeLater() {
            int[] codes = later;
            int count = laterCount;
            later = now;
            now = codes;
            laterCount = 0;
            nowCount = 0;
            // What is left moves forward in the same row, never behind the one that is looked at.
            for (int i = 0; i < count && i < CODES; i++) {
                putNow(codes[i]);
            }
        }

        private static boolean isIn(int[] row, int code) {
            return code >= 0 && code / BITS < row.length && (row[code / BITS] >>> code % BITS & 1) == 1;
        }
    }

    /** What the words seen at one table tell of who sat there. */
    private static final class Sighting {
        private final House house;
        private final Growth growth;
        private final int[] left = new int[ALPHABET];

        Sighting(House house, Growth growth) {
            this.house = house;
            this.growth = growth;
        }

        int firstWrong() {
            for (int i = 0; i < house.seens; i++) {
                if (!house.isGood(house.seenOf(i)) || i > 0 && grownBy(i) < 0) {
                    return i;
                }
            }
            return NO_WAY;
        }

        private int grownBy(int i) {
            return growth.letterOf(house.seenOf(i - 1), house.seenOf(i));
        }

        /** How many rows of guests may have sat there, with one of them in it, or (NONE) all rows. */
        int rowsWith(int who) {
            if (firstWrong() >= 0) {
                return 0;
            }
            int length = house.lengthOf(house.seenOf(house.seens - 1));
            int rows = 0;
            for (int row = 0; row < 1 << house.guests; row++) {
                boolean has = who < 0 || (row >> who & 1) == 1;
                if (has && Integer.bitCount(row) == length && isRow(row)) {
                    rows++;
                }
            }
            return rows;
        }

        private boolean isRow(int row) {
            int began = house.lengthOf(house.seenOf(0));
            layOut(house.glyphsOf(house.seenOf(0)));
            int ahead = 0;
            for (int g = 0; g < house.guests; g++) {
                if ((row >> g & 1) == 1) {
                    int letter = house.firstOf(g);
                    boolean fits = ahead < began ? takes(letter) : grownBy(ahead - began + 1) == letter;
                    if (!fits) {
                        return false;
                    }
                    ahead++;
                }
            }
            return true;
        }

        private void layOut(int[] letters) {
            Arrays.fill(left, 0);
            for (int i = 0; i < letters.length && letters[i] >= 0 && letters[i] < ALPHABET; i++) {
                left[letters[i]]++;
            }
        }

        private boolean takes(int letter) {
            if (letter < 0 || letter >= ALPHABET || left[letter] < 1) {
                return false;
            }
            left[letter]--;
            return true;
        }
    }
}
