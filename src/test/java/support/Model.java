import java.math.BigInteger;
import java.util.ArrayDeque;
import java.util.ArrayList;
import java.util.Arrays;
import java.util.Collections;
import java.util.HashMap;
import java.util.HashSet;
import java.util.LinkedHashSet;
import java.util.List;
import java.util.Map;
import java.util.NoSuchElementException;
import java.util.Set;
import java.util.TreeSet;

/**
 * The document once more, read slowly: texts, lists and sets, everything found by trying all there is.
 * Random tests hold WordTables against it; nothing of it is shared with WordTables.
 */
final class Model {
    record Told(String text, int worth) { }

    record Night(int host, List<String> tables, int came, Set<Integer> sitting) { }

    private final StringBuilder tape = new StringBuilder();
    private int fault;
    private int place;
    private int trouble;

    private boolean open;
    private int tables;
    private int chairs;
    private String manner = "any";
    private List<Told> words = new ArrayList<>();
    private Set<String> barred = new HashSet<>();
    private List<Character> guests = new ArrayList<>();
    private Map<Character, Integer> likely = new HashMap<>();
    private List<String> seen = new ArrayList<>();
    private Night night = new Night(0, List.of(), 0, Set.of());
    private final List<Night> marks = new ArrayList<>();

    private int no(int number) {
        trouble = number;
        return -1;
    }

    private int yes(int answer) {
        trouble = 0;
        return answer;
    }

    // ---- the inn

    int feed(int... five) {
        if (tape.length() + 20 > 900) {
            return -1;
        }
        for (int number : five) {
            for (byte b : BigInteger.valueOf((number & 0xffffffffL) + (1L << 32)).toByteArray()) {
                tape.append((char) (b & 255));
            }
            tape.deleteCharAt(tape.length() - 5);
        }
        return tape.length();
    }

    int inn(int n) {
        if (n < 0 || n > tape.length()) {
            return no(2);
        }
        String text = tape.substring(0, n);
        tape.setLength(0);
        TextModel read = new TextModel(text);
        fault = read.fault;
        place = read.place;
        if (fault != 0) {
            return no(4);
        }
        open = true;
        tables = read.tables;
        chairs = read.chairs;
        manner = read.manner;
        words = read.words;
        barred = read.barred;
        guests = read.guests;
        likely = read.likely;
        seen = read.seen;
        begin(0);
        marks.clear();
        return yes(guests.size());
    }

    int fault() {
        return fault;
    }

    int where() {
        return trouble == 4 ? place : -1;
    }

    private void begin(int host) {
        night = new Night(host, Collections.nCopies(tables, ""), 0, Set.of());
    }

    // ---- words

    private boolean isWord(int w) {
        return w >= 0 && w < words.size();
    }

    private String text(int w) {
        return words.get(w).text();
    }

    private int numberOf(String word) {
        for (int w = 0; w < words.size(); w++) {
            if (text(w).equals(word)) {
                return w;
            }
        }
        return -2;
    }

    private boolean good(String word) {
        return numberOf(word) >= 0 && !barred.contains(word) && word.length() <= chairs;
    }

    private int worthOf(String word) {
        return word.isEmpty() ? 0 : words.get(numberOf(word)).worth();
    }

    /** All that a table can become by a letter, by numbers. */
    private List<String> grown(String from, char letter) {
        Set<String> made = new HashSet<>();
        for (int p = 0; p <= from.length(); p++) {
            boolean may = manner.equals("any") || p == from.length() || manner.equals("ends") && p == 0;
            if (may) {
                made.add(from.substring(0, p) + letter + from.substring(p));
            }
        }
        List<String> all = new ArrayList<>();
        for (Told t : words) {
            if (good(t.text()) && made.contains(t.text())) {
                all.add(t.text());
            }
        }
        return all;
    }

    private List<String> grownByAny(String from) {
        Set<Integer> all = new TreeSet<>();
        for (char c = 'a'; c <= 'z'; c++) {
            for (String s : grown(from, c)) {
                all.add(numberOf(s));
            }
        }
        return all.stream().map(this::text).toList();
    }

    int word(int w, int what) {
        if (!isWord(w) || what < 0 || what > 3) {
            return no(1);
        }
        String s = text(w);
        return yes(new int[] {s.length(), worthOf(s), barred.contains(s) ? 1 : 0, good(s) ? 1 : 0}[what]);
    }

    int letter(int w, int i) {
        return isWord(w) && i >= 0 && i < text(w).length() ? yes(text(w).charAt(i) - 'a') : no(1);
    }

    int grows(int word, int other) {
        if (!isWord(word) || !isWord(other)) {
            return no(1);
        }
        if (!good(text(word)) || !good(text(other))) {
            return no(5);
        }
        for (char c = 'a'; c <= 'z'; c++) {
            if (grown(text(word), c).contains(text(other))) {
                return yes(c - 'a');
            }
        }
        return yes(-2);
    }

    private int longest(String from) {
        int most = 0;
        for (String s : grownByAny(from)) {
            most = Math.max(most, 1 + longest(s));
        }
        return most;
    }

    int chain(int word) {
        return !isWord(word) ? no(1) : !good(text(word)) ? no(5) : yes(longest(text(word)));
    }

    /** All ladders of the fewest steps, found by lengthening every row that has no word twice. */
    private List<Integer> ladderOf(int word, int other) {
        List<List<Integer>> rows = new ArrayList<>();
        rows.add(List.of(word));
        Set<Integer> met = new HashSet<>(List.of(word));
        while (!rows.isEmpty()) {
            List<Integer> first = null;
            for (List<Integer> row : rows) {
                if (row.get(row.size() - 1) == other && (first == null || ahead(row, first))) {
                    first = row;
                }
            }
            if (first != null) {
                return first;
            }
            List<List<Integer>> longer = new ArrayList<>();
            Set<Integer> reached = new HashSet<>();
            for (List<Integer> row : rows) {
                String last = text(row.get(row.size() - 1));
                for (int v = 0; v < words.size(); v++) {
                    boolean step = good(text(v)) && (grownByAny(last).contains(text(v)) || grownByAny(text(v)).contains(last));
                    if (step && !met.contains(v)) {
                        List<Integer> more = new ArrayList<>(row);
                        more.add(v);
                        longer.add(more);
                        reached.add(v);
                    }
                }
            }
            met.addAll(reached);
            rows = longer;
        }
        return null;
    }

    private static boolean ahead(List<Integer> row, List<Integer> other) {
        for (int i = 0; i < row.size(); i++) {
            if (!row.get(i).equals(other.get(i))) {
                return row.get(i) < other.get(i);
            }
        }
        return false;
    }

    int ladder(int word, int other) {
        if (!isWord(word) || !isWord(other)) {
            return no(1);
        }
        if (!good(text(word)) || !good(text(other))) {
            return no(5);
        }
        List<Integer> row = ladderOf(word, other);
        return yes(row == null ? -2 : row.size() - 1);
    }

    int rung(int word, int other, int i) {
        if (!isWord(word) || !isWord(other) || i < 0) {
            return no(1);
        }
        if (!good(text(word)) || !good(text(other))) {
            return no(5);
        }
        List<Integer> row = ladderOf(word, other);
        return row == null ? no(6) : i >= row.size() ? no(1) : yes(row.get(i));
    }

    private int nim(String from) {
        Set<Integer> has = new HashSet<>();
        for (String s : grownByAny(from)) {
            has.add(nim(s));
        }
        int least = 0;
        while (has.contains(least)) {
            least++;
        }
        return least;
    }

    int grundy(int word) {
        if (!open || word != -1 && !isWord(word)) {
            return no(1);
        }
        return word == -1 ? yes(nim("")) : good(text(word)) ? yes(nim(text(word))) : no(5);
    }

    // ---- all at once

    private List<List<Integer>> allRows() {
        List<List<Integer>> rows = new ArrayList<>();
        rows.add(List.of());
        List<List<Integer>> last = rows;
        for (int t = 0; t < tables; t++) {
            List<List<Integer>> longer = new ArrayList<>();
            for (List<Integer> row : last) {
                for (int w = row.isEmpty() ? 0 : row.get(row.size() - 1); w < words.size(); w++) {
                    if (good(text(w))) {
                        List<Integer> more = new ArrayList<>(row);
                        more.add(w);
                        longer.add(more);
                    }
                }
            }
            last = longer;
            rows = new ArrayList<>(rows);
            rows.addAll(longer);
        }
        return rows;
    }

    private String lettersOf(List<Integer> row) {
        StringBuilder all = new StringBuilder();
        for (int w : row) {
            all.append(text(w));
        }
        return all.toString();
    }

    /** What of a text is left if each sign of another is struck out of it once. */
    private static String less(String from, String what) {
        StringBuilder left = new StringBuilder(from);
        for (char c : what.toCharArray()) {
            int at = left.indexOf(String.valueOf(c));
            if (at >= 0) {
                left.deleteCharAt(at);
            }
        }
        return left.toString();
    }

    private String here() {
        StringBuilder all = new StringBuilder();
        for (char c : guests) {
            all.append(c);
        }
        return all.toString();
    }

    private List<List<Integer>> plans(String letters) {
        List<List<Integer>> all = new ArrayList<>();
        for (List<Integer> row : allRows()) {
            if (less(lettersOf(row), letters).isEmpty()) {
                all.add(row);
            }
        }
        return all;
    }

    private int worthOf(List<Integer> row) {
        int sum = 0;
        for (int w : row) {
            sum += words.get(w).worth();
        }
        return sum;
    }

    private static List<Integer> filled(List<Integer> row) {
        List<Integer> full = new ArrayList<>(row);
        while (full.size() < 3) {
            full.add(1000);
        }
        return full;
    }

    private List<Integer> best(String letters) {
        List<Integer> best = List.of();
        for (List<Integer> row : plans(letters)) {
            int more = lettersOf(row).length() - lettersOf(best).length();
            more = more != 0 ? more : worthOf(row) - worthOf(best);
            if (more > 0 || more == 0 && ahead(filled(row), filled(best))) {
                best = row;
            }
        }
        return best;
    }

    int most() {
        return open ? yes(lettersOf(best(here())).length()) : no(1);
    }

    int worth() {
        return open ? yes(worthOf(best(here()))) : no(1);
    }

    int plan(int i) {
        if (!open || i < 0 || i >= tables) {
            return no(1);
        }
        List<Integer> row = best(here());
        return yes(i < row.size() ? row.get(i) : -2);
    }

    int richest() {
        return open ? yes(plans(here()).stream().mapToInt(this::worthOf).max().orElse(0)) : no(1);
    }

    int fewest() {
        if (!open) {
            return no(1);
        }
        return yes(plans(here()).stream().filter(r -> lettersOf(r).length() == guests.size()).mapToInt(List::size).min().orElse(-2));
    }

    private String lack() {
        List<Integer> best = null;
        for (List<Integer> row : allRows()) {
            if (less(here(), lettersOf(row)).isEmpty()) {
                int more = best == null ? 1 : less(lettersOf(best), here()).length() - less(lettersOf(row), here()).length();
                if (more > 0 || more == 0 && ahead(filled(row), filled(best))) {
                    best = row;
                }
            }
        }
        if (best == null) {
            return null;
        }
        char[] letters = less(lettersOf(best), here()).toCharArray();
        Arrays.sort(letters);
        return new String(letters);
    }

    int wanted() {
        if (!open) {
            return no(1);
        }
        String lack = lack();
        return yes(lack == null ? -2 : lack.length());
    }

    int wants(int i) {
        if (!open || i < 0) {
            return no(1);
        }
        String lack = lack();
        return lack == null ? no(6) : i >= lack.length() ? no(1) : yes(lack.charAt(i) - 'a');
    }

    int gains(int letter) {
        if (!open) {
            return no(1);
        }
        if (letter < 0 || letter > 25) {
            return no(2);
        }
        int more = lettersOf(best(here() + (char) ('a' + letter))).length();
        return yes(more - lettersOf(best(here())).length());
    }

    // ---- a night

    private record Way(int table, String word) { }

    private List<Way> waysToSit(List<String> at, char letter) {
        List<Way> all = new ArrayList<>();
        for (int t = 0; t < at.size(); t++) {
            for (String s : grown(at.get(t), letter)) {
                all.add(new Way(t, s));
            }
        }
        return all;
    }

    private static List<String> with(List<String> at, Way way) {
        List<String> other = new ArrayList<>(at);
        other.set(way.table(), way.word());
        return other;
    }

    private int mostOf(List<Character> coming, List<String> at, Map<Object, Integer> known) {
        if (coming.isEmpty()) {
            return 0;
        }
        Object key = List.of(coming.size(), at);
        Integer kept = known.get(key);
        if (kept != null) {
            return kept;
        }
        List<Character> rest = coming.subList(1, coming.size());
        int most = mostOf(rest, at, known);
        for (Way way : waysToSit(at, coming.get(0))) {
            most = Math.max(most, 1 + mostOf(rest, with(at, way), known));
        }
        known.put(key, most);
        return most;
    }

    private Night received(Night n) {
        char letter = guests.get(n.came());
        List<Character> rest = guests.subList(n.came() + 1, guests.size());
        Map<Object, Integer> known = new HashMap<>();
        Way best = null;
        int top = 0;
        for (Way way : waysToSit(n.tables(), letter)) {
            int score = switch (n.host()) {
                case 1 -> longest(way.word());
                case 2 -> worthOf(way.word()) - worthOf(n.tables().get(way.table()));
                case 3 -> 1 + mostOf(rest, with(n.tables(), way), known);
                default -> 0;
            };
            if (best == null || score > top) {
                best = way;
                top = score;
            }
        }
        if (n.host() == 3 && mostOf(rest, n.tables(), known) > top) {
            best = null;
        }
        return best == null ? stood(n) : satDown(n, best);
    }

    private static Night stood(Night n) {
        return new Night(n.host(), n.tables(), n.came() + 1, n.sitting());
    }

    private static Night satDown(Night n, Way way) {
        Set<Integer> sitting = new TreeSet<>(n.sitting());
        sitting.add(n.came());
        return new Night(n.host(), with(n.tables(), way), n.came() + 1, sitting);
    }

    boolean night(int host) {
        if (!open || host < 0 || host > 3) {
            return no(1) == 0;
        }
        begin(host);
        return yes(1) == 1;
    }

    int come(int n) {
        if (!open) {
            return no(1);
        }
        if (n < 1 || n > 8) {
            return no(2);
        }
        if (night.came() == guests.size()) {
            return no(6);
        }
        int came = 0;
        while (came < n && night.came() < guests.size()) {
            night = received(night);
            came++;
        }
        return yes(came);
    }

    boolean seat(int table, int word) {
        if (!open || table < 0 || table >= tables || !isWord(word)) {
            return no(1) == 0;
        }
        if (night.came() == guests.size()) {
            return no(6) == 0;
        }
        Way way = new Way(table, text(word));
        if (!waysToSit(night.tables(), guests.get(night.came())).contains(way)) {
            return no(5) == 0;
        }
        night = satDown(night, way);
        return yes(1) == 1;
    }

    boolean stand() {
        if (!open) {
            return no(1) == 0;
        }
        if (night.came() == guests.size()) {
            return no(6) == 0;
        }
        night = stood(night);
        return yes(1) == 1;
    }

    int can() {
        if (!open) {
            return no(1);
        }
        return night.came() == guests.size() ? no(6) : yes(waysToSit(night.tables(), guests.get(night.came())).size());
    }

    int table(int t) {
        return open && t >= 0 && t < tables ? yes(numberOf(night.tables().get(t))) : no(1);
    }

    int standing() {
        if (!open) {
            return no(1);
        }
        int bits = 0;
        for (int g = 0; g < night.came(); g++) {
            bits += night.sitting().contains(g) ? 0 : 1 << g;
        }
        return yes(bits);
    }

    /** Every order of the guests that is another row of letters, each a night of its own. */
    private int mostInAnyOrder(List<Character> ahead, List<Character> left) {
        if (left.isEmpty()) {
            return mostOf(ahead, Collections.nCopies(tables, ""), new HashMap<>());
        }
        int most = 0;
        for (char c : new LinkedHashSet<>(left)) {
            List<Character> longer = new ArrayList<>(ahead);
            longer.add(c);
            List<Character> rest = new ArrayList<>(left);
            rest.remove((Character) c);
            most = Math.max(most, mostInAnyOrder(longer, rest));
        }
        return most;
    }

    /** Any guest may come next: the sets of those left with the tables that there are. */
    private int mostOfSet(List<String> at, String left, Map<Object, Integer> known) {
        Object key = List.of(at, left);
        Integer kept = known.get(key);
        if (kept != null) {
            return kept;
        }
        int most = 0;
        for (char c : left.toCharArray()) {
            for (Way way : waysToSit(at, c)) {
                most = Math.max(most, 1 + mostOfSet(with(at, way), less(left, String.valueOf(c)), known));
            }
        }
        known.put(key, most);
        return most;
    }

    int ever() {
        if (!open) {
            return no(1);
        }
        if (guests.size() <= 4) {
            return yes(mostInAnyOrder(List.of(), guests));
        }
        return yes(mostOfSet(Collections.nCopies(tables, ""), here(), new HashMap<>()));
    }

    private int riseOf(String word) {
        int least = word.length();
        for (Told t : words) {
            if (good(t.text()) && grownByAny(t.text()).contains(word)) {
                least = Math.min(least, riseOf(t.text()));
            }
        }
        return least;
    }

    int rises(int word) {
        return !isWord(word) ? no(1) : good(text(word)) ? yes(riseOf(text(word))) : no(5);
    }

    int steps(int a, int b, int c, int up) {
        int[] told = {a, b, c};
        if (!open) {
            return no(1);
        }
        for (int t = 0; t < 3; t++) {
            if (told[t] != -1 && (t >= tables || !isWord(told[t]))) {
                return no(1);
            }
        }
        if (up < 0 || up > 8) {
            return no(2);
        }
        List<String> goal = new ArrayList<>();
        for (int t = 0; t < tables; t++) {
            if (told[t] != -1 && !good(text(told[t]))) {
                return no(5);
            }
            goal.add(told[t] == -1 ? "" : text(told[t]));
        }
        return yes(stepsTo(goal, up));
    }

    /** Breadth first; a state tells at which table (-1: none) each guest is, and what the tables are. */
    private int stepsTo(List<String> goal, int up) {
        record State(List<String> at, String standing) { }
        StringBuilder stand = new StringBuilder();
        for (int g = 0; g < night.came(); g++) {
            if (!night.sitting().contains(g)) {
                stand.append(guests.get(g));
            }
        }
        State first = new State(night.tables(), sorted(stand.toString()));
        Map<State, Integer> far = new HashMap<>(Map.of(first, 0));
        ArrayDeque<State> queue = new ArrayDeque<>(List.of(first));
        while (!queue.isEmpty()) {
            State now = queue.remove();
            if (now.at().equals(goal)) {
                return far.get(now);
            }
            List<State> next = new ArrayList<>();
            for (char c : now.standing().toCharArray()) {
                for (Way way : waysToSit(now.at(), c)) {
                    next.add(new State(with(now.at(), way), sorted(less(now.standing(), String.valueOf(c)))));
                }
            }
            for (int t = 0; t < tables; t++) {
                String word = now.at().get(t);
                for (int p = 0; p < word.length(); p++) {
                    String shorter = word.substring(0, p) + word.substring(p + 1);
                    char c = word.charAt(p);
                    if ((shorter.isEmpty() || good(shorter)) && grown(shorter, c).contains(word)) {
                        next.add(new State(with(now.at(), new Way(t, shorter)), sorted(now.standing() + c)));
                    }
                }
            }
            for (State s : next) {
                if (s.standing().length() <= up && !far.containsKey(s)) {
                    far.put(s, far.get(now) + 1);
                    queue.add(s);
                }
            }
        }
        return -2;
    }

    private static String sorted(String s) {
        char[] signs = s.toCharArray();
        Arrays.sort(signs);
        return new String(signs);
    }

    int able() {
        return open ? yes(mostOf(guests, Collections.nCopies(tables, ""), new HashMap<>())) : no(1);
    }

    int sits(int host) {
        if (!open || host < 0 || host > 3) {
            return no(1);
        }
        Night n = new Night(host, Collections.nCopies(tables, ""), 0, Set.of());
        for (int g = 0; g < guests.size(); g++) {
            n = received(n);
        }
        return yes(n.sitting().size());
    }

    private record Part(BigInteger upper, BigInteger lower) {
        Part plus(Part o) {
            return of(upper.multiply(o.lower).add(o.upper.multiply(lower)), lower.multiply(o.lower));
        }

        Part times(long up, long low) {
            return of(upper.multiply(BigInteger.valueOf(up)), lower.multiply(BigInteger.valueOf(low)));
        }

        boolean moreThan(Part o) {
            return upper.multiply(o.lower).compareTo(o.upper.multiply(lower)) > 0;
        }

        static Part of(BigInteger up, BigInteger low) {
            BigInteger g = up.gcd(low);
            return new Part(up.divide(g), low.divide(g));
        }

        static Part whole(long n) {
            return new Part(BigInteger.valueOf(n), BigInteger.ONE);
        }
    }

    private Part mean(int k, List<String> at, Map<Object, Part> known) {
        if (k == 0) {
            return Part.whole(0);
        }
        Object key = List.of(k, at);
        if (known.containsKey(key)) {
            return known.get(key);
        }
        long all = likely.values().stream().mapToInt(i -> i).sum();
        Part sum = Part.whole(0);
        for (char c : likely.keySet()) {
            Part top = mean(k - 1, at, known);
            for (Way way : waysToSit(at, c)) {
                Part seated = Part.whole(1).plus(mean(k - 1, with(at, way), known));
                top = seated.moreThan(top) ? seated : top;
            }
            sum = sum.plus(top.times(likely.get(c), all));
        }
        known.put(key, sum);
        return sum;
    }

    long hope(int k, boolean lower) {
        if (!open) {
            return no(1);
        }
        if (k < 1 || k > 4) {
            return no(2);
        }
        if (likely.isEmpty()) {
            return no(6);
        }
        yes(0);
        Part mean = mean(k, night.tables(), new HashMap<>());
        return (lower ? mean.lower() : mean.upper()).longValueExact();
    }

    private int xor(List<String> at) {
        int all = 0;
        for (String s : at) {
            all ^= nim(s);
        }
        return all;
    }

    int game() {
        return open ? yes(xor(night.tables())) : no(1);
    }

    /** Whether who has the turn can win, by playing on. */
    private boolean wins(List<String> at, Map<Object, Boolean> known) {
        List<String> key = new ArrayList<>(at);
        Collections.sort(key);
        Boolean kept = known.get(key);
        if (kept != null) {
            return kept;
        }
        boolean won = false;
        for (int t = 0; t < tables && !won; t++) {
            for (String s : grownByAny(at.get(t))) {
                if (!wins(with(at, new Way(t, s)), known)) {
                    won = true;
                    break;
                }
            }
        }
        known.put(key, won);
        return won;
    }

    int move() {
        if (!open) {
            return no(1);
        }
        Map<Object, Boolean> known = new HashMap<>();
        for (int t = 0; t < tables; t++) {
            for (String s : grownByAny(night.tables().get(t))) {
                if (!wins(with(night.tables(), new Way(t, s)), known)) {
                    return yes(24 * t + numberOf(s));
                }
            }
        }
        return yes(-2);
    }

    int mark() {
        if (!open) {
            return no(1);
        }
        if (marks.size() == 3) {
            return no(3);
        }
        marks.add(night);
        return yes(marks.size() - 1);
    }

    boolean back(int mark) {
        if (mark < 0 || mark >= marks.size()) {
            return no(1) == 0;
        }
        night = marks.get(mark);
        return yes(1) == 1;
    }

    // ---- an evening seen

    private int firstWrong() {
        for (int i = 0; i < seen.size(); i++) {
            if (!good(seen.get(i)) || i > 0 && !grownByAny(seen.get(i - 1)).contains(seen.get(i))) {
                return i;
            }
        }
        return -2;
    }

    int wrong() {
        return !open ? no(1) : seen.isEmpty() ? no(6) : yes(firstWrong());
    }

    /** All rows of guests in their order, as long as the last word, that tell the words seen. */
    private List<List<Integer>> rows() {
        List<List<Integer>> all = new ArrayList<>();
        if (firstWrong() == -2) {
            lengthen(List.of(), 0, all);
        }
        return all;
    }

    private void lengthen(List<Integer> row, int from, List<List<Integer>> all) {
        int begun = seen.get(0).length();
        if (row.size() == seen.get(seen.size() - 1).length()) {
            StringBuilder first = new StringBuilder();
            for (int g : row.subList(0, begun)) {
                first.append(guests.get(g));
            }
            boolean tells = sorted(first.toString()).equals(sorted(seen.get(0)));
            for (int i = 1; i < seen.size(); i++) {
                tells &= less(seen.get(i), seen.get(i - 1)).charAt(0) == guests.get(row.get(begun + i - 1));
            }
            if (tells) {
                all.add(row);
            }
            return;
        }
        for (int g = from; g < guests.size(); g++) {
            List<Integer> longer = new ArrayList<>(row);
            longer.add(g);
            lengthen(longer, g + 1, all);
        }
    }

    int ways() {
        return !open ? no(1) : seen.isEmpty() ? no(6) : yes(rows().size());
    }

    int waysOf(int guest) {
        if (!open || guest < 0 || guest >= guests.size()) {
            return no(1);
        }
        return seen.isEmpty() ? no(6) : yes((int) rows().stream().filter(r -> r.contains(guest)).count());
    }

    // ---- acts

    boolean rename(int guest, int letter) {
        if (!open || guest < 0 || guest >= guests.size()) {
            return no(1) == 0;
        }
        if (letter < 0 || letter > 25) {
            return no(2) == 0;
        }
        char c = (char) ('a' + letter);
        if (guests.get(guest) == c) {
            return no(5) == 0;
        }
        guests.set(guest, c);
        marks.clear();
        begin(night.host());
        return yes(1) == 1;
    }

    boolean bar(int word, boolean is) {
        if (!isWord(word)) {
            return no(1) == 0;
        }
        if (barred.contains(text(word)) == is) {
            return no(5) == 0;
        }
        if (is) {
            barred.add(text(word));
        } else {
            barred.remove(text(word));
        }
        marks.clear();
        begin(night.host());
        return yes(1) == 1;
    }

    // ---- what is seen

    int guest(int g) {
        return g >= 0 && g < guests.size() ? yes(guests.get(g) - 'a') : no(1);
    }

    int led(int i) {
        List<Integer> sitting = new ArrayList<>(night.sitting());
        if (i < 0 || i >= sitting.size()) {
            throw new NoSuchElementException();
        }
        return sitting.get(i);
    }

    int size(int what) {
        int[] sizes = {tables, chairs, words.size(), guests.size(), likely.size(), seen.size(), night.came(), night.host(),
            marks.size(), tape.length()};
        return what >= 0 && what < sizes.length ? sizes[what] : -1;
    }

    int trouble() {
        return trouble;
    }
}
