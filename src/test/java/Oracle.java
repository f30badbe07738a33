import java.math.BigInteger;
import java.util.ArrayDeque;
import java.util.ArrayList;
import java.util.Arrays;
import java.util.Collections;
import java.util.HashSet;
import java.util.List;
import java.util.Set;
import java.util.regex.Matcher;
import java.util.regex.Pattern;

/** The document's promises, written a second time: every reading is listed, and everything is told from the list. */
final class Oracle {
    static final int UNKNOWN = -1, OUTSIDE = -2, STATE = -3, FULL = -4, NONE = -9;
    /** More readings than this are not listed; the test must then leave the queries about them out. */
    static final int LISTED = 60000;

    static final class State {
        char[] units = new char[0];
        Set<Integer> excluded = new HashSet<>();
        int[][] rules = {{1, 1, 1}, {1, 1, 1}, {1, 1, 1}};
        int[] weights = new int[0];

        State copy() {
            State s = new State();
            s.units = units.clone();
            s.excluded = new HashSet<>(excluded);
            s.rules = new int[][] {rules[0].clone(), rules[1].clone(), rules[2].clone()};
            s.weights = weights.clone();
            return s;
        }
    }

    record Sight(int word, int unit, int was) {
    }

    String text = "";
    int[] width = {1, 1, 1, 1, 1, 1, 1};
    List<String> spellings = new ArrayList<>();
    List<int[]> kindsAndEndings = new ArrayList<>();
    State state = new State();
    ArrayDeque<State> past = new ArrayDeque<>();
    List<Sight> sights = new ArrayList<>();
    State[] slots = new State[2];
    BigInteger random = BigInteger.ZERO;
    /** Set by judge if it would have had to list too many readings: its answer then says nothing. */
    boolean tooMany = false;

    // ---- the text

    private static final String PART = "d[a-f]{2,5}[0-2][0-2][1-9]|r[0-2][0-2][0-2]";
    private static final Pattern WHOLE = Pattern.compile("S[1-3]{6}((?:" + PART + ")*)(?:l([a-f.1-9]+))?", Pattern.DOTALL);
    private static final List<String> COMPLETIONS = completions();

    private static List<String> completions() {
        List<String> all = new ArrayList<>();
        all.add("");
        for (String s : new String[] {"S111111", "111111", "11111", "1111", "111", "11", "1", "aa001", "a001", "001", "01", "a"}) {
            all.add(s);
        }
        for (int p = 0; p < 3; p++) {
            all.add(p + "0");
            for (int q = 0; q < 3; q++) {
                all.add("" + p + q + "0");
            }
        }
        return all;
    }

    private static boolean valid(String t) {
        Matcher m = WHOLE.matcher(t);
        if (!m.matches()) {
            return false;
        }
        int words = 0;
        Set<String> rules = new HashSet<>();
        Matcher parts = Pattern.compile(PART).matcher(m.group(1));
        while (parts.find()) {
            if (parts.group().charAt(0) == 'd') {
                words++;
            } else if (!rules.add(parts.group().substring(1, 3))) {
                return false;
            }
        }
        int units = 0;
        String line = m.group(2) == null ? "" : m.group(2);
        for (char c : line.toCharArray()) {
            units += c == '.' ? 1 : Character.isDigit(c) ? c - '0' : t.charAt(1 + c - 'a') - '0';
        }
        return words <= 8 && units <= 24;
    }

    static int faultOf(String t) {
        for (int length = 1; length <= t.length(); length++) {
            String prefix = t.substring(0, length);
            boolean viable = false;
            for (String completion : COMPLETIONS) {
                viable = viable || valid(prefix + completion);
            }
            if (!viable) {
                return length - 1;
            }
        }
        return valid(t) ? NONE : t.length();
    }

    int write(int letter) {
        if (letter < 0 || letter > 255) {
            return OUTSIDE;
        }
        if (text.length() == 110) {
            return FULL;
        }
        text += (char) letter;
        return text.length();
    }

    int wipe() {
        int length = text.length();
        text = "";
        return length;
    }

    int fault() {
        return faultOf(text);
    }

    int stone() {
        if (!valid(text)) {
            return STATE;
        }
        Matcher m = WHOLE.matcher(text);
        m.matches();
        for (int i = 0; i < 6; i++) {
            width[i] = text.charAt(1 + i) - '0';
        }
        spellings.clear();
        kindsAndEndings.clear();
        state = new State();
        List<Integer> weights = new ArrayList<>();
        Matcher parts = Pattern.compile(PART).matcher(m.group(1));
        while (parts.find()) {
            String g = parts.group();
            int end = g.length();
            if (g.charAt(0) == 'd') {
                spellings.add(g.substring(1, end - 3));
                kindsAndEndings.add(new int[] {g.charAt(end - 3) - '0', g.charAt(end - 2) - '0'});
                weights.add(g.charAt(end - 1) - '0');
            } else {
                state.rules[g.charAt(1) - '0'][g.charAt(2) - '0'] = g.charAt(3) - '0';
            }
        }
        state.weights = weights.stream().mapToInt(i -> i).toArray();
        StringBuilder line = new StringBuilder();
        for (char c : (m.group(2) == null ? "" : m.group(2)).toCharArray()) {
            if (Character.isDigit(c)) {
                line.append("?".repeat(c - '0'));
            } else {
                line.append(c).append("-".repeat(c == '.' ? 0 : width[c - 'a'] - 1));
            }
        }
        state.units = line.toString().toCharArray();
        past.clear();
        slots = new State[2];
        return state.units.length;
    }

    boolean noWord(int word) {
        return word < 0 || word >= spellings.size();
    }

    boolean noUnit(int unit) {
        return unit < 0 || unit >= state.units.length;
    }

    int span(int word) {
        int sum = 0;
        for (char c : spellings.get(word).toCharArray()) {
            sum += width[c - 'a'];
        }
        return sum;
    }

    int word(int word, int what) {
        if (noWord(word)) {
            return UNKNOWN;
        }
        if (what < 0 || what > 6) {
            return OUTSIDE;
        }
        String s = spellings.get(word);
        return new int[] {s.length(), kindsAndEndings.get(word)[0], kindsAndEndings.get(word)[1], state.weights[word],
            span(word), state.excluded.contains(word) ? 1 : 0, s.charAt(s.length() - 1) - 'a'}[what];
    }

    int line(int unit) {
        return noUnit(unit) ? UNKNOWN : "abcdef.?-".indexOf(state.units[unit]);
    }

    int rule(int p, int q) {
        return p < 0 || p > 2 || q < 0 || q > 2 ? OUTSIDE : state.rules[p][q];
    }

    // ---- acts

    private void beforeAct() {
        past.addLast(state.copy());
        if (past.size() > 14) {
            past.removeFirst();
        }
    }

    int wear(int unit) {
        if (noUnit(unit)) {
            return UNKNOWN;
        }
        int sign = line(unit);
        if (sign > 6) {
            return STATE;
        }
        beforeAct();
        for (int i = 0; i < width[sign]; i++) {
            state.units[unit + i] = '?';
        }
        return sign;
    }

    int carve(int unit, int x) {
        if (noUnit(unit)) {
            return UNKNOWN;
        }
        if (x < 0 || x > 6) {
            return OUTSIDE;
        }
        for (int i = 0; i < width[x]; i++) {
            if (noUnit(unit + i) || state.units[unit + i] != '?') {
                return STATE;
            }
        }
        beforeAct();
        for (int i = 0; i < width[x]; i++) {
            state.units[unit + i] = i == 0 ? "abcdef.".charAt(x) : '-';
        }
        return count(3);
    }

    int bar(int word) {
        if (noWord(word)) {
            return UNKNOWN;
        }
        beforeAct();
        if (!state.excluded.remove(word)) {
            state.excluded.add(word);
        }
        return state.excluded.contains(word) ? 1 : 0;
    }

    int setRule(int p, int q, int v) {
        if (p < 0 || p > 2 || q < 0 || q > 2 || v < 0 || v > 2) {
            return OUTSIDE;
        }
        beforeAct();
        int old = state.rules[p][q];
        state.rules[p][q] = v;
        return old;
    }

    int weigh(int word, int v) {
        if (noWord(word)) {
            return UNKNOWN;
        }
        if (v < 1 || v > 9) {
            return OUTSIDE;
        }
        beforeAct();
        int old = state.weights[word];
        state.weights[word] = v;
        return old;
    }

    int undo() {
        if (past.isEmpty()) {
            return STATE;
        }
        state = past.removeLast();
        return past.size();
    }

    // ---- readings

    private boolean signCanLie(int unit, char sign, int units) {
        if (unit >= state.units.length) {
            return false;
        }
        if (state.units[unit] == sign) {
            return true;
        }
        for (int i = 0; i < units; i++) {
            if (unit + i >= state.units.length || state.units[unit + i] != '?') {
                return false;
            }
        }
        return true;
    }

    private boolean wordCanLie(int word, int unit) {
        int at = unit;
        for (char c : spellings.get(word).toCharArray()) {
            if (!signCanLie(at, c, width[c - 'a'])) {
                return false;
            }
            at += width[c - 'a'];
        }
        return true;
    }

    int lies(int word, int unit) {
        return noWord(word) || noUnit(unit) ? UNKNOWN : wordCanLie(word, unit) ? 1 : 0;
    }

    private boolean mayFollow(int first, int second) {
        int rule = state.rules[kindsAndEndings.get(first)[0]][kindsAndEndings.get(second)[0]];
        return rule == 1 || rule == 2 && kindsAndEndings.get(first)[1] == kindsAndEndings.get(second)[1];
    }

    private void extend(int unit, List<Integer> words, List<int[]> found) {
        if (found.size() > LISTED) {
            return;
        }
        for (int w = 0; w < spellings.size(); w++) {
            boolean follows = words.isEmpty() || mayFollow(words.get(words.size() - 1), w);
            if (state.excluded.contains(w) || !follows || !wordCanLie(w, unit)) {
                continue;
            }
            int end = unit + span(w);
            words.add(w);
            if (end == state.units.length) {
                found.add(words.stream().mapToInt(i -> i).toArray());
            } else if (signCanLie(end, '.', 1)) {
                extend(end + 1, words, found);
            }
            words.remove(words.size() - 1);
        }
    }

    int weightOf(int[] reading) {
        int sum = 0;
        for (int w : reading) {
            sum += state.weights[w];
        }
        return sum;
    }

    /** All readings, by rank; null if there are too many to list. */
    List<int[]> list() {
        List<int[]> found = new ArrayList<>();
        extend(0, new ArrayList<>(), found);
        if (found.size() > LISTED) {
            return null;
        }
        Collections.sort(found, (a, b) -> weightOf(a) != weightOf(b) ? weightOf(b) - weightOf(a) : Arrays.compare(a, b));
        return found;
    }

    /** What begins at each unit of a reading, as a sign; '-' where nothing begins. */
    private String spell(int[] reading) {
        StringBuilder s = new StringBuilder();
        for (int w : reading) {
            s.append(s.length() > 0 ? "." : "");
            for (char c : spellings.get(w).toCharArray()) {
                s.append(c).append("-".repeat(width[c - 'a'] - 1));
            }
        }
        return s.toString();
    }

    private boolean beginsIn(int[] reading, int word, int unit) {
        int at = 0;
        for (int w : reading) {
            if (at == unit && w == word) {
                return true;
            }
            at += span(w) + 1;
        }
        return false;
    }

    int rank(long rank, int k) {
        if (k < -2) {
            return OUTSIDE;
        }
        List<int[]> all = list();
        if (rank < 0 || rank >= all.size()) {
            return NONE;
        }
        int[] reading = all.get((int) rank);
        return k == -1 ? weightOf(reading) : k == -2 ? reading.length : k < reading.length ? reading[k] : NONE;
    }

    long stands(int unit, int x) {
        if (noUnit(unit)) {
            return UNKNOWN;
        }
        if (x < 0 || x > 6) {
            return OUTSIDE;
        }
        return list().stream().filter(r -> spell(r).charAt(unit) == "abcdef.".charAt(x)).count();
    }

    long begins(int word, int unit) {
        return noWord(word) || noUnit(unit) ? UNKNOWN : list().stream().filter(r -> beginsIn(r, word, unit)).count();
    }

    int sure(int unit) {
        if (noUnit(unit)) {
            return UNKNOWN;
        }
        List<int[]> all = list();
        Set<Character> seen = new HashSet<>();
        for (int[] r : all) {
            seen.add(spell(r).charAt(unit));
        }
        return seen.size() == 1 && !seen.contains('-') ? "abcdef.".indexOf(seen.iterator().next()) : NONE;
    }

    int judge(int n, long row) {
        tooMany = false;
        if (n < 1 || n > 3 || row < 0 || row >= (long) Math.pow(10, 5 * n)) {
            return OUTSIDE;
        }
        String digits = String.format("%0" + 5 * n + "d", row);
        State before = state.copy();
        ArrayDeque<State> pastBefore = new ArrayDeque<>(past);
        int answer = NONE;
        for (int i = 0; i < n && answer == NONE; i++) {
            if (!stated(digits.substring(5 * i, 5 * i + 5))) {
                answer = i;
            }
        }
        state = before;
        past = pastBefore;
        return answer;
    }

    private boolean stated(String s) {
        int a = s.charAt(1) - '0';
        int b = s.charAt(2) - '0';
        int c = s.charAt(3) - '0';
        int two = Integer.parseInt(s.substring(1, 3));
        int later = Integer.parseInt(s.substring(2, 4));
        if (s.matches("1..00")) {
            return wear(two) >= 0;
        } else if (s.matches("2...0")) {
            return carve(two, c) >= 0;
        } else if (s.matches("3.000")) {
            return bar(a) >= 0;
        } else if (s.matches("4...0")) {
            return setRule(a, b, c) >= 0;
        } else if (s.matches("5...0")) {
            return lies(a, later) == 1;
        } else if (s.matches("6..00")) {
            List<int[]> all = list();
            return all != null && all.size() <= two;
        } else if (s.matches("7...0")) {
            tooMany = tooMany || list() == null;
            return c <= 6 && !tooMany && sure(two) == c;
        }
        return false;
    }

    // ---- observations

    int see(int word, int unit, int was) {
        if (noWord(word) || noUnit(unit)) {
            return UNKNOWN;
        }
        if (was != 0 && was != 1) {
            return OUTSIDE;
        }
        if (sights.size() == 6) {
            return FULL;
        }
        sights.add(new Sight(word, unit, was));
        return sights.size();
    }

    int unsee() {
        int size = sights.size();
        sights.clear();
        return size;
    }

    long which(int what) {
        if (what != 0 && what != 1) {
            return OUTSIDE;
        }
        List<int[]> all = list();
        int number = 0;
        int first = NONE;
        for (int i = 0; i < all.size(); i++) {
            int[] r = all.get(i);
            if (sights.stream().allMatch(s -> beginsIn(r, s.word, s.unit) == (s.was == 1))) {
                number++;
                first = first == NONE ? i : first;
            }
        }
        return what == 0 ? number : first;
    }

    // ---- Shapley values, probabilities, draws

    /** The number of readings whose words are all in the set, for each set. */
    private long[] worths() {
        int n = spellings.size();
        long[] worth = new long[1 << n];
        for (int[] r : list()) {
            int set = 0;
            for (int w : r) {
                set |= 1 << w;
            }
            for (int s = 0; s < worth.length; s++) {
                worth[s] += (set & ~s) == 0 ? 1 : 0;
            }
        }
        return worth;
    }

    private long orders = 0;

    /** The sum of a word's increases over all orders in which the words of the set are still to come. */
    private BigInteger increases(long[] worth, int come, int word) {
        int n = spellings.size();
        if (come == (1 << n) - 1) {
            orders++;
            return BigInteger.ZERO;
        }
        BigInteger sum = BigInteger.ZERO;
        for (int w = 0; w < n; w++) {
            if ((come >> w & 1) == 0) {
                long ordersBefore = orders;
                sum = sum.add(increases(worth, come | 1 << w, word));
                if (w == word) {
                    BigInteger ways = BigInteger.valueOf(orders - ordersBefore);
                    sum = sum.add(ways.multiply(BigInteger.valueOf(worth[come | 1 << w] - worth[come])));
                }
            }
        }
        return sum;
    }

    private static long part(BigInteger numerator, BigInteger denominator, boolean upper) {
        BigInteger g = numerator.gcd(denominator);
        return (upper ? numerator : denominator).divide(g).longValueExact();
    }

    long share(int word, boolean upper) {
        if (noWord(word)) {
            return UNKNOWN;
        }
        orders = 0;
        BigInteger sum = increases(worths(), 0, word);
        return part(sum, BigInteger.valueOf(orders), upper);
    }

    int lost(int x, boolean upper) {
        if (x < 0 || x > 10) {
            return OUTSIDE;
        }
        long[] worth = worths();
        int n = spellings.size();
        BigInteger sum = BigInteger.ZERO;
        for (int s = 0; s < worth.length; s++) {
            BigInteger product = BigInteger.ONE;
            for (int w = 0; w < n; w++) {
                product = product.multiply(BigInteger.valueOf((s >> w & 1) == 1 ? 10 - x : x));
            }
            sum = worth[s] > 0 ? sum.add(product) : sum;
        }
        return (int) part(sum, BigInteger.TEN.pow(n), upper);
    }

    long seed(long v) {
        long old = random.longValue();
        random = BigInteger.valueOf(v);
        return old;
    }

    int drawn(int m) {
        if (m < 1 || m > 20) {
            return OUTSIDE;
        }
        List<int[]> all = list();
        BigInteger two64 = BigInteger.ONE.shiftLeft(64);
        int sum = 0;
        for (int i = 0; i < m; i++) {
            random = random.multiply(new BigInteger("6364136223846793005")).add(new BigInteger("1442695040888963407"));
            random = random.mod(two64);
            int d = random.shiftRight(33).intValueExact();
            sum += all.isEmpty() ? 0 : weightOf(all.get(d % all.size()));
        }
        return sum;
    }

    // ---- slots

    int keep(int slot) {
        if (slot != 0 && slot != 1) {
            return UNKNOWN;
        }
        slots[slot] = state.copy();
        return spellings.size();
    }

    int again(int slot) {
        if (slot != 0 && slot != 1) {
            return UNKNOWN;
        }
        if (slots[slot] == null) {
            return STATE;
        }
        state = slots[slot].copy();
        past.clear();
        return spellings.size();
    }

    int count(int what) {
        int gaps = 0;
        for (char c : state.units) {
            gaps += c == '?' ? 1 : 0;
        }
        int set = 0;
        for (int w : state.excluded) {
            set += 1 << w;
        }
        return what < 0 || what > 6 ? OUTSIDE : new int[] {text.length(), spellings.size(), state.units.length, gaps, set,
            past.size(), sights.size()}[what];
    }
}
