import java.util.Arrays;

/**
 * Reconstruction of a damaged line of letters: reads words, rules and a line from a text, counts and ranks the
 * readings of the line, and answers questions about them. The document DOC.md says what each method promises.
 */
public final class WornLetters {
    public static final int UNKNOWN = -1, OUTSIDE = -2, STATE = -3, FULL = -4, NONE = -9;

    private static final int LETTERS = 6;
    private static final int BLANK = 6;
    private static final int SIGNS = 7;
    private static final int GAP = 7;
    private static final int COVERED = 8;

    private static final int KINDS = 3;
    private static final int RULES = KINDS * KINDS;
    private static final int FORBIDDEN = 0, ALLOWED = 1, SAME_ENDING = 2;

    private static final int MOST_CHARACTERS = 110;
    private static final int MOST_WORDS = 8;
    private static final int FEWEST_LETTERS = 2, MOST_LETTERS = 5;
    private static final int MOST_UNITS = 24;
    private static final int HIGHEST_WEIGHT = 9;
    private static final int MOST_ACTS = 14;
    private static final int MOST_SIGHTS = 6;
    private static final int SLOTS = 2;
    private static final int MOST_DRAWS = 20;
    private static final int MOST_STATEMENTS = 3;
    private static final long STATEMENT_BASE = 100000L;

    // Each word but the last takes at least two units and a blank, so 24 units hold at most eight words.
    private static final int MOST_IN_READING = 8;
    private static final int HEAVIEST = MOST_IN_READING * HIGHEST_WEIGHT;

    private static final long FACTOR = 6364136223846793005L;
    private static final long SUMMAND = 1442695040888963407L;
    private static final long[] FACTORIALS = {1L, 1L, 2L, 6L, 24L, 120L, 720L, 5040L, 40320L};
    // More steps than Euclid's algorithm needs for any two longs.
    private static final int EUCLID_STEPS = 200;

    private final Script script = new Script();
    private final Lexicon lexicon = new Lexicon();
    private final Tablet tablet = new Tablet();
    private final Tablet trial = new Tablet();
    private final History history = new History();
    private final Sightings sightings = new Sightings();
    private final Chart chart = new Chart();
    private final Ranking ranking = new Ranking();
    private final Tablet firstSlot = new Tablet();
    private final Tablet secondSlot = new Tablet();
    private boolean firstKept = false;
    private boolean secondKept = false;
    private long random = 0L;

    public WornLetters() {
    }

    // ---- the text, words, line

    public int write(int letter) {
        if (letter < 0 || letter > 255) {
            return OUTSIDE;
        }
        if (script.length >= MOST_CHARACTERS) {
            return FULL;
        }
        script.append(letter);
        return script.length;
    }

    public int wipe() {
        int length = script.length;
        script.length = 0;
        return length;
    }

    public int fault() {
        return script.parse();
    }

    public int stone() {
        if (script.parse() != NONE) {
            return STATE;
        }
        lexicon.copyFrom(script.lexicon);
        tablet.copyFrom(script.tablet);
        history.forget();
        firstKept = false;
        secondKept = false;
        return tablet.units;
    }

    public int word(int word, int what) {
        if (!lexicon.hasWord(word)) {
            return UNKNOWN;
        }
        switch (what) {
            case 0:
                return lexicon.lengths[word];
            case 1:
                return lexicon.kinds[word];
            case 2:
                return lexicon.endings[word];
            case 3:
                return tablet.weights[word];
            case 4:
                return lexicon.spans[word];
            case 5:
                return (tablet.barred >> word) & 1;
            case 6:
                return lexicon.letterOf(word, lexicon.lengths[word] - 1);
            default:
                return OUTSIDE;
        }
    }

    public int line(int unit) {
        return tablet.hasUnit(unit) ? tablet.signs[unit] : UNKNOWN;
    }

    public int rule(int p, int q) {
        return isKind(p) && isKind(q) ? tablet.rules[p * KINDS + q] : OUTSIDE;
    }

    // ---- acts

    public int wear(int unit) {
        int sign = tablet.removeSign(lexicon, unit);
        if (sign >= 0) {
            history.record(History.WORN, unit, sign);
        }
        return sign;
    }

    public int carve(int unit, int x) {
        int gaps = tablet.insertSign(lexicon, unit, x);
        if (gaps >= 0) {
            history.record(History.CARVED, unit, x);
        }
        return gaps;
    }

    public int bar(int word) {
        int barred = tablet.flipWord(lexicon, word);
        if (barred >= 0) {
            history.record(History.BARRED, word, 0);
        }
        return barred;
    }

    public int setRule(int p, int q, int v) {
        int previous = tablet.changeRule(p, q, v);
        if (previous >= 0) {
            history.record(History.RULED, p * KINDS + q, previous);
        }
        return previous;
    }

    public int weigh(int word, int v) {
        if (!lexicon.hasWord(word)) {
            return UNKNOWN;
        }
        if (v < 1 || v > HIGHEST_WEIGHT) {
            return OUTSIDE;
        }
        int previous = tablet.weights[word];
        tablet.weights[word] = v;
        history.record(History.WEIGHED, word, previous);
        return previous;
    }

    public int undo() {
        if (history.acts == 0) {
            return STATE;
        }
        history.takeBack(lexicon, tablet);
        return history.acts;
    }

    // ---- readings

    public int lies(int word, int unit) {
        if (!lexicon.hasWord(word) || !tablet.hasUnit(unit)) {
            return UNKNOWN;
        }
        return tablet.holdsWord(lexicon, word, unit) ? 1 : 0;
    }

    public long readings() {
        return chart.countAll(lexicon, tablet);
    }

    public int rank(long rank, int k) {
        if (k < -2) {
            return OUTSIDE;
        }
        long all = chart.countAll(lexicon, tablet);
        if (rank < 0 || rank >= all) {
            return NONE;
        }
        ranking.build(chart, tablet.weights);
        ranking.find(chart, rank);
        if (k == -1) {
            return ranking.weight;
        }
        if (k == -2) {
            return ranking.length;
        }
        return k < ranking.length ? ranking.path[k] : NONE;
    }

    public long stands(int unit, int x) {
        if (!tablet.hasUnit(unit)) {
            return UNKNOWN;
        }
        if (!isSign(x)) {
            return OUTSIDE;
        }
        chart.countAll(lexicon, tablet);
        chart.countHeads();
        return chart.countSign(lexicon, unit, x);
    }

    public long begins(int word, int unit) {
        if (!lexicon.hasWord(word) || !tablet.hasUnit(unit)) {
            return UNKNOWN;
        }
        chart.countAll(lexicon, tablet);
        chart.countHeads();
        return chart.countThrough(unit, word);
    }

    public int sure(int unit) {
        return tablet.hasUnit(unit) ? certainSign(tablet, unit) : UNKNOWN;
    }

    private int certainSign(Tablet examined, int unit) {
        long all = chart.countAll(lexicon, examined);
        chart.countHeads();
        for (int x = 0; x < SIGNS; x++) {
            if (all > 0 && chart.countSign(lexicon, unit, x) == all) {
                return x;
            }
        }
        return NONE;
    }

    public int judge(int n, long row) {
        if (n < 1 || n > MOST_STATEMENTS || row < 0) {
            return OUTSIDE;
        }
        long place = 1L;
        for (int i = 1; i < n; i++) {
            place = place * STATEMENT_BASE;
        }
        if (place <= 0 || row / place >= STATEMENT_BASE) {
            return OUTSIDE;
        }
        trial.copyFrom(tablet);
        long rest = row;
        for (int i = 0; i < n && place > 0; i++) {
            if (!accepts((int) (rest / place))) {
                return i;
            }
            rest = rest % place;
            place = place / STATEMENT_BASE;
        }
        return NONE;
    }

    /** Carries out a statement of five digits on the trial tablet, or tells whether it is true of it. */
    private boolean accepts(int statement) {
        int kind = statement / 10000;
        int second = statement / 1000 % 10;
        int third = statement / 100 % 10;
        int fourth = statement / 10 % 10;
        int fifth = statement % 10;
        int pair = second * 10 + third;
        if (fifth != 0) {
            return false;
        }
        switch (kind) {
            case 1:
                return fourth == 0 && trial.removeSign(lexicon, pair) >= 0;
            case 2:
                return trial.insertSign(lexicon, pair, fourth) >= 0;
            case 3:
                return third == 0 && fourth == 0 && trial.flipWord(lexicon, second) >= 0;
            case 4:
                return trial.changeRule(second, third, fourth) >= 0;
            case 5:
                return trial.holdsWord(lexicon, second, third * 10 + fourth);
            case 6:
                return fourth == 0 && chart.countAll(lexicon, trial) <= pair;
            case 7:
                return trial.hasUnit(pair) && isSign(fourth) && certainSign(trial, pair) == fourth;
            default:
                return false;
        }
    }

    // ---- observations

    public int see(int word, int unit, int was) {
        if (!lexicon.hasWord(word) || !tablet.hasUnit(unit)) {
            return UNKNOWN;
        }
        if (was != 0 && was != 1) {
            return OUTSIDE;
        }
        if (sightings.number >= MOST_SIGHTS) {
            return FULL;
        }
        sightings.append(word, unit, was == 1);
        return sightings.number;
    }

    public int unsee() {
        int number = sightings.number;
        sightings.number = 0;
        return number;
    }

    public long which(int what) {
        if (what != 0 && what != 1) {
            return OUTSIDE;
        }
        long selected = chart.countSelected(lexicon, tablet, sightings);
        if (what == 0) {
            return selected;
        }
        if (selected == 0) {
            return NONE;
        }
        ranking.build(chart, tablet.weights);
        ranking.find(chart, 0L);
        chart.countAll(lexicon, tablet);
        ranking.build(chart, tablet.weights);
        return ranking.rankOfPath(chart);
    }

    // ---- Shapley values, probabilities, draws

    public long share(int word, boolean upper) {
        if (!lexicon.hasWord(word)) {
            return UNKNOWN;
        }
        chart.countAll(lexicon, tablet);
        int bit = 1 << word;
        // A word that is in no reading never increases their number, so the orders of the others alone matter.
        int players = chart.used;
        if ((players & bit) == 0) {
            return lowestTerms(0L, 1L, upper);
        }
        int number = Integer.bitCount(players);
        long sum = 0L;
        for (int set = 0; set <= players; set++) {
            if ((set & ~players) == 0 && (set & bit) == 0) {
                int before = Integer.bitCount(set);
                long orders = factorial(before) * factorial(number - 1 - before);
                sum += orders * (chart.countFrom(set | bit) - chart.countFrom(set));
            }
        }
        return lowestTerms(sum, factorial(number), upper);
    }

    public int lost(int x, boolean upper) {
        if (x < 0 || x > 10) {
            return OUTSIDE;
        }
        chart.countAll(lexicon, tablet);
        int players = chart.used;
        int number = Integer.bitCount(players);
        long sum = 0L;
        for (int set = 0; set <= players; set++) {
            if ((set & ~players) == 0 && chart.countFrom(set) > 0) {
                int known = Integer.bitCount(set);
                sum += power(10 - x, known) * power(x, number - known);
            }
        }
        return (int) lowestTerms(sum, power(10, number), upper);
    }

    public long seed(long v) {
        long previous = random;
        random = v;
        return previous;
    }

    public int drawn(int m) {
        if (m < 1 || m > MOST_DRAWS) {
            return OUTSIDE;
        }
        long all = chart.countAll(lexicon, tablet);
        if (all > 0) {
            ranking.build(chart, tablet.weights);
        }
        int sum = 0;
        for (int i = 0; i < m; i++) {
            random = random * FACTOR + SUMMAND;
            if (all > 0) {
                ranking.find(chart, (random >>> 33) % all);
                sum += ranking.weight;
            }
        }
        return sum;
    }

    // ---- slots

    public int keep(int slot) {
        if (slot < 0 || slot >= SLOTS) {
            return UNKNOWN;
        }
        if (slot == 0) {
            firstSlot.copyFrom(tablet);
            firstKept = true;
        } else {
            secondSlot.copyFrom(tablet);
            secondKept = true;
        }
        return lexicon.words;
    }

    public int again(int slot) {
        if (slot < 0 || slot >= SLOTS) {
            return UNKNOWN;
        }
        boolean kept = slot == 0 ? firstKept : secondKept;
        if (!kept) {
            return STATE;
        }
        tablet.copyFrom(slot == 0 ? firstSlot : secondSlot);
        history.forget();
        return lexicon.words;
    }

    public int count(int what) {
        switch (what) {
            case 0:
                return script.length;
            case 1:
                return lexicon.words;
            case 2:
                return tablet.units;
            case 3:
                return tablet.countGaps();
            case 4:
                return tablet.barred;
            case 5:
                return history.acts;
            case 6:
                return sightings.number;
            default:
                return OUTSIDE;
        }
    }

    // ---- helpers

    private static boolean isKind(int p) {
        return p >= 0 && p < KINDS;
    }

    private static boolean isSign(int x) {
        return x >= 0 && x < SIGNS;
    }

    private static long factorial(int n) {
        return n >= 0 && n < FACTORIALS.length ? FACTORIALS[n] : 1L;
    }

    private static long power(int base, int exponent) {
        long product = 1L;
        for (int i = 0; i < exponent; i++) {
            product = product * base;
        }
        return product;
    }

    /** The upper or lower part of a fraction that is 0 or positive. */
    private static long lowestTerms(long numerator, long denominator, boolean upper) {
        long a = numerator;
        long b = denominator;
        for (int i = 0; i < EUCLID_STEPS && b != 0; i++) {
            long rest = a % b;
            a = b;
            b = rest;
        }
        long chosen = upper ? numerator : denominator;
        return a == 0 ? chosen : chosen / a;
    }

    /** What the text tells of letters and words that no act changes. */
    private static final class Lexicon {
        private final int[] widths = new int[SIGNS];
        private final int[] letters = new int[MOST_WORDS * MOST_LETTERS];
        private final int[] lengths = new int[MOST_WORDS];
        private final int[] kinds = new int[MOST_WORDS];
        private final int[] endings = new int[MOST_WORDS];
        private final int[] spans = new int[MOST_WORDS];
        private int words = 0;

        private Lexicon() {
            Arrays.fill(widths, 1);
        }

        private void copyFrom(Lexicon other) {
            System.arraycopy(other.widths, 0, widths, 0, SIGNS);
            System.arraycopy(other.letters, 0, letters, 0, MOST_WORDS * MOST_LETTERS);
            System.arraycopy(other.lengths, 0, lengths, 0, MOST_WORDS);
            System.arraycopy(other.kinds, 0, kinds, 0, MOST_WORDS);
            System.arraycopy(other.endings, 0, endings, 0, MOST_WORDS);
            System.arraycopy(other.spans, 0, spans, 0, MOST_WORDS);
            words = other.words;
        }

        private boolean hasWord(int word) {
            return word >= 0 && word < words;
        }

        private int widthOf(int sign) {
            return sign >= 0 && sign < SIGNS ? widths[sign] : 1;
        }

        private int letterOf(int word, int index) {
            boolean exists = word >= 0 && word < words && index >= 0 && index < MOST_LETTERS;
            return exists ? letters[word * MOST_LETTERS + index] : NONE;
        }

        /** The sign that begins some units behind the beginning of a word: a letter of it, or the blank after it. */
        private int signBehind(int word, int distance) {
            if (!hasWord(word)) {
                return NONE;
            }
            int place = 0;
            for (int i = 0; i < lengths[word]; i++) {
                int letter = letterOf(word, i);
                if (place == distance) {
                    return letter;
                }
                place += widthOf(letter);
            }
            return place == distance ? BLANK : NONE;
        }
    }

    /** What acts change and slots keep: the line, the excluded words, the rules and the weights. */
    private static final class Tablet {
        private final int[] signs = new int[MOST_UNITS];
        private final int[] rules = new int[RULES];
        private final int[] weights = new int[MOST_WORDS];
        private int units = 0;
        private int barred = 0;

        private Tablet() {
            Arrays.fill(rules, ALLOWED);
        }

        private void copyFrom(Tablet other) {
            System.arraycopy(other.signs, 0, signs, 0, MOST_UNITS);
            System.arraycopy(other.rules, 0, rules, 0, RULES);
            System.arraycopy(other.weights, 0, weights, 0, MOST_WORDS);
            units = other.units;
            barred = other.barred;
        }

        private boolean hasUnit(int unit) {
            return unit >= 0 && unit < units;
        }

        private int countGaps() {
            int gaps = 0;
            for (int u = 0; u < units; u++) {
                if (signs[u] == GAP) {
                    gaps++;
                }
            }
            return gaps;
        }

        private boolean isFree(int unit, int width) {
            if (unit < 0 || unit + width > units) {
                return false;
            }
            for (int i = 0; i < width; i++) {
                if (signs[unit + i] != GAP) {
                    return false;
                }
            }
            return true;
        }

        private void putSign(int unit, int sign, int width) {
            for (int i = 0; i < width && hasUnit(unit + i); i++) {
                signs[unit + i] = i == 0 ? sign : COVERED;
            }
        }

        private void putGap(int unit, int width) {
            for (int i = 0; i < width && hasUnit(unit + i); i++) {
                signs[unit + i] = GAP;
            }
        }

        private boolean holdsBlank(int unit) {
            return hasUnit(unit) && (signs[unit] == BLANK || signs[unit] == GAP);
        }

        private boolean holdsWord(Lexicon lexicon, int word, int unit) {
            if (!lexicon.hasWord(word)) {
                return false;
            }
            int place = unit;
            for (int i = 0; i < lexicon.lengths[word]; i++) {
                int letter = lexicon.letterOf(word, i);
                int width = lexicon.widthOf(letter);
                boolean onLine = hasUnit(place) && signs[place] == letter;
                if (!onLine && !isFree(place, width)) {
                    return false;
                }
                place += width;
            }
            return true;
        }

        private int removeSign(Lexicon lexicon, int unit) {
            if (!hasUnit(unit)) {
                return UNKNOWN;
            }
            int sign = signs[unit];
            if (!isSign(sign)) {
                return STATE;
            }
            putGap(unit, lexicon.widthOf(sign));
            return sign;
        }

        private int insertSign(Lexicon lexicon, int unit, int sign) {
            if (!hasUnit(unit)) {
                return UNKNOWN;
            }
            if (!isSign(sign)) {
                return OUTSIDE;
            }
            int width = lexicon.widthOf(sign);
            if (!isFree(unit, width)) {
                return STATE;
            }
            putSign(unit, sign, width);
            return countGaps();
        }

        private int flipWord(Lexicon lexicon, int word) {
            if (!lexicon.hasWord(word)) {
                return UNKNOWN;
            }
            barred ^= 1 << word;
            return (barred >> word) & 1;
        }

        private int changeRule(int p, int q, int v) {
            if (!isKind(p) || !isKind(q) || v < FORBIDDEN || v > SAME_ENDING) {
                return OUTSIDE;
            }
            int previous = rules[p * KINDS + q];
            rules[p * KINDS + q] = v;
            return previous;
        }
    }

    /** The text, and what it says: parsing fills a lexicon and a tablet of the script's own. */
    private static final class Script {
        private final int[] characters = new int[MOST_CHARACTERS];
        private int length = 0;
        private final Lexicon lexicon = new Lexicon();
        private final Tablet tablet = new Tablet();
        private int position = 0;
        private boolean wrong = false;
        private int givenRules = 0;

        private Script() {
        }

        private void append(int letter) {
            if (length >= 0 && length < MOST_CHARACTERS) {
                characters[length] = letter;
                length++;
            }
        }

        /** Reads the text as far as it is valid; the fault is where that ends, be it a character or the text's end. */
        private int parse() {
            position = 0;
            wrong = false;
            givenRules = 0;
            lexicon.words = 0;
            tablet.units = 0;
            tablet.barred = 0;
            Arrays.fill(tablet.rules, ALLOWED);
            parseWidths();
            // Each turn reads at least one character or finds the text wrong.
            for (int i = 0; i < MOST_CHARACTERS && !wrong && position < length; i++) {
                parsePart();
            }
            return wrong ? position : NONE;
        }

        private void parseWidths() {
            if (peek() == 'S') {
                position++;
            } else {
                wrong = true;
            }
            for (int i = 0; i < LETTERS; i++) {
                lexicon.widths[i] = takeDigit(1, 3);
            }
        }

        private void parsePart() {
            switch (peek()) {
                case 'd':
                    parseWord();
                    break;
                case 'r':
                    parseRule();
                    break;
                case 'l':
                    parseLine();
                    break;
                default:
                    wrong = true;
                    break;
            }
        }

        private void parseWord() {
            int word = lexicon.words;
            if (word < 0 || word >= MOST_WORDS) {
                wrong = true;
                return;
            }
            position++;
            int letters = 0;
            int span = 0;
            while (letters < MOST_LETTERS && isLetter(peek())) {
                int letter = peek() - 'a';
                lexicon.letters[word * MOST_LETTERS + letters] = letter;
                span += lexicon.widthOf(letter);
                letters++;
                position++;
            }
            if (letters < FEWEST_LETTERS) {
                wrong = true;
            }
            lexicon.lengths[word] = letters;
            lexicon.spans[word] = span;
            lexicon.kinds[word] = takeDigit(0, KINDS - 1);
            lexicon.endings[word] = takeDigit(0, 2);
            tablet.weights[word] = takeDigit(1, HIGHEST_WEIGHT);
            lexicon.words = word + 1;
        }

        private void parseRule() {
            int all = (1 << RULES) - 1;
            if (givenRules == all) {
                wrong = true;
                return;
            }
            position++;
            int p = takeDigit(0, KINDS - 1);
            int allOfKind = (1 << KINDS) - 1;
            if (!wrong && ((givenRules >> (p * KINDS)) & allOfKind) == allOfKind) {
                refuseLast();
            }
            int q = takeDigit(0, KINDS - 1);
            int bit = 1 << (p * KINDS + q);
            if (!wrong && (givenRules & bit) != 0) {
                refuseLast();
            }
            int v = takeDigit(FORBIDDEN, SAME_ENDING);
            tablet.changeRule(p, q, v);
            givenRules |= bit;
        }

        private void parseLine() {
            position++;
            if (position >= length) {
                wrong = true;
            }
            for (int i = 0; i < MOST_CHARACTERS && !wrong && position < length; i++) {
                parseSign(peek());
            }
        }

        private void parseSign(int character) {
            int sign = GAP;
            int width = character - '0';
            if (isLetter(character)) {
                sign = character - 'a';
                width = lexicon.widthOf(sign);
            } else if (character == '.') {
                sign = BLANK;
                width = 1;
            }
            if (width < 1 || width > 9 || tablet.units + width > MOST_UNITS) {
                wrong = true;
                return;
            }
            int unit = tablet.units;
            tablet.units = unit + width;
            if (sign == GAP) {
                tablet.putGap(unit, width);
            } else {
                tablet.putSign(unit, sign, width);
            }
            position++;
        }

        private int peek() {
            return position >= 0 && position < length && position < MOST_CHARACTERS ? characters[position] : NONE;
        }

        private static boolean isLetter(int character) {
            return character >= 'a' && character < 'a' + LETTERS;
        }

        /** Once the text is wrong nothing more is read, so that the position stays that of the fault. */
        private int takeDigit(int lowest, int highest) {
            int digit = peek() - '0';
            if (wrong || digit < lowest || digit > highest) {
                wrong = true;
                return lowest;
            }
            position++;
            return digit;
        }

        private void refuseLast() {
            wrong = true;
            position--;
        }
    }

    /** The latest acts, in a ring, so that the oldest gives way to a new one. */
    private static final class History {
        private static final int WORN = 0, CARVED = 1, BARRED = 2, RULED = 3, WEIGHED = 4;

        private final int[] deeds = new int[MOST_ACTS];
        private final int[] places = new int[MOST_ACTS];
        private final int[] values = new int[MOST_ACTS];
        private int acts = 0;
        private int next = 0;

        private History() {
        }

        private void forget() {
            acts = 0;
            next = 0;
        }

        private void record(int deed, int place, int value) {
            if (next < 0 || next >= MOST_ACTS) {
                return;
            }
            deeds[next] = deed;
            places[next] = place;
            values[next] = value;
            next = (next + 1) % MOST_ACTS;
            acts = Math.min(acts + 1, MOST_ACTS);
        }

        private void takeBack(Lexicon lexicon, Tablet tablet) {
            int last = (next + MOST_ACTS - 1) % MOST_ACTS;
            if (acts <= 0 || last < 0) {
                return;
            }
            next = last;
            acts--;
            int place = places[last];
            int value = values[last];
            switch (deeds[last]) {
                case WORN:
                    tablet.putSign(place, value, lexicon.widthOf(value));
                    break;
                case CARVED:
                    tablet.putGap(place, lexicon.widthOf(value));
                    break;
                case BARRED:
                    tablet.flipWord(lexicon, place);
                    break;
                case RULED:
                    if (place >= 0 && place < RULES) {
                        tablet.rules[place] = value;
                    }
                    break;
                case WEIGHED:
                    if (lexicon.hasWord(place)) {
                        tablet.weights[place] = value;
                    }
                    break;
                default:
                    break;
            }
        }
    }

    /** The observations. They outlive a stone, so their words and units may be gone. */
    private static final class Sightings {
        private final int[] words = new int[MOST_SIGHTS];
        private final int[] units = new int[MOST_SIGHTS];
        private final boolean[] affirmed = new boolean[MOST_SIGHTS];
        private int number = 0;

        private Sightings() {
        }

        private void append(int word, int unit, boolean was) {
            if (number >= 0 && number < MOST_SIGHTS) {
                words[number] = word;
                units[number] = unit;
                affirmed[number] = was;
                number++;
            }
        }
    }

    /**
     * Where words begin in readings. A place is a unit and a word; after a count, open holds for each unit the set of
     * the words that begin there in at least one reading.
     */
    private static final class Chart {
        private final int[] open = new int[MOST_UNITS + 1];
        private final int[] reached = new int[MOST_UNITS + 1];
        private final int[] followers = new int[MOST_WORDS];
        private final int[] spans = new int[MOST_WORDS];
        private final long[] heads = new long[(MOST_UNITS + 1) * MOST_WORDS];
        private final long[] tails = new long[(MOST_UNITS + 1) * MOST_WORDS];
        private int units = 0;
        private int words = 0;
        private int used = 0;

        private Chart() {
        }

        private long countAll(Lexicon lexicon, Tablet tablet) {
            lay(lexicon, tablet);
            prune();
            return countFrom(used);
        }

        private long countSelected(Lexicon lexicon, Tablet tablet, Sightings sightings) {
            lay(lexicon, tablet);
            for (int i = 0; i < sightings.number && i < MOST_SIGHTS; i++) {
                select(sightings.words[i], sightings.units[i], sightings.affirmed[i]);
            }
            prune();
            return countFrom(used);
        }

        private void lay(Lexicon lexicon, Tablet tablet) {
            units = tablet.units;
            words = lexicon.words;
            Arrays.fill(open, 0);
            for (int w = 0; w < words; w++) {
                spans[w] = lexicon.spans[w];
                followers[w] = followersOf(lexicon, tablet, w);
                for (int u = 0; u + spans[w] <= units && ((tablet.barred >> w) & 1) == 0; u++) {
                    int end = u + spans[w];
                    boolean closed = end == units || tablet.holdsBlank(end);
                    if (closed && tablet.holdsWord(lexicon, w, u)) {
                        open[u] |= 1 << w;
                    }
                }
            }
        }

        private static int followersOf(Lexicon lexicon, Tablet tablet, int word) {
            int set = 0;
            for (int w = 0; w < lexicon.words; w++) {
                int rule = tablet.rules[lexicon.kinds[word] * KINDS + lexicon.kinds[w]];
                boolean same = lexicon.endings[word] == lexicon.endings[w];
                if (rule == ALLOWED || rule == SAME_ENDING && same) {
                    set |= 1 << w;
                }
            }
            return set;
        }

        private boolean isOpen(int unit, int word) {
            return ((open[unit] >> word) & 1) != 0;
        }

        /** The unit where the next word would begin; beyond the line's end if the word ends the line. */
        private int nextUnit(int unit, int word) {
            return unit + spans[word] + 1;
        }

        /** Removes the places of readings for which an observation is not true. */
        private void select(int word, int unit, boolean was) {
            if (unit < 0 || unit >= MOST_UNITS) {
                return;
            }
            if (!was) {
                open[unit] &= ~(1 << word);
                return;
            }
            open[unit] &= 1 << word;
            // A reading has a word that begins at the unit if none of its words, with the blank behind it, passes it.
            for (int u = 0; u < unit; u++) {
                for (int w = 0; w < words; w++) {
                    if (isOpen(u, w) && (unit >= units || nextUnit(u, w) > unit)) {
                        open[u] &= ~(1 << w);
                    }
                }
            }
        }

        /** Removes the places that are in no reading. */
        private void prune() {
            for (int u = units - 1; u >= 0; u--) {
                for (int w = 0; w < words; w++) {
                    if (isOpen(u, w) && !leadsOn(u, w)) {
                        open[u] &= ~(1 << w);
                    }
                }
            }
            used = 0;
            Arrays.fill(reached, 0);
            reached[0] = (1 << MOST_WORDS) - 1;
            for (int u = 0; u < units; u++) {
                open[u] &= reached[u];
                used |= open[u];
                for (int w = 0; w < words; w++) {
                    if (isOpen(u, w) && nextUnit(u, w) <= units) {
                        reached[nextUnit(u, w)] |= followers[w];
                    }
                }
            }
        }

        private boolean leadsOn(int unit, int word) {
            int next = nextUnit(unit, word);
            return next > units || (open[next] & followers[word]) != 0;
        }

        /** Counts the readings that consist of words of a set, and how many ends of them begin at each place. */
        private long countFrom(int set) {
            for (int u = units - 1; u >= 0; u--) {
                int starters = open[u] & set;
                for (int w = 0; w < words && starters >> w != 0; w++) {
                    if (((starters >> w) & 1) != 0) {
                        int next = nextUnit(u, w);
                        tails[u * MOST_WORDS + w] = next > units ? 1L : sumTails(next, followers[w] & set);
                    }
                }
            }
            return sumTails(0, set);
        }

        private long sumTails(int unit, int set) {
            int starters = open[unit] & set;
            long sum = 0L;
            for (int w = 0; w < words && starters >> w != 0; w++) {
                if (((starters >> w) & 1) != 0) {
                    sum += tails[unit * MOST_WORDS + w];
                }
            }
            return sum;
        }

        /** Counts, behind countAll, how many beginnings of readings lead to each place. */
        private void countHeads() {
            Arrays.fill(heads, 0L);
            for (int w = 0; w < words; w++) {
                heads[w] = isOpen(0, w) ? 1L : 0L;
            }
            for (int u = 0; u < units; u++) {
                for (int w = 0; w < words; w++) {
                    if (isOpen(u, w) && nextUnit(u, w) <= units) {
                        passOn(heads[u * MOST_WORDS + w], nextUnit(u, w), followers[w]);
                    }
                }
            }
        }

        private void passOn(long beginnings, int unit, int set) {
            for (int w = 0; w < words; w++) {
                if (isOpen(unit, w) && ((set >> w) & 1) != 0) {
                    heads[unit * MOST_WORDS + w] += beginnings;
                }
            }
        }

        /** The number of readings with a place, behind countHeads. */
        private long countThrough(int unit, int word) {
            int place = unit * MOST_WORDS + word;
            return isOpen(unit, word) ? heads[place] * tails[place] : 0L;
        }

        /** The number of readings in which a sign begins at a unit, behind countHeads. */
        private long countSign(Lexicon lexicon, int unit, int sign) {
            long sum = 0L;
            for (int u = 0; u <= unit && u < units; u++) {
                for (int w = 0; w < words; w++) {
                    if (isOpen(u, w) && lexicon.signBehind(w, unit - u) == sign) {
                        sum += countThrough(u, w);
                    }
                }
            }
            return sum;
        }
    }

    /** Finds readings by their ranks and ranks by readings, with the number of ends of each weight at each place. */
    private static final class Ranking {
        private static final int ROW = HEAVIEST + 1;

        // Made when it is first needed, since it is by far the largest part of an object.
        private long[] ends = new long[0];
        private final int[] weights = new int[MOST_WORDS];
        private final int[] path = new int[MOST_IN_READING];
        private int length = 0;
        private int weight = 0;

        private Ranking() {
        }

        private void build(Chart chart, int[] newWeights) {
            if (ends.length == 0) {
                ends = new long[MOST_UNITS * MOST_WORDS * ROW];
            }
            System.arraycopy(newWeights, 0, weights, 0, MOST_WORDS);
            for (int u = chart.units - 1; u >= 0; u--) {
                for (int w = 0; w < chart.words; w++) {
                    if (chart.isOpen(u, w)) {
                        fillRow(chart, u, w);
                    }
                }
            }
        }

        private void fillRow(Chart chart, int unit, int word) {
            int row = rowOf(unit, word);
            int own = weights[word];
            for (int t = 0; t < ROW; t++) {
                ends[row + t] = 0L;
            }
            int next = chart.nextUnit(unit, word);
            if (next > chart.units) {
                ends[row + own] = 1L;
                return;
            }
            int heaviest = Math.min(heaviestFrom(chart, next), HEAVIEST - own);
            for (int w = 0; w < chart.words; w++) {
                if (chart.isOpen(next, w) && ((chart.followers[word] >> w) & 1) != 0) {
                    int other = rowOf(next, w);
                    for (int t = 1; t <= heaviest; t++) {
                        ends[row + own + t] += ends[other + t];
                    }
                }
            }
        }

        private static int rowOf(int unit, int word) {
            return (unit * MOST_WORDS + word) * ROW;
        }

        /** The greatest weight that words from a unit on could have: each takes three units, the last one two. */
        private static int heaviestFrom(Chart chart, int unit) {
            return (chart.units - unit + 1) / 3 * HIGHEST_WEIGHT;
        }

        private long countWithWeight(Chart chart, int heft) {
            long sum = 0L;
            for (int w = 0; w < chart.words; w++) {
                if (chart.isOpen(0, w)) {
                    sum += ends[rowOf(0, w) + heft];
                }
            }
            return sum;
        }

        /** Finds the reading with a rank, which must be less than their number. */
        private void find(Chart chart, long rank) {
            long rest = rank;
            weight = 0;
            length = 0;
            for (int t = HEAVIEST; t > 0 && weight == 0; t--) {
                long number = countWithWeight(chart, t);
                if (rest < number) {
                    weight = t;
                } else {
                    rest -= number;
                }
            }
            walk(chart, rest);
        }

        /** Goes to the reading that has so many before it with its weight. */
        private void walk(Chart chart, long before) {
            long rest = before;
            int unit = 0;
            int left = weight;
            int set = chart.used;
            for (int i = 0; i < MOST_IN_READING && unit < chart.units && left > 0; i++) {
                int chosen = NONE;
                for (int w = 0; w < chart.words && chosen < 0; w++) {
                    long number = endsOf(chart, unit, w, set, left);
                    if (rest < number) {
                        chosen = w;
                    } else {
                        rest -= number;
                    }
                }
                if (chosen < 0) {
                    return;
                }
                path[i] = chosen;
                length = i + 1;
                left -= weights[chosen];
                set = chart.followers[chosen];
                unit = chart.nextUnit(unit, chosen);
            }
        }

        private long endsOf(Chart chart, int unit, int word, int set, int left) {
            boolean possible = chart.isOpen(unit, word) && ((set >> word) & 1) != 0;
            return possible && left >= 0 && left <= HEAVIEST ? ends[rowOf(unit, word) + left] : 0L;
        }

        /** The rank of the reading that was found last, among the readings of the chart. */
        private long rankOfPath(Chart chart) {
            long before = 0L;
            for (int t = HEAVIEST; t > weight; t--) {
                before += countWithWeight(chart, t);
            }
            int unit = 0;
            int left = weight;
            int set = chart.used;
            for (int i = 0; i < length && unit < chart.units; i++) {
                for (int w = 0; w < path[i]; w++) {
                    before += endsOf(chart, unit, w, set, left);
                }
                left -= weights[path[i]];
                set = chart.followers[path[i]];
                unit = chart.nextUnit(unit, path[i]);
            }
            return before;
        }
    }
}
