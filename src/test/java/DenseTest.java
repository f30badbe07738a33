import java.math.BigInteger;
import java.util.Arrays;
import java.util.Random;

/**
 * Lines with so many readings that the oracle leaves them out: each reading is one long that holds its weight and its
 * words, so that millions of them can be listed and sorted. The seeds are fixed, so a fault comes again.
 */
public final class DenseTest {
    private static final int TEXTS = Integer.getInteger("texts", 12);
    private static final int FIRST = Integer.getInteger("first", 0);
    private static final int FEWEST = Oracle.LISTED, MOST = 3000000;
    private static final int HEAVIEST = 72;

    private final Due due = new Due("DenseTest");
    private Random dice;
    private int[] widths;
    private String[] spellings;
    private int[] kinds;
    private int[] endings;
    private int[] weights;
    private int[] rules;
    private int[] spans;
    private String line;
    /** The line unit by unit: a letter where it begins, '-' behind it, '1' for a gap. */
    private String units;
    private String text;
    private final long[] found = new long[MOST];
    private int number;
    private long[] readings;

    public static void main(String[] args) {
        DenseTest test = new DenseTest();
        int texts = 0;
        for (int seed = FIRST; texts < TEXTS && seed < FIRST + 100 * TEXTS; seed++) {
            if (test.makeText(seed)) {
                texts++;
                test.look();
            }
        }
        test.due.holds("there are enough texts with many readings", texts == TEXTS);
        test.due.finish();
    }

    // ---- texts, and all of their readings

    /** Tells whether the text that was made has more readings than the oracle lists, and not too many for this test. */
    private boolean makeText(int seed) {
        dice = new Random(seed);
        StringBuilder t = new StringBuilder("S");
        widths = new int[6];
        for (int i = 0; i < 6; i++) {
            widths[i] = dice.nextInt(4) == 0 ? 2 : 1;
            t.append(widths[i]);
        }
        makeWords(t, 6 + dice.nextInt(3));
        makeRules(t);
        makeLine();
        text = t.append('l').append(line).toString();
        number = 0;
        extend(0, -1, 0, 0, 0);
        if (text.length() > 110 || number < FEWEST || number >= MOST) {
            return false;
        }
        readings = Arrays.copyOf(found, number);
        Arrays.sort(readings);
        return true;
    }

    private void makeWords(StringBuilder t, int words) {
        spellings = new String[words];
        kinds = new int[words];
        endings = new int[words];
        weights = new int[words];
        spans = new int[words];
        for (int w = 0; w < words; w++) {
            StringBuilder letters = new StringBuilder();
            int length = dice.nextInt(3) == 0 ? 3 : 2;
            for (int i = 0; i < length; i++) {
                letters.append((char) ('a' + dice.nextInt(6)));
            }
            spellings[w] = letters.toString();
            for (char c : letters.toString().toCharArray()) {
                spans[w] += widths[c - 'a'];
            }
            kinds[w] = dice.nextInt(3);
            endings[w] = dice.nextInt(2);
            weights[w] = 1 + dice.nextInt(dice.nextBoolean() ? 9 : 2);
            t.append('d').append(spellings[w]).append(kinds[w]).append(endings[w]).append(weights[w]);
        }
    }

    private void makeRules(StringBuilder t) {
        rules = new int[] {1, 1, 1, 1, 1, 1, 1, 1, 1};
        int given = dice.nextInt(4);
        for (int i = 0; i < given; i++) {
            int pq = 2 * i + dice.nextInt(2);
            rules[pq] = dice.nextInt(3);
            t.append('r').append(pq / 3).append(pq % 3).append(rules[pq]);
        }
    }

    /** A line as the text gives it, gaps as single units. */
    private void makeLine() {
        int length = 20 + dice.nextInt(5);
        StringBuilder made = new StringBuilder("1".repeat(length));
        if (dice.nextInt(3) == 0) {
            char letter = (char) ('a' + dice.nextInt(6));
            int width = widths[letter - 'a'];
            int unit = dice.nextInt(length - width + 1);
            made.replace(unit, unit + width, letter + "-".repeat(width - 1));
        }
        units = made.toString();
        line = units.replace("-", "");
    }

    private void extend(int unit, int last, int length, int weight, long code) {
        for (int w = 0; w < spellings.length && number < MOST; w++) {
            int end = fits(w, unit);
            boolean follows = last < 0 || rules[kinds[last] * 3 + kinds[w]] == 1
                || rules[kinds[last] * 3 + kinds[w]] == 2 && endings[last] == endings[w];
            if (end < 0 || !follows) {
                continue;
            }
            long longer = code | (long) (w + 1) << (28 - 4 * length);
            if (end == units.length()) {
                found[number] = (long) (HEAVIEST - weight - weights[w]) << 32 | longer;
                number++;
            } else if (units.charAt(end) == '1') {
                extend(end + 1, w, length + 1, weight + weights[w], longer);
            }
        }
    }

    /** The unit behind a word that lies at a unit; -1 if it cannot lie there. */
    private int fits(int word, int unit) {
        int at = unit;
        for (char c : spellings[word].toCharArray()) {
            int end = at + widths[c - 'a'];
            if (end > units.length() || units.charAt(at) != c && !units.substring(at, end).matches("1+")) {
                return -1;
            }
            at = end;
        }
        return at;
    }

    private static int wordOf(long reading, int index) {
        return index > 7 ? -1 : (int) (reading >> (28 - 4 * index) & 15) - 1;
    }

    private static int weightOf(long reading) {
        return HEAVIEST - (int) (reading >> 32);
    }

    private boolean beginsIn(long reading, int word, int unit) {
        int at = 0;
        for (int i = 0; wordOf(reading, i) >= 0 && at <= unit; i++) {
            if (at == unit) {
                return wordOf(reading, i) == word;
            }
            at += spans[wordOf(reading, i)] + 1;
        }
        return false;
    }

    // ---- what the class answers

    private void is(String call, long got, long want) {
        due.is(call + " of " + text, got, want);
    }

    private void look() {
        ranks();
        places();
        observations();
        chances();
        draws();
    }

    private void ranks() {
        WornLetters x = Due.stone(text);
        is("readings()", x.readings(), number);
        is("rank(number, -1)", x.rank(number, -1), -9);
        is("judge, at most 99 readings", x.judge(1, 69900), 0);
        for (int i = 0; i < 30; i++) {
            int rank = i == 0 ? 0 : i == 1 ? number - 1 : dice.nextInt(number);
            long reading = readings[rank];
            int length = 0;
            while (wordOf(reading, length) >= 0) {
                is("rank(" + rank + ", " + length + ")", x.rank(rank, length), wordOf(reading, length));
                length++;
            }
            is("rank(" + rank + ", " + length + ")", x.rank(rank, length), -9);
            is("rank(" + rank + ", -1)", x.rank(rank, -1), weightOf(reading));
            is("rank(" + rank + ", -2)", x.rank(rank, -2), length);
        }
    }

    private void places() {
        int length = units.length();
        long[][] begins = new long[spellings.length][length];
        for (long reading : readings) {
            int at = 0;
            for (int i = 0; wordOf(reading, i) >= 0; i++) {
                begins[wordOf(reading, i)][at]++;
                at += spans[wordOf(reading, i)] + 1;
            }
        }
        long[][] stands = new long[7][length];
        WornLetters x = Due.stone(text);
        for (int w = 0; w < spellings.length; w++) {
            for (int u = 0; u < length; u++) {
                is("begins(" + w + ", " + u + ")", x.begins(w, u), begins[w][u]);
                int at = u;
                for (int i = 0; i < spellings[w].length() && at < length; i++) {
                    stands[spellings[w].charAt(i) - 'a'][at] += begins[w][u];
                    at += widths[spellings[w].charAt(i) - 'a'];
                }
                if (at < length) {
                    stands[6][at] += begins[w][u];
                }
            }
        }
        signs(stands);
    }

    private void signs(long[][] stands) {
        WornLetters x = Due.stone(text);
        for (int u = 0; u < units.length(); u++) {
            int certain = -9;
            for (int sign = 0; sign < 7; sign++) {
                is("stands(" + u + ", " + sign + ")", x.stands(u, sign), stands[sign][u]);
                certain = stands[sign][u] == number ? sign : certain;
            }
            is("sure(" + u + ")", x.sure(u), certain);
        }
    }

    private void observations() {
        WornLetters x = Due.stone(text);
        for (int turn = 0; turn < 12; turn++) {
            int sights = 1 + dice.nextInt(6);
            int[] word = new int[sights];
            int[] unit = new int[sights];
            boolean[] was = new boolean[sights];
            long near = readings[dice.nextInt(number)];
            for (int i = 0; i < sights; i++) {
                place(near, i, word, unit);
                was[i] = beginsIn(near, word[i], unit[i]) && dice.nextInt(5) > 0;
                x.see(word[i], unit[i], was[i] ? 1 : 0);
            }
            long selected = 0;
            long first = -9;
            for (int rank = number - 1; rank >= 0; rank--) {
                boolean all = true;
                for (int i = 0; i < sights && all; i++) {
                    all = beginsIn(readings[rank], word[i], unit[i]) == was[i];
                }
                selected += all ? 1 : 0;
                first = all ? rank : first;
            }
            is("which(0), turn " + turn, x.which(0), selected);
            is("which(1), turn " + turn, x.which(1), first);
            is("unsee()", x.unsee(), sights);
        }
    }

    /** A place of a reading, or any other. */
    private void place(long reading, int i, int[] word, int[] unit) {
        word[i] = dice.nextInt(spellings.length);
        unit[i] = dice.nextInt(units.length());
        int at = 0;
        for (int k = 0; wordOf(reading, k) >= 0; k++) {
            if (dice.nextInt(6) == 0) {
                word[i] = wordOf(reading, k);
                unit[i] = at;
            }
            at += spans[wordOf(reading, k)] + 1;
        }
    }

    private void chances() {
        int words = spellings.length;
        int sets = 1 << words;
        long[] exactly = new long[sets];
        for (long reading : readings) {
            int set = 0;
            for (int i = 0; wordOf(reading, i) >= 0; i++) {
                set |= 1 << wordOf(reading, i);
            }
            exactly[set]++;
        }
        long[] worth = new long[sets];
        for (int set = 0; set < sets; set++) {
            for (int part = 0; part < sets; part++) {
                worth[set] += (part & ~set) == 0 ? exactly[part] : 0;
            }
        }
        WornLetters x = Due.stone(text);
        for (int w = 0; w < words; w++) {
            BigInteger sum = BigInteger.ZERO;
            for (int set = 0; set < sets; set++) {
                if ((set >> w & 1) == 0) {
                    BigInteger orders = orders(Integer.bitCount(set)).multiply(orders(words - 1 - Integer.bitCount(set)));
                    sum = sum.add(orders.multiply(BigInteger.valueOf(worth[set | 1 << w] - worth[set])));
                }
            }
            BigInteger common = sum.gcd(orders(words));
            is("share(" + w + ", true)", x.share(w, true), sum.divide(common).longValueExact());
            is("share(" + w + ", false)", x.share(w, false), orders(words).divide(common).longValueExact());
        }
        for (int tenths = 0; tenths <= 10; tenths++) {
            lost(x, tenths, worth);
        }
    }

    private static BigInteger orders(int things) {
        return things < 2 ? BigInteger.ONE : orders(things - 1).multiply(BigInteger.valueOf(things));
    }

    private void lost(WornLetters x, int tenths, long[] worth) {
        int words = spellings.length;
        BigInteger sum = BigInteger.ZERO;
        for (int set = 0; set < worth.length; set++) {
            int known = Integer.bitCount(set);
            BigInteger chance = BigInteger.valueOf(10 - tenths).pow(known).multiply(BigInteger.valueOf(tenths).pow(words - known));
            sum = worth[set] > 0 ? sum.add(chance) : sum;
        }
        BigInteger all = BigInteger.TEN.pow(words);
        BigInteger common = sum.gcd(all);
        is("lost(" + tenths + ", true)", x.lost(tenths, true), sum.divide(common).longValueExact());
        is("lost(" + tenths + ", false)", x.lost(tenths, false), all.divide(common).longValueExact());
    }

    private void draws() {
        WornLetters x = Due.stone(text);
        long random = dice.nextLong();
        x.seed(random);
        for (int m = 1; m <= 20; m++) {
            int sum = 0;
            for (int i = 0; i < m; i++) {
                random = random * 6364136223846793005L + 1442695040888963407L;
                sum += weightOf(readings[(int) ((random >> 33 & 0x7fffffffL) % number)]);
            }
            is("drawn(" + m + ")", x.drawn(m), sum);
        }
        is("seed(0)", x.seed(0), random);
    }
}
