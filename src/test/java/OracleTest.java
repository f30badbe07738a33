import java.util.ArrayList;
import java.util.List;
import java.util.Random;

/** Random runs of calls, each answer compared with that of the oracle. The seeds are fixed, so a fault comes again. */
public final class OracleTest {
    private static final int RUNS = Integer.getInteger("runs", 300);
    private static final int FIRST = Integer.getInteger("first", 0);

    private final Due due = new Due("OracleTest");
    private final StringBuilder log = new StringBuilder();
    private Random dice;
    private WornLetters x;
    private Oracle o;
    private long withReadings = 0;
    private long queries = 0;

    public static void main(String[] args) {
        OracleTest test = new OracleTest();
        for (int run = FIRST; run < FIRST + RUNS && !test.due.failed(); run++) {
            test.run(run);
        }
        test.due.holds("a third of the runs' queries meet readings", test.withReadings * 3 > test.queries);
        for (int i = 0; i < 4000 && !test.due.failed(); i++) {
            test.faultOfRandomText(i);
        }
        test.due.finish();
    }

    private void run(int seed) {
        dice = new Random(seed);
        x = new WornLetters();
        o = new Oracle();
        log.setLength(0);
        int left = 512;
        for (int stones = 0; stones < 3 && left > 200; stones++) {
            String text = randomText();
            same("wipe()", x.wipe(), o.wipe());
            for (int i = 0; i < text.length(); i++) {
                same("write(" + (int) text.charAt(i) + ")", x.write(text.charAt(i)), o.write(text.charAt(i)));
            }
            same("fault()", x.fault(), o.fault());
            same("stone()", x.stone(), o.stone());
            left -= text.length() + 3;
            for (int i = 0; i < 60 && left > 0 && !due.failed(); i++, left--) {
                call();
            }
        }
        if (due.failed()) {
            System.out.println("run " + seed + ": " + log);
        }
    }

    private void same(String call, long got, long want) {
        log.append(call).append(" = ").append(got).append("; ");
        due.is(call, got, want);
    }

    private int near(int lowest, int highest) {
        if (dice.nextInt(12) == 0) {
            int[] odd = {lowest - 1, highest + 1, Integer.MIN_VALUE, Integer.MAX_VALUE, -1, 64};
            return odd[dice.nextInt(odd.length)];
        }
        return highest < lowest ? lowest : lowest + dice.nextInt(highest - lowest + 1);
    }

    private int someWord() {
        return near(0, o.spellings.size() - 1);
    }

    private int someUnit() {
        return near(0, o.state.units.length - 1);
    }

    // ---- texts

    private String randomText() {
        int length = 1 + dice.nextInt(3);
        StringBuilder t = new StringBuilder("S");
        int[] widths = new int[6];
        for (int i = 0; i < 6; i++) {
            widths[i] = dice.nextInt(3) == 0 ? 1 + dice.nextInt(3) : 1;
            t.append(widths[i]);
        }
        List<String> words = new ArrayList<>();
        int number = dice.nextInt(10) == 0 ? 0 : 1 + dice.nextInt(8);
        int letters = 1 + dice.nextInt(6);
        int kinds = 1 + dice.nextInt(3);
        int weights = dice.nextBoolean() ? 3 : 9;
        for (int i = 0; i < number; i++) {
            StringBuilder w = new StringBuilder();
            int size = 2 + dice.nextInt(1 + dice.nextInt(length + 1));
            for (int k = 0; k < size; k++) {
                w.append((char) ('a' + dice.nextInt(letters)));
            }
            words.add(w.toString());
            t.append('d').append(w).append(dice.nextInt(kinds)).append(dice.nextInt(3)).append(1 + dice.nextInt(weights));
        }
        boolean[] given = new boolean[9];
        int rules = dice.nextInt(4) == 0 ? dice.nextInt(10) : dice.nextInt(3);
        for (int i = 0; i < rules; i++) {
            int pq = dice.nextInt(9);
            if (!given[pq]) {
                given[pq] = true;
                t.append('r').append(pq / 3).append(pq % 3).append(dice.nextInt(3));
            }
        }
        if (dice.nextInt(15) > 0) {
            t.append('l').append(randomLine(words, widths));
        }
        if (dice.nextInt(8) == 0) {
            t.setCharAt(dice.nextInt(t.length()), "Sdrlabcf.0123459gx".charAt(dice.nextInt(18)));
        }
        return t.toString();
    }

    /** A sequence of words, with signs worn off, so that the line has readings in most cases. */
    private String randomLine(List<String> words, int[] widths) {
        StringBuilder line = new StringBuilder();
        int units = 0;
        int most = 4 + dice.nextInt(21);
        int worn = dice.nextInt(11);
        int gap = 0;
        for (int i = 0; i < 9 && !words.isEmpty(); i++) {
            String w = words.get(dice.nextInt(words.size()));
            int span = i == 0 ? 0 : 1;
            for (char c : w.toCharArray()) {
                span += widths[c - 'a'];
            }
            if (units + span > most) {
                continue;
            }
            units += span;
            for (char c : ((i == 0 || line.length() + gap == 0 ? "" : ".") + w).toCharArray()) {
                if (dice.nextInt(10) < worn) {
                    gap += c == '.' ? 1 : widths[c - 'a'];
                } else {
                    gap = flush(line, gap);
                    line.append(c);
                }
            }
        }
        flush(line, gap);
        if (line.length() == 0 || dice.nextInt(20) == 0) {
            line.append(1 + dice.nextInt(9));
        }
        return line.toString();
    }

    private int flush(StringBuilder line, int gap) {
        int left = gap;
        while (left > 0) {
            int part = Math.min(9, left);
            line.append(part);
            left -= part;
        }
        return 0;
    }

    // ---- calls

    private void call() {
        List<int[]> all = o.list();
        if (all == null) {
            // Too many readings for the oracle: signs are put in until it can list them.
            int unit = someUnit();
            int sign = near(0, 6);
            same("carve(" + unit + ", " + sign + ")", x.carve(unit, sign), o.carve(unit, sign));
            return;
        }
        queries++;
        withReadings += all.isEmpty() ? 0 : 1;
        int choice = dice.nextInt(34);
        if (choice < 10) {
            act(choice);
        } else if (choice < 24) {
            ask(choice, all.size());
        } else {
            other(choice);
        }
    }

    private void act(int choice) {
        int a = someWord();
        int u = someUnit();
        switch (choice) {
            case 0, 1 -> same("wear(" + u + ")", x.wear(u), o.wear(u));
            case 2 -> {
                int s = near(0, 6);
                same("carve(" + u + ", " + s + ")", x.carve(u, s), o.carve(u, s));
            }
            case 3 -> same("bar(" + a + ")", x.bar(a), o.bar(a));
            case 4 -> {
                int p = near(0, 2);
                int q = near(0, 2);
                int v = near(0, 2);
                same("setRule(" + p + ", " + q + ", " + v + ")", x.setRule(p, q, v), o.setRule(p, q, v));
            }
            case 5 -> {
                int v = near(1, 9);
                same("weigh(" + a + ", " + v + ")", x.weigh(a, v), o.weigh(a, v));
            }
            case 6, 7 -> same("undo()", x.undo(), o.undo());
            case 8 -> {
                int slot = near(0, 1);
                same("keep(" + slot + ")", x.keep(slot), o.keep(slot));
            }
            default -> {
                int slot = near(0, 1);
                same("again(" + slot + ")", x.again(slot), o.again(slot));
            }
        }
    }

    private void ask(int choice, int number) {
        int a = someWord();
        int u = someUnit();
        boolean upper = dice.nextBoolean();
        switch (choice) {
            case 10, 11 -> {
                same("readings()", x.readings(), number);
                long rank = dice.nextInt(8) == 0 ? near(-1, number) : dice.nextInt(number + 1);
                int k = near(-2, 4);
                same("rank(" + rank + ", " + k + ")", x.rank(rank, k), o.rank(rank, k));
                same("rank(" + rank + ", -1)", x.rank(rank, -1), o.rank(rank, -1));
            }
            case 12, 13 -> {
                int s = near(0, 6);
                same("stands(" + u + ", " + s + ")", x.stands(u, s), o.stands(u, s));
            }
            case 14 -> same("begins(" + a + ", " + u + ")", x.begins(a, u), o.begins(a, u));
            case 15 -> same("sure(" + u + ")", x.sure(u), o.sure(u));
            case 16, 17 -> judge();
            case 18 -> {
                same("which(0)", x.which(0), o.which(0));
                same("which(1)", x.which(1), o.which(1));
            }
            case 19 -> same("share(" + a + ", " + upper + ")", x.share(a, upper), o.share(a, upper));
            case 20, 21 -> {
                int p = near(0, 10);
                same("lost(" + p + ", " + upper + ")", x.lost(p, upper), o.lost(p, upper));
            }
            case 22 -> same("lies(" + a + ", " + u + ")", x.lies(a, u), o.lies(a, u));
            default -> {
                int m = near(1, 20);
                same("drawn(" + m + ")", x.drawn(m), o.drawn(m));
            }
        }
    }

    private void other(int choice) {
        int a = someWord();
        int u = someUnit();
        int what = near(0, 6);
        switch (choice) {
            case 24, 25 -> {
                int was = near(0, 1);
                same("see(" + a + ", " + u + ", " + was + ")", x.see(a, u, was), o.see(a, u, was));
            }
            case 26 -> same("unsee()", x.unsee(), o.unsee());
            case 27 -> {
                long v = dice.nextLong();
                same("seed(" + v + ")", x.seed(v), o.seed(v));
            }
            case 28 -> {
                int p = near(0, 2);
                int q = near(0, 2);
                same("rule(" + p + ", " + q + ")", x.rule(p, q), o.rule(p, q));
            }
            case 29 -> same("line(" + u + ")", x.line(u), o.line(u));
            case 30 -> same("word(" + a + ", " + what + ")", x.word(a, what), o.word(a, what));
            case 31 -> same("which(" + what + ")", x.which(what), o.which(what));
            default -> same("count(" + what + ")", x.count(what), o.count(what));
        }
    }

    private void judge() {
        int n = near(1, 3);
        StringBuilder digits = new StringBuilder();
        for (int i = 0; i < n && i < 3; i++) {
            digits.append(statement());
        }
        long row = digits.length() == 0 ? near(0, 99999) : Long.parseLong(digits.toString());
        int m = dice.nextInt(30) == 0 ? n - 1 : n;
        int want = o.judge(m, row);
        if (!o.tooMany) {
            same("judge(" + m + ", " + row + ")", x.judge(m, row), want);
        }
    }

    private String statement() {
        int unit = dice.nextInt(10) == 0 ? dice.nextInt(100) : dice.nextInt(o.state.units.length + 1);
        int word = dice.nextInt(10) == 0 ? dice.nextInt(10) : dice.nextInt(o.spellings.size() + 1);
        int sign = dice.nextInt(8);
        int certain = unit < o.state.units.length && dice.nextInt(3) > 0 ? Math.max(0, o.sure(unit)) : sign;
        int last = dice.nextInt(12) == 0 ? dice.nextInt(10) : 0;
        int fourth = dice.nextInt(12) == 0 ? dice.nextInt(10) : 0;
        return switch (dice.nextInt(9)) {
            case 0 -> String.format("1%02d%d%d", unit, fourth, last);
            case 1 -> String.format("2%02d%d%d", unit, sign, last);
            case 2 -> String.format("3%d%d%d%d", word, dice.nextInt(12) / 11, fourth, last);
            case 3 -> String.format("4%d%d%d%d", dice.nextInt(13) / 4, dice.nextInt(13) / 4, dice.nextInt(13) / 4, last);
            case 4, 5 -> String.format("5%d%02d%d", word, unit, last);
            case 6 -> String.format("6%02d%d%d", dice.nextInt(100), fourth, last);
            case 7 -> String.format("7%02d%d%d", unit, certain, last);
            default -> String.format("%05d", dice.nextInt(100000));
        };
    }

    /** A text that is valid up to a place, with one character changed, cut off or added. */
    private void faultOfRandomText(int seed) {
        dice = new Random(seed);
        String t = randomText();
        String signs = "Sdrlabcdefg.0123456789/:`";
        for (int i = 0; i < 1 + dice.nextInt(2); i++) {
            int at = dice.nextInt(t.length() + 1);
            char c = signs.charAt(dice.nextInt(signs.length()));
            t = switch (dice.nextInt(4)) {
                case 0 -> t.substring(0, at);
                case 1 -> t.substring(0, at) + c + t.substring(at);
                case 2 -> t + c;
                default -> at < t.length() ? t.substring(0, at) + c + t.substring(at + 1) : t + c;
            };
            t = t.length() > 110 ? t.substring(0, 110) : t.isEmpty() ? "S" : t;
        }
        due.is("fault of " + t, Due.fault(t), Oracle.faultOf(t));
    }
}
