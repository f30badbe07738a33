import java.math.BigInteger;

/** The boundary cases of promises 22 to 31: observations, Shapley values, probabilities, draws, slots, figures. */
public final class ChanceBoundaryTest {
    private static final int UNKNOWN = Sentences.UNKNOWN, OUTSIDE = Sentences.OUTSIDE, STATE = Sentences.STATE,
        FULL = Sentences.FULL, NONE = Sentences.NONE;
    private static final int[] FAR = Sentences.FAR;
    private static final String FIRST_NAMED =
        "If several apply to a call, the result is the one that the description of the method's result names first.";
    private static final String NONE_LAST = "a method returns NONE only if no error applies";
    private static final String UNCHANGED = "A call that returns an error changes nothing.";
    private static final String FRACTIONS = "Fractions are given in lowest terms with a positive denominator (0 is 0/1), "
        + "the numerator if the argument upper is true, otherwise the denominator.";

    private static final String S = "S111111";
    /** Two of three words: by rank 22, 02, 12, 20, 21 and, the lightest, 00, 01, 10, 11. */
    private static final String NINE = S + "dab005dba005dcc009l5";
    private static final int[] NINE_WEIGHTS = {18, 14, 14, 14, 14, 10, 10, 10, 10};
    /** Eight words of two letters in 23 units: 8 to the power of 8 readings, as many as there can be. */
    private static final String DENSE = S + "daa001dab002dac003dad004dae005daf006dba007dbb008l995";
    /** Just one reading, which needs all eight words. */
    private static final String ALL_EIGHT = S + "daa001dab001dac001dad001dae001daf001dba001dbb001laa.ab.ac.ad.ae.af.ba.bb";
    /** ab and a blank; behind them two of ab, cd and ef, or abcde: ten readings. */
    private static final String TEN = S + "dab001dcd001def001dabcde001lab.5";

    private static final Sentences s = new Sentences("ChanceBoundaryTest");

    public static void main(String[] args) {
        see();
        seeRefused();
        unsee();
        which();
        whichAfterStone();
        whichRefused();
        share();
        shareFractions();
        lost();
        lostFractions();
        seed();
        drawn();
        drawnRefused();
        keep();
        again();
        againRefused();
        count();
        s.finish(22, 31);
    }

    // ---- promises 22 and 23

    private static void see() {
        s.of(22, "Returns the number of observations");
        WornLetters x = Due.stone(NINE);
        for (int i = 1; i <= 6; i++) {
            s.is("see(2, 4, 0)", x.see(2, 4, 0), i);
            s.is("count(6)", x.count(6), i);
        }
        s.of(22, "FULL if there are 6 observations.");
        s.is("see(2, 4, 0), the seventh", x.see(2, 4, 0), FULL);
        s.is("count(6) behind it", x.count(6), 6);
        s.is("see(0, 0, 1), the seventh", x.see(0, 0, 1), FULL);
        s.is("which(0) behind it", x.which(0), 9);
        x.unsee();
        s.is("see(2, 4, 0) behind unsee", x.see(2, 4, 0), 1);
        s.of(22, "in the reading that is sought, a word begins at a unit, or does not.");
        WornLetters sought = Due.stone(NINE);
        sought.see(0, 0, 1);
        sought.see(2, 3, 1);
        s.is("which(1), the reading sought", sought.which(1), 1);
        s.is("which(0), it alone", sought.which(0), 1);
        s.is("readings(), still all", sought.readings(), 9);
        s.of(22, "1: it begins there; 0: it does not");
        for (int word = 0; word < 3; word++) {
            for (int unit = 0; unit < 5; unit++) {
                WornLetters yes = Due.stone(NINE);
                yes.see(word, unit, 1);
                s.is("which(0) behind see(" + word + ", " + unit + ", 1)", yes.which(0), unit % 3 == 0 ? 3 : 0);
                WornLetters no = Due.stone(NINE);
                no.see(word, unit, 0);
                s.is("which(0) behind see(" + word + ", " + unit + ", 0)", no.which(0), unit % 3 == 0 ? 6 : 9);
            }
        }
    }

    private static void seeRefused() {
        WornLetters x = Due.stone(NINE);
        s.of(22, "UNKNOWN if there is no such word or unit");
        s.is("see(-1, 0, 0)", x.see(-1, 0, 0), UNKNOWN);
        s.is("see(3, 0, 0)", x.see(3, 0, 0), UNKNOWN);
        s.is("see(0, -1, 0)", x.see(0, -1, 0), UNKNOWN);
        s.is("see(0, 5, 0)", x.see(0, 5, 0), UNKNOWN);
        for (int far : FAR) {
            s.is("see(" + far + ", 0, 0)", x.see(far, 0, 0), UNKNOWN);
            s.is("see(0, " + far + ", 0)", x.see(0, far, 0), UNKNOWN);
        }
        s.is("see(0, 0, 0) without a line", Due.stone(S + "dab001").see(0, 0, 0), UNKNOWN);
        s.is("see(0, 0, 0) without words", Due.stone(S + "l2").see(0, 0, 0), UNKNOWN);
        s.is("see(7, 22, 0) of eight words", Due.stone(DENSE).see(7, 22, 0), 1);
        s.is("see(8, 22, 0) of eight words", Due.stone(DENSE).see(8, 22, 0), UNKNOWN);
        s.is("see(7, 23, 0) of 23 units", Due.stone(DENSE).see(7, 23, 0), UNKNOWN);
        s.is("see(0, 23, 1) of 24 units", Due.stone(S + "dab001l996").see(0, 23, 1), 1);
        s.is("see(0, 24, 1) of 24 units", Due.stone(S + "dab001l996").see(0, 24, 1), UNKNOWN);
        s.of(22, "OUTSIDE if was is neither 0 nor 1");
        s.is("see(0, 0, -1)", x.see(0, 0, -1), OUTSIDE);
        s.is("see(0, 0, 2)", x.see(0, 0, 2), OUTSIDE);
        for (int far : FAR) {
            s.is("see(0, 0, " + far + ")", x.see(0, 0, far), OUTSIDE);
        }
        s.of(22, UNCHANGED);
        s.is("count(6) behind refused calls", x.count(6), 0);
        s.is("which(0) behind refused calls", x.which(0), 9);
        s.of(22, FIRST_NAMED);
        s.is("see(3, 0, 2), no word and no was", x.see(3, 0, 2), UNKNOWN);
        s.is("see(0, 5, -1), no unit and no was", x.see(0, 5, -1), UNKNOWN);
        for (int i = 0; i < 6; i++) {
            x.see(0, 0, 0);
        }
        s.is("see(0, 0, 2), no was and full", x.see(0, 0, 2), OUTSIDE);
        s.is("see(3, 0, 0), no word and full", x.see(3, 0, 0), UNKNOWN);
        s.is("see(0, 5, 0), no unit and full", x.see(0, 5, 0), UNKNOWN);
        s.is("see(0, 5, 2), all three", x.see(0, 5, 2), UNKNOWN);
        s.is("see(0, 0, 0), full alone", x.see(0, 0, 0), FULL);
    }

    private static void unsee() {
        s.of(23, "Returns how many there were.");
        WornLetters x = Due.stone(NINE);
        s.is("unsee() of none", x.unsee(), 0);
        x.see(0, 0, 1);
        s.is("unsee() of one", x.unsee(), 1);
        for (int i = 0; i < 7; i++) {
            x.see(0, 0, 1);
        }
        s.is("unsee() of six", x.unsee(), 6);
        s.is("unsee() again", x.unsee(), 0);
        s.of(23, "Removes all observations.");
        s.is("count(6)", x.count(6), 0);
        s.is("which(0)", x.which(0), 9);
        s.is("see(1, 0, 1), the first again", x.see(1, 0, 1), 1);
        s.is("which(0), by this one alone", x.which(0), 3);
    }

    // ---- promise 24

    private static void whichIs(int number, int rank, int... sights) {
        WornLetters x = Due.stone(NINE);
        StringBuilder all = new StringBuilder();
        for (int i = 0; i < sights.length; i += 3) {
            x.see(sights[i], sights[i + 1], sights[i + 2]);
            all.append(" see(" + sights[i] + ", " + sights[i + 1] + ", " + sights[i + 2] + ")");
        }
        s.is("which(0) behind" + all, x.which(0), number);
        s.is("which(1) behind" + all, x.which(1), rank);
    }

    private static void which() {
        s.of(24, "0: the number of these readings; 1: the lowest rank, among all readings, of one of them");
        whichIs(9, 0);
        whichIs(3, 0, 2, 0, 1);
        whichIs(3, 1, 0, 0, 1);
        whichIs(3, 2, 1, 0, 1);
        whichIs(6, 1, 2, 0, 0);
        whichIs(1, 0, 2, 0, 1, 2, 3, 1);
        whichIs(1, 5, 0, 0, 1, 0, 3, 1);
        whichIs(1, 8, 1, 0, 1, 1, 3, 1);
        whichIs(4, 5, 2, 0, 0, 2, 3, 0);
        whichIs(1, 8, 2, 0, 0, 2, 3, 0, 0, 0, 0, 0, 3, 0);
        s.of(24, "for which all observations are true.");
        whichIs(3, 1, 0, 0, 1, 0, 0, 1);
        whichIs(0, NONE, 0, 0, 1, 0, 0, 0);
        whichIs(0, NONE, 0, 0, 1, 1, 0, 1);
        whichIs(3, 1, 0, 0, 1, 1, 0, 0, 2, 0, 0);
        whichIs(0, NONE, 0, 0, 0, 1, 0, 0, 2, 0, 0);
        whichIs(0, NONE, 0, 1, 1);
        whichIs(0, NONE, 0, 4, 1);
        whichIs(9, 0, 0, 4, 0);
        whichIs(1, 8, 0, 0, 0, 0, 0, 0, 0, 3, 0, 0, 3, 0, 2, 0, 0, 2, 3, 0);
        WornLetters x = Due.stone(NINE);
        x.see(2, 3, 1);
        x.bar(2);
        s.is("which(0), an excluded word begins nowhere", x.which(0), 0);
        x.unsee();
        x.see(2, 3, 0);
        s.is("which(0), an excluded word begins nowhere", x.which(0), 4);
        // The second word may not follow the first: 00, 10 and 11.
        WornLetters ruled = Due.stone(S + "dab001dba101r010l5");
        ruled.see(1, 0, 1);
        s.is("which(0), by the rules", ruled.which(0), 2);
        s.is("which(1), by the rules", ruled.which(1), 1);
        ruled.see(1, 3, 1);
        s.is("which(0), by the rules", ruled.which(0), 1);
        s.is("which(1), by the rules", ruled.which(1), 2);
        // The first word may not follow the second: 00, 01 and 11.
        WornLetters other = Due.stone(S + "dab001dba101r100l5");
        other.see(1, 0, 1);
        s.is("which(0), by the other rule", other.which(0), 1);
        s.is("which(1), by the other rule", other.which(1), 2);
        WornLetters dense = Due.stone(DENSE);
        dense.see(0, 0, 1);
        s.is("which(0), dense", dense.which(0), 2097152);
        // Before 07777777 all that lack at most 6 of the greatest weight: 14 over 8.
        s.is("which(1), dense", dense.which(1), 3003);
        // 24 units: eight readings of seven words ab and one abc, then 35 of three and four.
        WornLetters longest = Due.stone(S + "dab001dabc001l996");
        longest.see(1, 21, 1);
        s.is("which(0), the last word of 24 units", longest.which(0), 21);
        s.is("which(1), the last word of 24 units", longest.which(1), 0);
        longest.unsee();
        longest.see(0, 22, 1);
        s.is("which(0), the last word of 24 units", longest.which(0), 22);
        s.is("which(1), the last word of 24 units", longest.which(1), 1);
        longest.see(0, 0, 0);
        longest.see(0, 4, 0);
        s.is("which(0), abc twice, then ab at 22", longest.which(0), 6);
        // Before 1100110: 8 heavier ones, 15 that begin with 0, 10 with 10, and 1100011 and 1100101.
        s.is("which(1), abc twice, then ab at 22", longest.which(1), 35);
        for (int unit = 3; unit <= 15; unit += 3) {
            dense.see(0, unit, 1);
        }
        s.is("which(0), dense, six words known", dense.which(0), 64);
    }

    private static void read(WornLetters x, String text) {
        Due.write(x, text);
        x.stone();
    }

    private static void whichAfterStone() {
        s.of(24, "(A word that does not exist any more begins nowhere, and nothing begins at a unit that does not exist any more.)");
        String twoWords = S + "dab005dba005l5";
        for (int was = 0; was <= 1; was++) {
            WornLetters x = Due.stone(NINE);
            x.see(2, 0, was);
            read(x, twoWords);
            s.is("which(0), word 2 of two, was " + was, x.which(0), was == 1 ? 0 : 4);
            s.is("which(1), word 2 of two, was " + was, x.which(1), was == 1 ? NONE : 0);
            read(x, NINE);
            s.is("which(0), word 2 of three again, was " + was, x.which(0), was == 1 ? 3 : 6);
            WornLetters y = Due.stone(S + "dab005dba005l6");
            y.see(1, 5, was);
            read(y, twoWords);
            s.is("which(0), unit 5 of five, was " + was, y.which(0), was == 1 ? 0 : 4);
            s.is("which(1), unit 5 of five, was " + was, y.which(1), was == 1 ? NONE : 0);
            // A word that ends the line has no blank behind it: no word begins two units beyond its end.
            WornLetters z = Due.stone(twoWords);
            z.see(0, 3, was);
            read(z, S + "dab005dba005l2");
            s.is("which(0), unit 3 of two, was " + was, z.which(0), was == 1 ? 0 : 2);
            WornLetters full = Due.stone(DENSE + "1");
            full.see(7, 23, was);
            read(full, S + "dab001");
            s.is("which(0) without a line, was " + was, full.which(0), 0);
            s.is("which(1) without a line, was " + was, full.which(1), NONE);
            read(full, S + "dab001l2");
            s.is("which(0), neither word nor unit, was " + was, full.which(0), was == 1 ? 0 : 1);
            WornLetters first = Due.stone(S + "dab001l2");
            first.see(0, 0, was);
            read(first, S + "l2");
            s.is("which(0), unit 0, no words, was " + was, first.which(0), 0);
            read(first, S + "dba001l2");
            s.is("which(0), another word 0, was " + was, first.which(0), was);
        }
    }

    private static void whichRefused() {
        s.of(24, "NONE if what is 1 and there are no such readings");
        WornLetters x = Due.stone(S + "dab001l3");
        s.is("which(1) without readings", x.which(1), NONE);
        s.is("which(0) without readings", x.which(0), 0);
        s.is("which(1) of a new object", new WornLetters().which(1), NONE);
        s.is("which(0) of a new object", new WornLetters().which(0), 0);
        s.of(24, "OUTSIDE if what is neither 0 nor 1.");
        WornLetters y = Due.stone(NINE);
        s.is("which(-1)", y.which(-1), OUTSIDE);
        s.is("which(2)", y.which(2), OUTSIDE);
        for (int far : FAR) {
            s.is("which(" + far + ")", y.which(far), OUTSIDE);
        }
        s.of(24, NONE_LAST);
        s.is("which(2) without readings", x.which(2), OUTSIDE);
        s.is("which(-1) without readings", x.which(-1), OUTSIDE);
    }

    // ---- promise 25

    private static void shareIs(WornLetters x, int word, long numerator, long denominator) {
        s.is("share(" + word + ", true)", x.share(word, true), numerator);
        s.is("share(" + word + ", false)", x.share(word, false), denominator);
    }

    private static void share() {
        s.of(25, "The value is the mean increase of the number of readings when the word comes.");
        // Each reading counts for the word that comes last of those that it needs, so they share it equally.
        // ab alone: 1; with cd or ef alone: 3 each; with both: 2; with abcde: 1.
        WornLetters x = Due.stone(TEN);
        s.is("readings()", x.readings(), 10);
        shareIs(x, 0, 31, 6);
        shareIs(x, 1, 13, 6);
        shareIs(x, 2, 13, 6);
        shareIs(x, 3, 1, 2);
        shareIs(Due.stone(S + "dab001l2"), 0, 1, 1);
        shareIs(Due.stone(S + "dab001l995"), 0, 1, 1);
        shareIs(Due.stone(DENSE), 0, 2097152, 1);
        shareIs(Due.stone(DENSE), 7, 2097152, 1);
        s.of(25, "those that have not come are excluded, too (those that are excluded now stay so).");
        x.bar(3);
        shareIs(x, 3, 0, 1);
        shareIs(x, 0, 14, 3);
        shareIs(x, 1, 13, 6);
        x.bar(3);
        x.bar(2);
        // ab alone: 1; with cd: 3; with abcde: 1.
        shareIs(x, 0, 3, 1);
        shareIs(x, 1, 3, 2);
        shareIs(x, 2, 0, 1);
        shareIs(x, 3, 1, 2);
        x.bar(0);
        for (int word = 0; word < 4; word++) {
            shareIs(x, word, 0, 1);
        }
        s.is("count(4), nothing has changed", x.count(4), 5);
        s.of(25, "UNKNOWN if there is no such word.");
        for (int bad : new int[] {-1, 4}) {
            shareIs(x, bad, UNKNOWN, UNKNOWN);
        }
        for (int far : FAR) {
            shareIs(x, far, UNKNOWN, UNKNOWN);
        }
        shareIs(Due.stone(DENSE), 8, UNKNOWN, UNKNOWN);
        shareIs(new WornLetters(), 0, UNKNOWN, UNKNOWN);
    }

    private static void shareFractions() {
        s.of(25, FRACTIONS);
        WornLetters x = Due.stone(ALL_EIGHT);
        s.is("readings()", x.readings(), 1);
        for (int word = 0; word < 8; word++) {
            shareIs(x, word, 1, 8);
        }
        String words = "daa001dab001dac001dad001dae001daf001dba001dbb001";
        String line = "aa.ab.ac.ad.ae.af.ba.bb";
        for (int n = 1; n <= 8; n++) {
            WornLetters y = Due.stone(S + words + "l" + line.substring(0, 3 * n - 1));
            shareIs(y, 0, 1, n);
            shareIs(y, n - 1, 1, n);
            if (n < 8) {
                shareIs(y, n, 0, 1);
            }
        }
        shareIs(Due.stone(S + "dab001l3"), 0, 0, 1);
        shareIs(Due.stone(S + "dab001"), 0, 0, 1);
        // Two readings of two words, and one of one: 1/2 + 1/2 + 1 and 1/2 + 1/2 + 1.
        shareIs(Due.stone(S + "dab001dba001l5"), 0, 2, 1);
    }

    // ---- promise 26

    private static void lostIs(WornLetters x, int p, long numerator, long denominator) {
        s.is("lost(" + p + ", true)", x.lost(p, true), numerator);
        s.is("lost(" + p + ", false)", x.lost(p, false), denominator);
    }

    private static void lost() {
        s.of(26, "`x`: 0 to 10");
        WornLetters x = Due.stone(S + "dab001lab");
        lostIs(x, -1, OUTSIDE, OUTSIDE);
        lostIs(x, 0, 1, 1);
        lostIs(x, 10, 0, 1);
        lostIs(x, 11, OUTSIDE, OUTSIDE);
        s.of(26, "OUTSIDE if x is out of range.");
        for (int far : FAR) {
            lostIs(x, far, OUTSIDE, OUTSIDE);
        }
        lostIs(new WornLetters(), -1, OUTSIDE, OUTSIDE);
        lostIs(new WornLetters(), 11, OUTSIDE, OUTSIDE);
        s.of(26, "if each word is forgotten (excluded) with the probability x / 10, independently of the others");
        WornLetters either = Due.stone(S + "dab001dac001l2");
        WornLetters both = Due.stone(S + "dab001dac001lab.ac");
        int[] eitherUpper = {1, 99, 24, 91, 21, 3, 16, 51, 9, 19, 0};
        int[] eitherLower = {1, 100, 25, 100, 25, 4, 25, 100, 25, 100, 1};
        int[] bothUpper = {1, 81, 16, 49, 9, 1, 4, 9, 1, 1, 0};
        int[] bothLower = {1, 100, 25, 100, 25, 4, 25, 100, 25, 100, 1};
        for (int p = 0; p <= 10; p++) {
            lostIs(either, p, eitherUpper[p], eitherLower[p]);
            lostIs(both, p, bothUpper[p], bothLower[p]);
        }
        s.of(26, "words that are excluded now stay so.");
        either.bar(0);
        lostIs(either, 3, 7, 10);
        lostIs(either, 0, 1, 1);
        both.bar(0);
        lostIs(both, 0, 0, 1);
        lostIs(both, 3, 0, 1);
        either.bar(1);
        lostIs(either, 0, 0, 1);
        s.is("count(4), nothing has changed", either.count(4), 3);
    }

    private static void lostFractions() {
        s.of(26, FRACTIONS);
        WornLetters one = Due.stone(TEN);
        int[] upper = {1, 9, 4, 7, 3, 1, 2, 3, 1, 1, 0};
        int[] lower = {1, 10, 5, 10, 5, 2, 5, 10, 5, 10, 1};
        for (int p = 0; p <= 10; p++) {
            lostIs(one, p, upper[p], lower[p]);
        }
        WornLetters all = Due.stone(ALL_EIGHT);
        lostIs(all, 0, 1, 1);
        lostIs(all, 1, 43046721, 100000000);
        lostIs(all, 2, 65536, 390625);
        lostIs(all, 5, 1, 256);
        lostIs(all, 9, 1, 100000000);
        lostIs(all, 10, 0, 1);
        WornLetters any = Due.stone(DENSE);
        lostIs(any, 0, 1, 1);
        lostIs(any, 1, 99999999, 100000000);
        lostIs(any, 5, 255, 256);
        lostIs(any, 9, 56953279, 100000000);
        lostIs(any, 10, 0, 1);
        lostIs(Due.stone(S + "dab001l3"), 0, 0, 1);
        lostIs(Due.stone(S + "dab001"), 5, 0, 1);
        lostIs(Due.stone(S + "l3"), 0, 0, 1);
        lostIs(new WornLetters(), 0, 0, 1);
        lostIs(new WornLetters(), 10, 0, 1);
    }

    // ---- promises 27 and 28

    private static void seed() {
        s.of(27, "Returns the previous one.");
        WornLetters x = new WornLetters();
        s.is("seed(1)", x.seed(1), 0);
        s.is("seed(Long.MIN)", x.seed(Long.MIN_VALUE), 1);
        s.is("seed(Long.MAX)", x.seed(Long.MAX_VALUE), Long.MIN_VALUE);
        s.is("seed(-1)", x.seed(-1), Long.MAX_VALUE);
        s.is("seed(2^32)", x.seed(4294967296L), -1);
        s.is("seed(2^31)", x.seed(2147483648L), 4294967296L);
        s.is("seed(0)", x.seed(0), 2147483648L);
        s.is("seed(0)", x.seed(0), 0);
        s.of(27, "Sets the random number.");
        x.seed(-5);
        x.drawn(1);
        s.is("seed(0) behind one draw", x.seed(0), following(-5));
    }

    private static long following(long x) {
        BigInteger next = BigInteger.valueOf(x).multiply(new BigInteger("6364136223846793005"));
        return next.add(new BigInteger("1442695040888963407")).longValue();
    }

    private static int upper31(long x) {
        return BigInteger.valueOf(x).mod(BigInteger.ONE.shiftLeft(64)).shiftRight(33).intValueExact();
    }

    private static void drawn() {
        s.of(28, "For each draw the random number x becomes x * 6364136223846793005 + 1442695040888963407");
        WornLetters once = Due.stone(NINE);
        once.drawn(1);
        s.is("seed(1) behind a draw from 0", once.seed(1), 1442695040888963407L);
        once.drawn(1);
        s.is("seed(-1) behind a draw from 1", once.seed(-1), 7806831264735756412L);
        once.drawn(1);
        s.is("seed(0) behind a draw from -1", once.seed(0), -4921441182957829598L);
        once.drawn(3);
        s.is("seed(0) behind three draws from 0", once.seed(0), following(following(following(0))));
        s.of(28, "(long arithmetic that wraps); let d be its upper 31 bits, as a number of 0 or more.");
        long[] seeds = {0, 1, -1, Long.MIN_VALUE, Long.MAX_VALUE, 4611686018427387904L, 3, -12345678901234L};
        int high = 0;
        for (long seed : seeds) {
            WornLetters x = Due.stone(NINE);
            x.seed(seed);
            long random = seed;
            for (int i = 0; i < 10; i++) {
                random = following(random);
                high += random < 0 ? 1 : 0;
                s.is("drawn(1), draw " + i + " from " + seed, x.drawn(1), NINE_WEIGHTS[upper31(random) % 9]);
            }
            s.is("seed(0) behind ten draws from " + seed, x.seed(0), random);
        }
        s.is("random numbers below 0 were among them", high > 20 ? 1 : 0, 1);
        s.of(28, "Draws m readings with pseudo-random numbers; only the random number changes.");
        for (int m : new int[] {1, 2, 19, 20}) {
            WornLetters x = Due.stone(NINE);
            x.bar(0);
            x.undo();
            int sum = 0;
            long random = 0;
            for (int i = 0; i < m; i++) {
                random = following(random);
                sum += NINE_WEIGHTS[upper31(random) % 9];
            }
            s.is("drawn(" + m + ")", x.drawn(m), sum);
            s.is("seed(0) behind it", x.seed(0), random);
            s.is("readings() behind it", x.readings(), 9);
            s.is("count(5) behind it", x.count(5), 0);
        }
        s.of(28, "The reading with the rank d modulo (number of readings) is drawn, if there are readings.");
        WornLetters one = Due.stone(S + "dab009l995");
        s.is("drawn(20) of one reading, the greatest sum", one.drawn(20), 1440);
        WornLetters least = Due.stone(S + "dab001lab");
        s.is("drawn(1) of one reading, the smallest sum", least.drawn(1), 1);
        WornLetters dense = Due.stone(DENSE);
        long random = 0;
        for (int i = 0; i < 10; i++) {
            random = following(random);
            int weight = dense.rank(upper31(random) % 16777216, -1);
            s.is("drawn(1), draw " + i + " of 16777216 readings", dense.drawn(1), weight);
        }
        WornLetters longest = Due.stone(S + "dab001dabc001l996");
        random = 0;
        for (int i = 0; i < 20; i++) {
            random = following(random);
            s.is("drawn(1), draw " + i + " of 24 units", longest.drawn(1), upper31(random) % 43 < 8 ? 8 : 7);
        }
        s.of(28, "(0 if there are no readings)");
        WornLetters none = Due.stone(S + "dab001l3");
        s.is("drawn(2) without readings", none.drawn(2), 0);
        s.is("seed(0) behind it: the random number has changed", none.seed(0), following(following(0)));
        s.is("drawn(20) of a new object", new WornLetters().drawn(20), 0);
    }

    private static void drawnRefused() {
        s.of(28, "`m`: 1 to 20");
        WornLetters one = Due.stone(S + "dab003lab");
        s.is("drawn(0)", one.drawn(0), OUTSIDE);
        s.is("drawn(1)", one.drawn(1), 3);
        s.is("drawn(20)", one.drawn(20), 60);
        s.is("drawn(21)", one.drawn(21), OUTSIDE);
        s.of(28, "Returns the sum of the weights of the readings that are drawn");
        s.is("drawn(7)", one.drawn(7), 21);
        s.of(28, "OUTSIDE if m is out of range.");
        WornLetters x = Due.stone(NINE);
        x.seed(9);
        s.is("drawn(0)", x.drawn(0), OUTSIDE);
        s.is("drawn(-1)", x.drawn(-1), OUTSIDE);
        s.is("drawn(21)", x.drawn(21), OUTSIDE);
        for (int far : FAR) {
            s.is("drawn(" + far + ")", x.drawn(far), OUTSIDE);
        }
        s.is("drawn(0) without readings", new WornLetters().drawn(0), OUTSIDE);
        s.is("drawn(21) without readings", new WornLetters().drawn(21), OUTSIDE);
        s.of(28, UNCHANGED);
        s.is("seed(9) behind refused calls", x.seed(9), 9);
    }

    // ---- promises 29 and 30

    private static final String SLOTTED = "S121111dab003dba104dcc215r012lab.4";

    private static void keep() {
        s.of(29, "Returns the number of words");
        s.is("keep(0) without words", new WornLetters().keep(0), 0);
        s.is("keep(1) of one word", Due.stone(S + "dab001").keep(1), 1);
        s.is("keep(0) of eight words", Due.stone(DENSE).keep(0), 8);
        s.is("keep(1) of eight words", Due.stone(DENSE).keep(1), 8);
        s.of(29, "`slot`: 0 or 1");
        s.is("keep(-1)", Due.stone(SLOTTED).keep(-1), UNKNOWN);
        s.is("keep(0)", Due.stone(SLOTTED).keep(0), 3);
        s.is("keep(1)", Due.stone(SLOTTED).keep(1), 3);
        s.is("keep(2)", Due.stone(SLOTTED).keep(2), UNKNOWN);
        s.of(29, "UNKNOWN if slot is out of range.");
        WornLetters x = Due.stone(SLOTTED);
        for (int far : FAR) {
            s.is("keep(" + far + ")", x.keep(far), UNKNOWN);
        }
        s.is("again(0) behind refused calls", x.again(0), STATE);
        s.is("again(1) behind refused calls", x.again(1), STATE);
        s.of(29, "in place of what it contains.");
        x.weigh(0, 1);
        x.keep(0);
        x.weigh(0, 2);
        x.keep(1);
        s.is("count(5), acts stay", x.count(5), 2);
        x.weigh(0, 6);
        x.keep(0);
        x.weigh(0, 9);
        x.again(1);
        s.is("word(0, 3) from the other slot", x.word(0, 3), 2);
        x.again(0);
        s.is("word(0, 3) from the slot kept twice", x.word(0, 3), 6);
        s.of(29, "Saves the line, which words are excluded, the rules and the weights in a slot");
        for (int slot = 0; slot <= 1; slot++) {
            WornLetters y = Due.stone(SLOTTED);
            y.wear(1);
            y.bar(2);
            y.setRule(0, 1, 0);
            y.weigh(1, 9);
            y.keep(slot);
            y.carve(1, 1);
            y.wear(0);
            y.wear(3);
            y.bar(2);
            y.bar(0);
            y.setRule(0, 1, 1);
            y.setRule(2, 2, 0);
            y.weigh(1, 1);
            y.weigh(2, 1);
            s.is("again(" + slot + ")", y.again(slot), 3);
            int[] line = {0, 7, 7, 6, 7, 7, 7, 7};
            for (int u = 0; u < line.length; u++) {
                s.is("line(" + u + ")", y.line(u), line[u]);
            }
            s.is("count(4)", y.count(4), 4);
            s.is("rule(0, 1)", y.rule(0, 1), 0);
            s.is("rule(2, 2)", y.rule(2, 2), 1);
            s.is("word(1, 3)", y.word(1, 3), 9);
            s.is("word(2, 3)", y.word(2, 3), 5);
            s.is("again of the other slot", y.again(1 - slot), STATE);
        }
    }

    private static void again() {
        s.of(30, "Restores all that from a slot, which keeps it.");
        WornLetters x = Due.stone(SLOTTED);
        x.keep(1);
        for (int turn = 0; turn < 3; turn++) {
            x.wear(0);
            x.bar(turn);
            x.setRule(turn, 0, 2);
            x.weigh(turn, 9);
            s.is("again(1), turn " + turn, x.again(1), 3);
            s.is("line(0)", x.line(0), 0);
            s.is("count(4)", x.count(4), 0);
            s.is("rule(" + turn + ", 0)", x.rule(turn, 0), 1);
            s.is("word(" + turn + ", 3)", x.word(turn, 3), 3 + turn);
        }
        s.of(30, "There are no acts to undo after that.");
        s.is("count(5)", x.count(5), 0);
        s.is("undo()", x.undo(), STATE);
        x.weigh(0, 1);
        s.is("undo() of an act behind it", x.undo(), 0);
        s.is("undo() of an act before it", x.undo(), STATE);
        WornLetters same = Due.stone(SLOTTED);
        for (int i = 0; i < 15; i++) {
            same.bar(0);
        }
        same.keep(0);
        s.is("count(5) before again, all as kept", same.count(5), 14);
        s.is("again(0), all as kept", same.again(0), 3);
        s.is("count(5)", same.count(5), 0);
        s.of(30, "Restores all that");
        WornLetters y = Due.stone(SLOTTED);
        y.keep(0);
        y.see(0, 0, 1);
        y.seed(44);
        y.write('1');
        y.again(0);
        s.is("count(6), observations are not of that", y.count(6), 1);
        s.is("seed(0), the random number is not of that", y.seed(0), 44);
        s.is("count(0), the text is not of that", y.count(0), SLOTTED.length() + 1);
        s.is("stone(), nor is the text's end", y.stone(), 9);
    }

    private static void againRefused() {
        s.of(30, "UNKNOWN if slot is out of range; STATE if the slot is empty.");
        WornLetters x = Due.stone(SLOTTED);
        x.bar(0);
        s.is("again(-1)", x.again(-1), UNKNOWN);
        s.is("again(0)", x.again(0), STATE);
        s.is("again(1)", x.again(1), STATE);
        s.is("again(2)", x.again(2), UNKNOWN);
        for (int far : FAR) {
            s.is("again(" + far + ")", x.again(far), UNKNOWN);
        }
        x.keep(0);
        s.is("again(1), the other slot is empty", x.again(1), STATE);
        s.of(30, "`slot`: 0 or 1");
        WornLetters both = Due.stone(SLOTTED);
        both.keep(0);
        both.keep(1);
        s.is("again(-1)", both.again(-1), UNKNOWN);
        s.is("again(0)", both.again(0), 3);
        s.is("again(1)", both.again(1), 3);
        s.is("again(2)", both.again(2), UNKNOWN);
        s.of(30, UNCHANGED);
        s.is("count(4) behind refused calls", x.count(4), 1);
        s.is("count(5) behind refused calls", x.count(5), 1);
        s.is("undo() behind refused calls", x.undo(), 0);
        s.of(5, "the slots are empty");
        s.is("again(0) of a new object", new WornLetters().again(0), STATE);
        s.is("again(0)", x.again(0), 3);
        x.stone();
        s.is("again(0) behind a stone", x.again(0), STATE);
        s.of(30, "Returns the number of words");
        WornLetters none = new WornLetters();
        none.keep(0);
        s.is("again(0) without words", none.again(0), 0);
        WornLetters eight = Due.stone(DENSE);
        eight.keep(1);
        s.is("again(1) of eight words", eight.again(1), 8);
    }

    // ---- promise 31

    private static void count() {
        s.of(31, "0: length of the text; 1: words; 2: units of the line; 3: units that are gaps; 4: the set of the "
            + "excluded words, as an int in which bit w stands for word w; 5: acts that can be undone; 6: observations");
        WornLetters x = Due.stone(DENSE + "1");
        for (int w = 0; w < 8; w++) {
            x.bar(w);
            s.is("count(4), words up to " + w, x.count(4), (1 << (w + 1)) - 1);
        }
        for (int i = 0; i < 7; i++) {
            x.setRule(0, 0, 1);
            x.see(7, 23, 0);
        }
        for (int i = 0; i < 60; i++) {
            x.write('a');
        }
        int[] most = {110, 8, 24, 24, 255, 14, 6};
        for (int what = 0; what <= 6; what++) {
            s.is("count(" + what + "), the most", x.count(what), most[what]);
            s.is("count(" + what + "), the least", new WornLetters().count(what), 0);
        }
        WornLetters y = Due.stone("S231111dab001dba001la1b.");
        y.bar(1);
        int[] some = {24, 2, 7, 1, 2, 1, 0};
        for (int what = 0; what <= 6; what++) {
            s.is("count(" + what + ")", y.count(what), some[what]);
        }
        y.wear(3);
        s.is("count(3), a letter of three units worn off", y.count(3), 4);
        y.carve(2, 6);
        s.is("count(3), a blank put in", y.count(3), 3);
        y.bar(0);
        y.bar(1);
        s.is("count(4), bit 0 alone", y.count(4), 1);
        s.is("count(3), all signs", Due.stone(S + "lab.").count(3), 0);
        s.of(31, "OUTSIDE if what is out of range.");
        s.is("count(-1)", y.count(-1), OUTSIDE);
        s.is("count(7)", y.count(7), OUTSIDE);
        for (int far : FAR) {
            s.is("count(" + far + ")", y.count(far), OUTSIDE);
        }
    }
}
