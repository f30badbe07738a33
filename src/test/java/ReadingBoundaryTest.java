/** The boundary cases of promises 15 to 21: where words can lie, readings and their ranks, certain signs, statements. */
public final class ReadingBoundaryTest {
    private static final int UNKNOWN = Sentences.UNKNOWN, OUTSIDE = Sentences.OUTSIDE, NONE = Sentences.NONE;
    private static final int LEAST = Sentences.LEAST, MOST = Sentences.MOST;
    private static final int[] FAR = Sentences.FAR;
    private static final String FIRST_NAMED =
        "If several apply to a call, the result is the one that the description of the method's result names first.";
    private static final String NONE_LAST = "a method returns NONE only if no error applies";

    private static final String S = "S111111";
    /** Widths 1, 2 and 3 for a, b and c. */
    private static final String WIDE = "S123111";
    /** ab and ba, three units each: seven units have the readings 00, 01, 10 and 11. */
    private static final String FOUR = WIDE + "dab001dba002l7";
    /** ab lies at 0, a blank at 3, seven gaps: the readings 000, 001, 010 and 011. */
    private static final String JUDGED = WIDE + "dab001dba101lab.7";
    /** Eight words of two letters in 23 units: 8 to the power of 8 readings, as many as there can be. */
    private static final String DENSE = S + "daa001dab002dac003dad004dae005daf006dba007dbb008l995";

    private static final Sentences s = new Sentences("ReadingBoundaryTest");

    public static void main(String[] args) {
        liesByDescription();
        lies();
        readingsOfWords();
        readingsOfLines();
        readingsOfRules();
        readings();
        rankNumbers();
        rankOrder();
        rankByRules();
        rankBehindActs();
        longestLine();
        rankRefused();
        stands();
        begins();
        sure();
        judgeRange();
        judgeEachStatement();
        judgeRestOfStatements();
        judgeZeros();
        judgeSequence();
        s.finish(15, 21);
    }

    private static void liesIs(String line, int word, int unit, int due) {
        WornLetters x = Due.stone(WIDE + "dab001dac001dbb001l" + line);
        s.is("lies(" + word + ", " + unit + ") of " + line, x.lies(word, unit), due);
    }

    // ---- promise 15

    private static void liesByDescription() {
        s.of(15, "A sign can lie at a unit if the same sign begins there on the line");
        liesIs("ab", 0, 0, 1);
        liesIs("a2", 0, 0, 1);
        liesIs("1b", 0, 0, 1);
        liesIs("ac", 1, 0, 1);
        liesIs("ac", 0, 0, 0);
        liesIs("ab1", 1, 0, 0);
        liesIs("ba", 0, 0, 0);
        liesIs("a.1", 0, 0, 0);
        liesIs("bb", 2, 0, 1);
        liesIs("bb", 2, 1, 0);
        liesIs("b3", 2, 1, 0);
        liesIs("1b2", 2, 1, 1);
        liesIs("1b2", 2, 0, 0);
        s.of(15, "or if all units that it would cover are units of the line and gaps.");
        liesIs("3", 0, 0, 1);
        liesIs("2", 0, 0, 0);
        liesIs("4", 0, 1, 1);
        liesIs("4", 0, 2, 0);
        liesIs("4", 1, 0, 1);
        liesIs("4", 1, 1, 0);
        liesIs("3", 1, 0, 0);
        liesIs("a2.", 0, 0, 1);
        liesIs("a1.1", 0, 0, 0);
        liesIs("a3.", 1, 0, 1);
        liesIs("a2.1", 1, 0, 0);
        liesIs("a2a", 1, 0, 0);
        liesIs("996", 0, 21, 1);
        liesIs("996", 0, 22, 0);
        liesIs("996", 0, 23, 0);
        liesIs("996", 1, 20, 1);
        liesIs("996", 1, 21, 0);
        liesIs("1", 0, 0, 0);
        s.of(15, "A word can lie at a unit if its letters, one behind the other from this unit on, can lie there.");
        WornLetters x = Due.stone(WIDE + "dabcba001l9.");
        s.is("lies(0, 0), nine units", x.lies(0, 0), 1);
        s.is("lies(0, 1), the last letter on a blank", x.lies(0, 1), 0);
        WornLetters y = Due.stone("S333333dabcde001l996");
        s.is("lies(0, 9), up to the end", y.lies(0, 9), 1);
        s.is("lies(0, 10), one unit beyond", y.lies(0, 10), 0);
    }

    private static void lies() {
        s.of(15, "Tells whether a word, excluded or not, can lie at a unit.");
        WornLetters x = Due.stone(FOUR);
        x.bar(0);
        s.is("lies(0, 4), excluded", x.lies(0, 4), 1);
        s.is("lies(0, 5), excluded", x.lies(0, 5), 0);
        s.is("lies(1, 4), not excluded", x.lies(1, 4), 1);
        s.of(15, "UNKNOWN if there is no such word or unit.");
        s.is("lies(-1, 0)", x.lies(-1, 0), UNKNOWN);
        s.is("lies(2, 0)", x.lies(2, 0), UNKNOWN);
        s.is("lies(0, -1)", x.lies(0, -1), UNKNOWN);
        s.is("lies(0, 6), the last unit", x.lies(0, 6), 0);
        s.is("lies(0, 7)", x.lies(0, 7), UNKNOWN);
        s.is("lies(2, 7)", x.lies(2, 7), UNKNOWN);
        for (int far : FAR) {
            s.is("lies(" + far + ", 0)", x.lies(far, 0), UNKNOWN);
            s.is("lies(0, " + far + ")", x.lies(0, far), UNKNOWN);
        }
        s.is("lies(0, 0) of a new object", new WornLetters().lies(0, 0), UNKNOWN);
        s.is("lies(0, 0) without a line", Due.stone(S + "dab001").lies(0, 0), UNKNOWN);
        s.is("lies(0, 0) without words", Due.stone(S + "l2").lies(0, 0), UNKNOWN);
        s.is("lies(0, 23)", Due.stone(S + "dab001l996").lies(0, 23), 0);
        s.is("lies(0, 24)", Due.stone(S + "dab001l996").lies(0, 24), UNKNOWN);
    }

    // ---- promise 16

    private static void readingsAre(String text, long due) {
        s.is("readings() of " + text, Due.stone(text).readings(), due);
    }

    private static void readingsOfWords() {
        s.of(16, "A reading is a sequence of one or more words, none of which is excluded (a word may occur several times).");
        readingsAre(S + "dab001l2", 1);
        readingsAre(S + "dab001l5", 1);
        readingsAre(S + "dab001l995", 1);
        s.is("rank(0, -2), one word", Due.stone(S + "dab001l2").rank(0, -2), 1);
        s.is("rank(0, -2), the same word eight times", Due.stone(S + "dab001l995").rank(0, -2), 8);
        readingsAre(S + "l2", 0);
        WornLetters x = Due.stone(FOUR);
        x.bar(0);
        s.is("readings() with one of two words excluded", x.readings(), 1);
        s.is("rank(0, 0)", x.rank(0, 0), 1);
        x.bar(1);
        s.is("readings() with both excluded", x.readings(), 0);
        x.bar(0);
        s.is("readings() with the first included again", x.readings(), 1);
        x.bar(1);
        s.is("readings() with both included again", x.readings(), 4);
        readingsAre(S + "dab001dab001l2", 2);
    }

    private static void readingsOfLines() {
        s.of(16, "beginning at unit 0, lie one behind the other with exactly one blank between two words");
        readingsAre(S + "dab001l.ab", 0);
        readingsAre(S + "dab001l.2", 0);
        readingsAre(S + "dab001lab.", 0);
        readingsAre(S + "dab001l2.", 0);
        readingsAre(S + "dab001l2.2", 1);
        readingsAre(S + "dab001l2..2", 0);
        readingsAre(S + "dab001labab", 0);
        readingsAre(S + "dab001l.", 0);
        s.of(16, "all words and blanks can lie where they are");
        readingsAre(S + "dab001lab.ab", 1);
        readingsAre(S + "dab001labcab", 0);
        readingsAre(S + "dab001lab1ab", 1);
        readingsAre(S + "dab001lab1ac", 0);
        readingsAre(S + "dab001l4b", 1);
        readingsAre(S + "dab001l4a", 0);
        readingsAre(S + "dabc001l1.1", 0);
        readingsAre(WIDE + "dab001lab1ab", 1);
        readingsAre(WIDE + "dab001labbab", 0);
        readingsAre(WIDE + "dac001dbb001lac", 1);
        s.of(16, "together they are exactly as long as the line");
        int[] due = {0, 1, 0, 0, 1, 0, 0, 1, 0};
        for (int units = 1; units <= 9; units++) {
            readingsAre(S + "dab001l" + units, due[units - 1]);
        }
        readingsAre(S + "dab001l994", 0);
        readingsAre(S + "dab001l995", 1);
        readingsAre(S + "dab001l996", 0);
        // Words and blanks take 3 or 4 units, 25 in all: seven and one (8 orders) or three and four (35).
        readingsAre(S + "dab001dabc001l996", 43);
        readingsAre("S333333dabcde001l96", 1);
        readingsAre("S333333dabcde001l97", 0);
        readingsAre("S333333dabcde001l95", 0);
        s.of(16, "(A line without units has no readings.)");
        readingsAre(S, 0);
        readingsAre(S + "dab001", 0);
        readingsAre(S + "dab001r000", 0);
        s.is("readings() of a new object", new WornLetters().readings(), 0);
    }

    private static void readingsOfRules() {
        s.of(16, "0 no; 1 yes (at first); 2 only if the two words have the same ending.");
        String twoKinds = S + "dab001dba101";
        readingsAre(twoKinds + "l5", 4);
        readingsAre(twoKinds + "r011l5", 4);
        readingsAre(twoKinds + "r010l5", 3);
        readingsAre(twoKinds + "r010r100l5", 2);
        readingsAre(twoKinds + "r000r010r100r110l5", 0);
        readingsAre(twoKinds + "r000r010r100r110l2", 2);
        readingsAre(twoKinds + "r012l5", 4);
        readingsAre(S + "dab001dba111r012l5", 3);
        readingsAre(S + "dab021dba121r012l5", 4);
        readingsAre(S + "dab011dba121r012r102l5", 2);
        readingsAre(S + "dab001dba011r002l5", 2);
        readingsAre(S + "dab201dba221r222l5", 2);
        readingsAre(S + "dab201dba221r221l5", 4);
        s.of(16, "which says whether a word of kind q may follow a word of kind p");
        WornLetters x = Due.stone(twoKinds + "r010l5");
        s.is("begins(1, 3), kind 1 only behind itself", x.begins(1, 3), 1);
        s.is("begins(0, 3), kind 0 behind both", x.begins(0, 3), 2);
        s.of(16, "each word may follow the one before it by the rules.");
        readingsAre(twoKinds + "r000r110l8", 2);
        readingsAre(twoKinds + "r010l8", 4);
        readingsAre(twoKinds + "r220l8", 8);
        readingsAre(S + "dab001dba101dcc201r010r120r200l8", 12);
    }

    private static void readings() {
        s.of(16, "Returns their number.");
        readingsAre(DENSE, 16777216);
        WornLetters x = Due.stone(DENSE);
        x.bar(7);
        s.is("readings(), one word excluded", x.readings(), 5764801);
        x.carve(0, 0);
        // Seven words, and six of them begin with an a: 6 times 7 to the power of 7.
        s.is("readings(), an a at 0", x.readings(), 4941258);
        // Four words of each length: 8 times 4 to the power of 8, and 35 times 4 to the power of 7.
        readingsAre(S + "dab001dba001daa001dbb001dabc001dbca001dcab001dccc001l996", 1097728);
    }

    // ---- promise 17

    private static void rankNumbers() {
        s.of(17, "`rank`: its rank");
        WornLetters x = Due.stone(FOUR);
        s.is("rank(-1, 0)", x.rank(-1, 0), NONE);
        s.is("rank(0, 0)", x.rank(0, 0), 1);
        s.is("rank(3, 0)", x.rank(3, 0), 0);
        s.is("rank(4, 0)", x.rank(4, 0), NONE);
        s.of(17, "NONE if there is no such rank, or the reading has no word with this index");
        for (long far : new long[] {Long.MIN_VALUE, -4294967296L, -4294967295L, -2, 5, 4294967296L, 4294967297L, Long.MAX_VALUE}) {
            s.is("rank(" + far + ", -2)", x.rank(far, -2), NONE);
            s.is("rank(" + far + ", -1)", x.rank(far, -1), NONE);
            s.is("rank(" + far + ", 0)", x.rank(far, 0), NONE);
        }
        s.is("rank(4, -1)", x.rank(4, -1), NONE);
        s.is("rank(4, -2)", x.rank(4, -2), NONE);
        s.is("rank(-1, -1)", x.rank(-1, -1), NONE);
        s.is("rank(-1, -2)", x.rank(-1, -2), NONE);
        s.is("rank(0, 1), the last word", x.rank(0, 1), 1);
        s.is("rank(0, 2)", x.rank(0, 2), NONE);
        s.is("rank(3, 2)", x.rank(3, 2), NONE);
        s.is("rank(0, most)", x.rank(0, MOST), NONE);
        s.is("rank(0, 0) without readings", Due.stone(S + "dab001l3").rank(0, 0), NONE);
        s.is("rank(0, -1) without a line", Due.stone(S + "dab001").rank(0, -1), NONE);
        s.of(17, "the index of a word of it, from 0, for the number of this word; -1 for its weight; -2 for the number of its words");
        WornLetters eight = Due.stone(S + "dab009l995");
        s.is("rank(0, -2)", eight.rank(0, -2), 8);
        s.is("rank(0, -1), the greatest weight", eight.rank(0, -1), 72);
        s.is("rank(0, 7), the last of the most words", eight.rank(0, 7), 0);
        s.is("rank(0, 8)", eight.rank(0, 8), NONE);
        WornLetters one = Due.stone(S + "dcc001dab001l1b");
        s.is("rank(0, -2)", one.rank(0, -2), 1);
        s.is("rank(0, -1), the smallest weight", one.rank(0, -1), 1);
        s.is("rank(0, 0)", one.rank(0, 0), 1);
        s.is("rank(0, 1)", one.rank(0, 1), NONE);
    }

    private static void rankRow(WornLetters x, long rank, int weight, int... words) {
        s.is("rank(" + rank + ", -1)", x.rank(rank, -1), weight);
        s.is("rank(" + rank + ", -2)", x.rank(rank, -2), words.length);
        for (int k = 0; k < words.length; k++) {
            s.is("rank(" + rank + ", " + k + ")", x.rank(rank, k), words[k]);
        }
        s.is("rank(" + rank + ", " + words.length + ")", x.rank(rank, words.length), NONE);
    }

    private static void rankOrder() {
        s.of(17, "The weight of a reading is the sum of the weights of its words.");
        WornLetters x = Due.stone(FOUR);
        rankRow(x, 0, 4, 1, 1);
        rankRow(x, 3, 2, 0, 0);
        x.weigh(0, 9);
        rankRow(x, 0, 18, 0, 0);
        rankRow(x, 3, 4, 1, 1);
        s.of(17, "ranked by their weights, the greatest first, and those with the same weight lexicographically by the "
            + "numbers of their words; the first one has rank 0.");
        rankRow(x, 1, 11, 0, 1);
        rankRow(x, 2, 11, 1, 0);
        WornLetters even = Due.stone(S + "dab001dba001dabcde002l5");
        rankRow(even, 0, 2, 0, 0);
        rankRow(even, 1, 2, 0, 1);
        rankRow(even, 2, 2, 1, 0);
        rankRow(even, 3, 2, 1, 1);
        rankRow(even, 4, 2, 2);
        even.weigh(2, 3);
        rankRow(even, 0, 3, 2);
        rankRow(even, 1, 2, 0, 0);
        even.weigh(2, 1);
        rankRow(even, 3, 2, 1, 1);
        rankRow(even, 4, 1, 2);
        s.is("rank(5, 0)", even.rank(5, 0), NONE);
        WornLetters first = Due.stone(S + "dabcde002dab001l5");
        rankRow(first, 0, 2, 0);
        rankRow(first, 1, 2, 1, 1);
        WornLetters dense = Due.stone(DENSE);
        rankRow(dense, 0, 64, 7, 7, 7, 7, 7, 7, 7, 7);
        rankRow(dense, 1, 63, 6, 7, 7, 7, 7, 7, 7, 7);
        rankRow(dense, 8, 63, 7, 7, 7, 7, 7, 7, 7, 6);
        rankRow(dense, 16777214, 9, 1, 0, 0, 0, 0, 0, 0, 0);
        rankRow(dense, 16777215, 8, 0, 0, 0, 0, 0, 0, 0, 0);
        s.is("rank(16777216, -1)", dense.rank(16777216, -1), NONE);
    }

    private static void rankByRules() {
        s.of(17, "each word may follow the one before it by the rules.");
        // The second word may not follow the first: 00, 10 and 11.
        WornLetters x = Due.stone(S + "dab001dba101r010l5");
        rankRow(x, 0, 2, 0, 0);
        rankRow(x, 1, 2, 1, 0);
        rankRow(x, 2, 2, 1, 1);
        s.is("rank(3, 0)", x.rank(3, 0), NONE);
        x.weigh(1, 2);
        rankRow(x, 0, 4, 1, 1);
        rankRow(x, 1, 3, 1, 0);
        rankRow(x, 2, 2, 0, 0);
        // Only a word with the same ending may follow: 000, 022, 111, 200, 222 and so on, eight with 0 and 2, one with 1.
        WornLetters y = Due.stone(S + "dab001dba011dcc001r002l8");
        s.is("readings()", y.readings(), 9);
        rankRow(y, 0, 3, 0, 0, 0);
        rankRow(y, 3, 3, 0, 2, 2);
        rankRow(y, 4, 3, 1, 1, 1);
        rankRow(y, 5, 3, 2, 0, 0);
        rankRow(y, 8, 3, 2, 2, 2);
        s.of(17, "none of which is excluded");
        y.bar(0);
        rankRow(y, 0, 3, 1, 1, 1);
        rankRow(y, 1, 3, 2, 2, 2);
        s.is("rank(2, 0)", y.rank(2, 0), NONE);
        s.of(17, "Readings are ranked by their weights, the greatest first");
        WornLetters heavy = Due.stone(S + "daa009dab009dac009dad009dae009daf009dba009dbb009l995");
        rankRow(heavy, 0, 72, 0, 0, 0, 0, 0, 0, 0, 0);
        rankRow(heavy, 1, 72, 0, 0, 0, 0, 0, 0, 0, 1);
        rankRow(heavy, 16777215, 72, 7, 7, 7, 7, 7, 7, 7, 7);
        heavy.weigh(0, 8);
        rankRow(heavy, 0, 72, 1, 1, 1, 1, 1, 1, 1, 1);
        rankRow(heavy, 16777215, 64, 0, 0, 0, 0, 0, 0, 0, 0);
    }

    private static void rankBehindActs() {
        s.of(17, "Returns something about a reading.");
        WornLetters x = Due.stone(S + "dab001dba002l5");
        rankRow(x, 0, 4, 1, 1);
        x.carve(3, 0);
        rankRow(x, 0, 3, 1, 0);
        rankRow(x, 1, 2, 0, 0);
        s.is("rank(2, 0) behind carve", x.rank(2, 0), NONE);
        x.undo();
        x.setRule(0, 0, 0);
        s.is("rank(0, 0) behind setRule", x.rank(0, 0), NONE);
        x.undo();
        x.carve(2, 0);
        s.is("rank(0, -1) behind a letter where the blank was", x.rank(0, -1), NONE);
        x.undo();
        x.bar(1);
        rankRow(x, 0, 2, 0, 0);
        Due.write(x, S + "dba003l2");
        x.stone();
        rankRow(x, 0, 3, 0);
        s.is("rank(1, 0) behind stone", x.rank(1, 0), NONE);
    }

    private static void longestLine() {
        s.of(17, "The line consists of at most 24 units, numbered from 0");
        // Eight readings of seven words ab and one abc, then 35 of three and four.
        WornLetters x = Due.stone(S + "dab001dabc001l996");
        rankRow(x, 0, 8, 0, 0, 0, 0, 0, 0, 0, 1);
        rankRow(x, 7, 8, 1, 0, 0, 0, 0, 0, 0, 0);
        rankRow(x, 8, 7, 0, 0, 0, 1, 1, 1, 1);
        rankRow(x, 42, 7, 1, 1, 1, 1, 0, 0, 0);
        s.is("rank(43, 0)", x.rank(43, 0), NONE);
        WornLetters wide = Due.stone("S333333dabcd001dab001dbc001dcde001l995");
        // With a blank the words take 13, 7, 7 and 10 units: only 10 and twice 7 make 24, in 3 orders of 4 choices.
        s.is("readings() of wide letters", wide.readings(), 12);
        rankRow(wide, 0, 3, 1, 1, 3);
        rankRow(wide, 11, 3, 3, 2, 2);
        s.of(19, "The line consists of at most 24 units, numbered from 0");
        s.is("begins(0, 22)", x.begins(0, 22), 22);
        s.is("begins(1, 21)", x.begins(1, 21), 21);
        s.is("begins(0, 23)", x.begins(0, 23), 0);
        s.of(18, "The line consists of at most 24 units, numbered from 0");
        s.is("stands(23, 1), the last letter of ab", x.stands(23, 1), 22);
        s.is("stands(23, 2), the last letter of abc", x.stands(23, 2), 21);
        s.is("stands(21, 6)", x.stands(21, 6), 22);
        s.is("stands(20, 6)", x.stands(20, 6), 21);
    }

    private static void rankRefused() {
        s.of(17, "OUTSIDE if k is less than -2.");
        WornLetters x = Due.stone(FOUR);
        s.is("rank(0, -3)", x.rank(0, -3), OUTSIDE);
        s.is("rank(0, -9)", x.rank(0, -9), OUTSIDE);
        s.is("rank(0, least)", x.rank(0, LEAST), OUTSIDE);
        s.is("rank(0, -2)", x.rank(0, -2), 2);
        s.of(17, NONE_LAST);
        s.is("rank(4, -3), no such rank", x.rank(4, -3), OUTSIDE);
        s.is("rank(-1, -3), no such rank", x.rank(-1, -3), OUTSIDE);
        s.is("rank(Long.MAX, least), no such rank", x.rank(Long.MAX_VALUE, LEAST), OUTSIDE);
        s.is("rank(0, -3) without readings", new WornLetters().rank(0, -3), OUTSIDE);
    }

    // ---- promises 18 and 19

    private static void stands() {
        s.of(18, "Counts the readings in which a sign begins at a unit.");
        WornLetters x = Due.stone(FOUR);
        // a at 0 or 2 and at 4 or 6; b at 0 or 1 and at 4 or 5; a blank at 3.
        long[][] due = {{2, 2, 0}, {0, 2, 0}, {2, 0, 0}, {0, 0, 4}, {2, 2, 0}, {0, 2, 0}, {2, 0, 0}};
        int[] sign = {0, 1, 6};
        for (int u = 0; u < 7; u++) {
            for (int i = 0; i < 3; i++) {
                s.is("stands(" + u + ", " + sign[i] + ")", x.stands(u, sign[i]), due[u][i]);
            }
            s.is("stands(" + u + ", 2), a letter of no word", x.stands(u, 2), 0);
        }
        s.is("stands(0, 5)", Due.stone(S + "dfe001l2").stands(0, 5), 1);
        s.is("stands(1, 4)", Due.stone(S + "dfe001l2").stands(1, 4), 1);
        s.is("stands(0, 0), on the line, but no reading", Due.stone(S + "dab001lab1").stands(0, 0), 0);
        s.of(18, "`x`: the sign, 0 to 6 (6: a blank between two words)");
        s.is("stands(2, 6), a blank behind the last word", Due.stone(S + "dab001lab.").stands(2, 6), 0);
        s.is("stands(0, 6), a blank before the first word", Due.stone(S + "dab001l.ab").stands(0, 6), 0);
        s.is("stands(2, 6), a blank between two words", Due.stone(S + "dab001l2.2").stands(2, 6), 1);
        s.is("stands(20, 6), the last blank of the most words", Due.stone(DENSE).stands(20, 6), 16777216);
        s.is("stands(22, 6), the last unit", Due.stone(DENSE).stands(22, 6), 0);
        s.is("stands(22, 1), the last unit", Due.stone(DENSE).stands(22, 1), 4194304);
        s.of(18, "UNKNOWN if there is no such unit; OUTSIDE if x is out of range.");
        s.is("stands(-1, 0)", x.stands(-1, 0), UNKNOWN);
        s.is("stands(7, 0)", x.stands(7, 0), UNKNOWN);
        s.is("stands(0, -1)", x.stands(0, -1), OUTSIDE);
        s.is("stands(0, 7)", x.stands(0, 7), OUTSIDE);
        s.is("stands(0, 8)", x.stands(0, 8), OUTSIDE);
        for (int far : FAR) {
            s.is("stands(" + far + ", 0)", x.stands(far, 0), UNKNOWN);
            s.is("stands(0, " + far + ")", x.stands(0, far), OUTSIDE);
        }
        s.is("stands(0, 0) without a line", Due.stone(S + "dab001").stands(0, 0), UNKNOWN);
        s.of(18, FIRST_NAMED);
        s.is("stands(7, 7)", x.stands(7, 7), UNKNOWN);
        s.is("stands(-1, -1)", x.stands(-1, -1), UNKNOWN);
        s.is("stands(0, 7) of a new object", new WornLetters().stands(0, 7), UNKNOWN);
    }

    private static void begins() {
        s.of(19, "Counts the readings in which a word begins at a unit.");
        WornLetters x = Due.stone(FOUR);
        long[] due = {2, 0, 0, 0, 2, 0, 0};
        for (int u = 0; u < 7; u++) {
            s.is("begins(0, " + u + ")", x.begins(0, u), due[u]);
            s.is("begins(1, " + u + ")", x.begins(1, u), due[u]);
        }
        x.carve(4, 0);
        s.is("begins(0, 4), an a there", x.begins(0, 4), 2);
        s.is("begins(1, 4), an a there", x.begins(1, 4), 0);
        s.is("begins(0, 0), an a behind", x.begins(0, 0), 1);
        x.bar(0);
        s.is("begins(0, 4), excluded", x.begins(0, 4), 0);
        s.is("begins(7, 21), the last word of the most", Due.stone(DENSE).begins(7, 21), 2097152);
        s.is("begins(7, 20), a blank", Due.stone(DENSE).begins(7, 20), 0);
        s.is("begins(0, 0), it lies there, but no reading", Due.stone(S + "dab001l3").begins(0, 0), 0);
        s.of(19, "UNKNOWN if there is no such word or unit.");
        s.is("begins(-1, 0)", x.begins(-1, 0), UNKNOWN);
        s.is("begins(2, 0)", x.begins(2, 0), UNKNOWN);
        s.is("begins(0, -1)", x.begins(0, -1), UNKNOWN);
        s.is("begins(0, 7)", x.begins(0, 7), UNKNOWN);
        s.is("begins(2, 7)", x.begins(2, 7), UNKNOWN);
        for (int far : FAR) {
            s.is("begins(" + far + ", 0)", x.begins(far, 0), UNKNOWN);
            s.is("begins(0, " + far + ")", x.begins(0, far), UNKNOWN);
        }
        s.is("begins(0, 0) without a line", Due.stone(S + "dab001").begins(0, 0), UNKNOWN);
        s.is("begins(0, 0) without words", Due.stone(S + "l2").begins(0, 0), UNKNOWN);
        s.is("begins(8, 0) of eight words", Due.stone(DENSE).begins(8, 0), UNKNOWN);
    }

    // ---- promise 20

    private static void sure() {
        s.of(20, "A sign is certain at a unit if there are readings, and in all of them this sign begins there.");
        WornLetters x = Due.stone(JUDGED);
        int[] due = {0, 1, NONE, 6, NONE, NONE, NONE, 6, NONE, NONE, NONE};
        for (int u = 0; u < due.length; u++) {
            s.is("sure(" + u + ")", x.sure(u), due[u]);
        }
        x.carve(10, 0);
        s.is("sure(8), b with an a at 10", x.sure(8), 1);
        s.is("sure(9), covered", x.sure(9), NONE);
        s.is("sure(10)", x.sure(10), 0);
        x.bar(1);
        s.is("sure(0), on the line, but there are no readings", x.sure(0), NONE);
        s.is("sure(3), a blank, but there are no readings", x.sure(3), NONE);
        s.is("sure(0), one of two readings", Due.stone(S + "dab001dbb001l2").sure(0), NONE);
        s.is("sure(1), both readings", Due.stone(S + "dab001dbb001l2").sure(1), 1);
        s.is("sure(0), the last letter", Due.stone(S + "dfa001l2").sure(0), 5);
        s.is("sure(0), all but one reading", almostSure(), NONE);
        s.of(20, "Returns the sign, 0 to 6; NONE if none is");
        WornLetters all = Due.stone(S + "dabcde001dfa001la5fa");
        int[] signs = {0, 1, 2, 3, 4, 6, 5, 0};
        for (int u = 0; u < signs.length; u++) {
            s.is("sure(" + u + ") of abcde.fa", all.sure(u), signs[u]);
        }
        s.is("sure(0) of no reading", Due.stone(S + "dabcde001l6").sure(0), NONE);
        s.of(20, "UNKNOWN if there is no such unit.");
        s.is("sure(-1)", x.sure(-1), UNKNOWN);
        s.is("sure(11)", x.sure(11), UNKNOWN);
        for (int far : FAR) {
            s.is("sure(" + far + ")", x.sure(far), UNKNOWN);
        }
        s.is("sure(24)", Due.stone(S + "dabc001dab001l996").sure(24), UNKNOWN);
        s.is("sure(23)", Due.stone(S + "dab001dabc001l995c").sure(23), 2);
        s.of(20, NONE_LAST);
        s.is("sure(0) without a line, where there are no readings", Due.stone(S + "dab001").sure(0), UNKNOWN);
        s.is("sure(0) of a new object", new WornLetters().sure(0), UNKNOWN);
        s.is("sure(3) of three units without readings", Due.stone(S + "dab001l3").sure(3), UNKNOWN);
        s.is("sure(2) of three units without readings", Due.stone(S + "dab001l3").sure(2), NONE);
    }

    /** Four readings of two words begin with an a; the fifth, of a single word, does not. */
    private static int almostSure() {
        WornLetters x = Due.stone(S + "dab001dac001dbcdef001l5");
        s.is("readings()", x.readings(), 5);
        s.is("stands(0, 0)", x.stands(0, 0), 4);
        return x.sure(0);
    }

    // ---- promise 21

    private static void judgeRange() {
        s.of(21, "`n`: 1 to 3");
        WornLetters x = Due.stone(JUDGED);
        s.is("judge(0, 0)", x.judge(0, 0), OUTSIDE);
        s.is("judge(1, 60400)", x.judge(1, 60400), NONE);
        s.is("judge(2, 6040060400)", x.judge(2, 6040060400L), NONE);
        s.is("judge(3, 604006040060400)", x.judge(3, 604006040060400L), NONE);
        s.is("judge(4, 60400604006040060)", x.judge(4, 60400604006040060L), OUTSIDE);
        s.is("judge(4, 0)", x.judge(4, 0), OUTSIDE);
        s.is("judge(-1, 0)", x.judge(-1, 0), OUTSIDE);
        for (int far : FAR) {
            s.is("judge(" + far + ", 60400)", x.judge(far, 60400), OUTSIDE);
        }
        s.of(21, "`row`: the digits, 0 to 10^(5 * n) - 1");
        long[] most = {100000L, 10000000000L, 1000000000000000L};
        for (int n = 1; n <= 3; n++) {
            s.is("judge(" + n + ", -1)", x.judge(n, -1), OUTSIDE);
            s.is("judge(" + n + ", 0)", x.judge(n, 0), 0);
            s.is("judge(" + n + ", 10^" + 5 * n + " - 1)", x.judge(n, most[n - 1] - 1), 0);
            s.is("judge(" + n + ", 10^" + 5 * n + ")", x.judge(n, most[n - 1]), OUTSIDE);
            s.is("judge(" + n + ", 10^" + 5 * n + " + 60400)", x.judge(n, most[n - 1] + 60400), OUTSIDE);
            s.is("judge(" + n + ", Long.MAX)", x.judge(n, Long.MAX_VALUE), OUTSIDE);
            s.is("judge(" + n + ", Long.MIN)", x.judge(n, Long.MIN_VALUE), OUTSIDE);
        }
        s.is("judge(1, 2^32 + 60400)", x.judge(1, 4294967296L + 60400), OUTSIDE);
        s.is("judge(1, -60400)", x.judge(1, -60400), OUTSIDE);
        s.of(21, "OUTSIDE if n or row is out of range.");
        s.is("judge(1, 6040060400), a row for two", x.judge(1, 6040060400L), OUTSIDE);
        s.is("judge(2, 604006040060400), a row for three", x.judge(2, 604006040060400L), OUTSIDE);
        s.is("judge(0, 60400), a row for one", x.judge(0, 60400), OUTSIDE);
        s.of(21, NONE_LAST);
        s.is("judge(0, -1)", x.judge(0, -1), OUTSIDE);
        s.is("judge(4, Long.MAX)", x.judge(4, Long.MAX_VALUE), OUTSIDE);
    }

    private static void statements(String text, int due, int... rows) {
        for (int row : rows) {
            s.is("judge(1, " + row + ") of " + text, Due.stone(text).judge(1, row), due);
        }
    }

    private static void judgeEachStatement() {
        // a 0, b 1-2, a blank 3, gaps 4 to 10; two words.
        s.of(21, "1 U U 0 0: what begins at this unit is removed, as by wear.");
        statements(JUDGED, NONE, 10000, 10100, 10300);
        statements(JUDGED, 0, 10200, 10400, 11000, 11100, 12400, 19900);
        s.of(21, "2 U U x 0: sign x is put there, as by carve.");
        statements(JUDGED, NONE, 20400, 20410, 20420, 20430, 20440, 20450, 20460, 21000, 20910, 20820, 21060);
        statements(S + "la1", NONE, 20100);
        statements(S + "la1", 0, 20000, 20200);
        statements(JUDGED, 0, 21010, 21020, 20920, 21100, 29900, 20470, 20480, 20490, 20000, 20030, 20200, 20360);
        s.of(21, "3 W 0 0 0: this word is excluded or included, as by bar.");
        statements(JUDGED, NONE, 30000, 31000);
        statements(JUDGED, 0, 32000, 33000, 39000);
        statements(DENSE, NONE, 30000, 37000);
        statements(DENSE, 0, 38000, 39000);
        s.of(21, "4 p q v 0: the rule for p and q becomes v.");
        statements(JUDGED, NONE, 40000, 40010, 40020, 40100, 40200, 41000, 42000, 42220);
        statements(JUDGED, 0, 40030, 40090, 40300, 40900, 43000, 49000);
        s.of(21, "5 W U U 0: this word can lie at this unit.");
        statements(JUDGED, NONE, 50000, 50040, 50080, 51080);
        statements(JUDGED, 0, 51000, 50010, 50020, 50030, 50090, 50100, 50110, 50990, 52040, 59040);
        s.is("judge(1, 51040), excluded or not", barredJudge(), NONE);
        s.of(21, "6 N N 0 0: there are at most N N readings (a number with two digits).");
        statements(JUDGED, NONE, 60400, 60500, 61000, 64000, 69900);
        statements(JUDGED, 0, 60000, 60100, 60300);
        statements(S + "l3", NONE, 60000, 60100);
        statements(DENSE, 0, 69900);
        // Lengths 2 (three words), 3 and 4 in 11 units give 100 readings, just one of them with 1 behind 1.
        String hundred = S + "daa101dbbb001dbb101dbb101dbabb201l92";
        statements(hundred, 0, 69900, 61000, 60000);
        statements(hundred.replace("l92", "r000l92"), NONE, 69900);
        statements(hundred.replace("l92", "r000l92"), 0, 69800);
    }

    private static int barredJudge() {
        WornLetters x = Due.stone(JUDGED);
        x.bar(1);
        return x.judge(1, 51040);
    }

    private static void judgeRestOfStatements() {
        s.of(21, "7 U U x 0: sign x is certain at this unit.");
        statements(JUDGED, NONE, 70000, 70110, 70360, 70760);
        statements(JUDGED, 0, 70010, 70200, 70280, 70260, 70400, 70410, 70460, 70770, 70790, 71000, 71100, 71160, 79960);
        statements(S + "dab001lab1", 0, 70000, 70110, 70200, 70260, 70270);
        statements(S + "dab001", 0, 70000);
        statements(S + "dabcd001l95", NONE, 70460, 70960, 71000, 71330);
        statements(S + "dabcd001l95", 0, 70860, 71060, 71460);
        s.of(21, "names a unit, word, kind, rule or sign that does not exist");
        statements(S, 0, 10000, 20000, 30000, 50000, 70000, 43000, 40300, 40030);
        statements(S, NONE, 40000, 60000);
        statements(S + "dab001l996", NONE, 22300, 50220);
        statements(S + "dab001l996", 0, 22400, 50240, 50230, 72400);
        s.of(21, "U U stands for a unit with two digits, W for a word");
        statements(S + "dab001lb8aa", NONE, 10000, 10900, 11000);
        statements(S + "dab001lb8aa", 0, 10100, 10800, 11100, 19000);
        statements(S + "dab001l8ab", NONE, 50080, 50000);
        statements(S + "dab001l8ab", 0, 58000, 50800, 50090);
        s.of(21, "cannot be carried out, or is not true; NONE if there is none");
        statements(JUDGED, NONE, 10000, 20400, 50000, 60400, 70000);
        statements(JUDGED, 0, 10200, 20000, 51000, 60300, 70010);
        s.of(21, "the first statement that is none of these");
        statements(JUDGED, 0, 0, 400, 9999, 80000, 80400, 90000, 99999);
    }

    private static void judgeZeros() {
        s.of(21, "Each is given by five decimal digits of row, the first one by the most significant ones (leading zeros included)");
        WornLetters x = Due.stone(JUDGED);
        s.is("judge(2, 60400), the first is 00000", x.judge(2, 60400), 0);
        s.is("judge(3, 6040060400), the first is 00000", x.judge(3, 6040060400L), 0);
        s.is("judge(2, 6040000000), the second is 00000", x.judge(2, 6040000000L), 1);
        s.is("judge(3, 604006040000000), the third is 00000", x.judge(3, 604006040000000L), 2);
        s.is("judge(3, 604000000060400), the second is 00000", x.judge(3, 604000000060400L), 1);
        s.of(21, "1 U U 0 0");
        statements(JUDGED, 0, 10001, 10010, 10090, 10009);
        s.of(21, "2 U U x 0");
        statements(JUDGED, 0, 20401, 20409, 20461);
        s.of(21, "3 W 0 0 0");
        statements(JUDGED, 0, 30001, 30010, 30100, 30900, 31001, 31010, 31100);
        s.of(21, "4 p q v 0");
        statements(JUDGED, 0, 40001, 40009, 42221);
        s.of(21, "5 W U U 0");
        statements(JUDGED, 0, 50001, 50041, 50089);
        s.of(21, "6 N N 0 0");
        statements(JUDGED, 0, 60401, 60410, 69990, 69909);
        s.of(21, "7 U U x 0");
        statements(JUDGED, 0, 70001, 70361, 70369);
    }

    private static void judgeSequence() {
        WornLetters x = Due.stone(JUDGED);
        s.of(21, "The statements 1 to 4 change the state for those that follow.");
        s.is("judge, carve into what is worn", x.judge(2, 1000020000L), NONE);
        s.is("judge, wear twice", x.judge(2, 1000010000L), 1);
        s.is("judge, wear what is carved", x.judge(2, 2040010400L), NONE);
        s.is("judge, carve twice", x.judge(2, 2040020400L), 1);
        s.is("judge, wear, then ba can lie", x.judge(3, 100001010051000L), NONE);
        s.is("judge, wear of a, then ba cannot lie yet", x.judge(2, 1000051000L), 1);
        s.is("judge, wear of ab, eight readings", x.judge(3, 100001010060800L), NONE);
        s.is("judge, wear of ab, more than seven readings", x.judge(3, 100001010060700L), 2);
        s.is("judge, carve, two readings", x.judge(2, 2040060200L), NONE);
        s.is("judge, carve, more than one reading", x.judge(2, 2040060100L), 1);
        s.is("judge, carve, then b is certain", x.judge(2, 2040070510L), NONE);
        s.is("judge, bar of ba, one reading", x.judge(2, 3100060100L), NONE);
        s.is("judge, bar of ba, ab is certain", x.judge(2, 3100070400L), NONE);
        s.is("judge, bar of ab, no readings", x.judge(2, 3000060000L), NONE);
        s.is("judge, bar of ab, nothing is certain", x.judge(2, 3000070000L), 1);
        s.is("judge, bar twice", x.judge(3, 310003100060300L), 2);
        s.is("judge, ba may not follow ab", x.judge(2, 4010060100L), NONE);
        s.is("judge, the rule and back, four readings", x.judge(3, 401004011060400L), NONE);
        s.is("judge, the rule and back, more than three", x.judge(3, 401004011060300L), 2);
        s.is("judge, the rule becomes 0 and 0 again", x.judge(3, 401004010060100L), NONE);
        s.is("judge, the rule becomes 0 and 2, same endings", x.judge(3, 401004012060300L), 2);
        s.is("judge, only for the kinds the other way round", x.judge(2, 4100060300L), NONE);
        s.is("judge, only for the kinds the other way round", x.judge(2, 4100060200L), 1);
        s.of(21, "Returns the index, from 0, of the first statement");
        s.is("judge, the first of three is false", x.judge(3, 603006030060300L), 0);
        s.is("judge, the second of three is false", x.judge(3, 604006030060300L), 1);
        s.is("judge, the third of three is false", x.judge(3, 604006040060300L), 2);
        s.is("judge, none of three is false", x.judge(3, 604006040060400L), NONE);
        s.of(21, "beginning with the present state, which does not change.");
        for (long row : new long[] {100001010010300L, 204002050020600L, 300003100040010L, 400004010041100L}) {
            x.judge(3, row);
            s.is("readings() behind judge(3, " + row + ")", x.readings(), 4);
            s.is("count(3)", x.count(3), 7);
            s.is("count(4)", x.count(4), 0);
            s.is("count(5)", x.count(5), 0);
            s.is("rule(0, 0)", x.rule(0, 0), 1);
        }
        x.bar(1);
        s.is("judge, one reading without ba", x.judge(1, 60100), NONE);
        s.is("judge, ba is included, four readings", x.judge(2, 3100060300L), 1);
        s.is("judge, ba is included, four readings", x.judge(2, 3100060400L), NONE);
        s.is("judge, once more", x.judge(1, 60100), NONE);
    }
}
