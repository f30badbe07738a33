/** Each promise with ordinary inputs, the edges that the document names, and wrong inputs; answers worked out by hand. */
public final class PromisesTest {
    private static final int UNKNOWN = -1, OUTSIDE = -2, STATE = -3, FULL = -4, NONE = -9;
    private static final int LEAST = Integer.MIN_VALUE, MOST = Integer.MAX_VALUE;
    /** ab, ba and abc; kind 0 and 1 follow one another only with the same ending. */
    private static final String NINE = "S111111dab003dba014dabc105r012r102l9";
    /** A c of three units, one gap, a b of two, a blank, and nine units of gap. */
    private static final String WIDE = "S123211dcab115dfeb225dad009dcc101r202lc1b.9";
    /** Eight words of two letters in 23 units: as many readings as there can be, 8 to the power of 8. */
    private static final String DENSE = "S111111daa001dab002dac003dad004dae005daf006dba007dbb008l995";

    private static final Due due = new Due("PromisesTest");
    private static int promise = 0;

    private static void is(String call, long got, long want) {
        due.is("promise " + promise + ": " + call, got, want);
    }

    public static void main(String[] args) {
        newObject();
        write();
        wipe();
        fault();
        stone();
        word();
        line();
        rule();
        wear();
        carve();
        bar();
        setRule();
        weigh();
        undo();
        lies();
        readings();
        rank();
        stands();
        begins();
        sure();
        judge();
        judgeWrong();
        see();
        unsee();
        which();
        share();
        lost();
        seed();
        drawn();
        keep();
        again();
        count();
        constants();
        due.finish();
    }

    private static void newObject() {
        promise = 1;
        WornLetters x = new WornLetters();
        for (int what = 0; what <= 6; what++) {
            is("count(" + what + ")", x.count(what), 0);
        }
        is("word(0, 0)", x.word(0, 0), UNKNOWN);
        is("line(0)", x.line(0), UNKNOWN);
        is("fault()", x.fault(), 0);
        is("again(0)", x.again(0), STATE);
        is("again(1)", x.again(1), STATE);
        is("undo()", x.undo(), STATE);
        is("seed(7)", x.seed(7), 0);
        for (int p = 0; p < 3; p++) {
            for (int q = 0; q < 3; q++) {
                is("rule(" + p + ", " + q + ")", x.rule(p, q), 1);
            }
        }
        WornLetters other = Due.stone(NINE);
        is("readings()", x.readings(), 0);
        is("readings() of another object", other.readings(), 5);
    }

    private static void write() {
        promise = 2;
        WornLetters x = new WornLetters();
        is("write(-1)", x.write(-1), OUTSIDE);
        is("write(256)", x.write(256), OUTSIDE);
        is("write(least)", x.write(LEAST), OUTSIDE);
        is("write(most)", x.write(MOST), OUTSIDE);
        is("write(0)", x.write(0), 1);
        is("write(255)", x.write(255), 2);
        for (int i = 3; i <= 110; i++) {
            is("write(97)", x.write(97), i);
        }
        is("write(97) into a full text", x.write(97), FULL);
        is("write(256) into a full text", x.write(256), OUTSIDE);
        is("count(0)", x.count(0), 110);
    }

    private static void wipe() {
        promise = 3;
        WornLetters x = Due.stone(NINE);
        is("wipe()", x.wipe(), NINE.length());
        is("wipe() again", x.wipe(), 0);
        is("count(0)", x.count(0), 0);
        is("fault()", x.fault(), 0);
        is("readings() after it", x.readings(), 5);
        is("write(83)", x.write(83), 1);
        is("fault()", x.fault(), 1);
    }

    private static void faultIs(String text, int want) {
        is("fault of " + text, Due.fault(text), want);
    }

    private static void fault() {
        promise = 4;
        String s = "S111111";
        String word = "dab001";
        String eight = word.repeat(8);
        String rules = "r000r010r020r100r110r120r200r210r220";
        faultIs("", 0);
        faultIs("s", 0);
        faultIs("S", 1);
        faultIs("S0", 1);
        faultIs("S4", 1);
        faultIs("S123123", NONE);
        faultIs("S11111", 6);
        faultIs("S11111d", 6);
        faultIs(s + "S", 7);
        faultIs(s + " ", 7);
        faultIs(s + "d", 8);
        faultIs(s + "da", 9);
        faultIs(s + "dg", 8);
        faultIs(s + "da0", 9);
        faultIs(s + "dab", 10);
        faultIs(s + "dab3", 10);
        faultIs(s + "dab03", 11);
        faultIs(s + "dab000", 12);
        faultIs(s + "dab00", 12);
        faultIs(s + "dabcde009", NONE);
        faultIs(s + "dabcdef009", 13);
        faultIs(s + eight, NONE);
        faultIs(s + eight + "d", s.length() + 48);
        faultIs(s + eight + "r000" + word, s.length() + 52);
        faultIs(s + rules, NONE);
        faultIs(s + rules + "r", s.length() + 36);
        faultIs(s + rules + "dab001l9", NONE);
        faultIs(s + "r000r010r020r0", s.length() + 13);
        faultIs(s + "r000r010r020r1", s.length() + 14);
        faultIs(s + "r000r00", s.length() + 6);
        faultIs(s + "r000r0", s.length() + 6);
        faultIs(s + "r3", 8);
        faultIs(s + "r03", 9);
        faultIs(s + "r003", 10);
        faultIs(s + "r00", 10);
        faultIs(s + "l", 8);
        faultIs(s + "l0", 8);
        faultIs(s + "lg", 8);
        faultIs(s + "l1d", NONE);
        faultIs(s + "l1r000", 9);
        faultIs(s + "l1l", 9);
        faultIs(s + "l996", NONE);
        faultIs(s + "l997", 10);
        faultIs(s + "l996.", 11);
        faultIs(s + "l996a", 11);
        faultIs(s + "l995.", NONE);
        faultIs("S311111l994a", 11);
        faultIs("S311111l993a", NONE);
        faultIs("S311111laaaaaaaa", NONE);
        faultIs("S311111laaaaaaaab", 16);
        faultIs(s + "dab001x", 13);
        faultIs(s + (char) 255, 7);
        WornLetters x = Due.stone(NINE);
        x.write('x');
        is("fault() of " + NINE + "x", x.fault(), NINE.length());
        is("readings(), fault changes nothing", x.readings(), 5);
    }

    private static void stone() {
        promise = 5;
        WornLetters x = Due.stone(WIDE);
        x.see(1, 3, 0);
        x.seed(99);
        x.bar(0);
        x.setRule(0, 0, 0);
        x.keep(0);
        x.keep(1);
        Due.write(x, "S1");
        is("stone() of S1", x.stone(), STATE);
        is("count(5) after an error", x.count(5), 2);
        is("count(4) after an error", x.count(4), 1);
        is("again(0) after an error", x.again(0), 4);
        x.bar(1);
        Due.write(x, "S222222dab001r121");
        is("stone() without a line", x.stone(), 0);
        is("count(0)", x.count(0), 17);
        is("count(1)", x.count(1), 1);
        is("count(4)", x.count(4), 0);
        is("count(5)", x.count(5), 0);
        is("count(6)", x.count(6), 1);
        is("again(0)", x.again(0), STATE);
        is("again(1)", x.again(1), STATE);
        is("rule(0, 0) at first again", x.rule(0, 0), 1);
        is("rule(2, 0) at first again", x.rule(2, 0), 1);
        is("word(0, 4)", x.word(0, 4), 4);
        is("seed(0)", x.seed(0), 99);
        Due.write(x, WIDE);
        is("stone()", x.stone(), 16);
        is("stone() again", x.stone(), 16);
        Due.write(x, "S111111");
        is("stone() without anything", x.stone(), 0);
        is("count(1)", x.count(1), 0);
    }

    private static void word() {
        promise = 6;
        WornLetters x = Due.stone(WIDE);
        int[][] want = {{3, 1, 1, 5, 6, 0, 1}, {3, 2, 2, 5, 4, 0, 1}, {2, 0, 0, 9, 3, 0, 3}, {2, 1, 0, 1, 6, 0, 2}};
        for (int w = 0; w < 4; w++) {
            for (int what = 0; what <= 6; what++) {
                is("word(" + w + ", " + what + ")", x.word(w, what), want[w][what]);
            }
        }
        x.bar(2);
        is("word(2, 5) if excluded", x.word(2, 5), 1);
        is("word(1, 5)", x.word(1, 5), 0);
        x.weigh(2, 1);
        is("word(2, 3) if weighed", x.word(2, 3), 1);
        is("word(4, 0)", x.word(4, 0), UNKNOWN);
        is("word(-1, 0)", x.word(-1, 0), UNKNOWN);
        is("word(4, 7)", x.word(4, 7), UNKNOWN);
        is("word(most, least)", x.word(MOST, LEAST), UNKNOWN);
        is("word(3, 7)", x.word(3, 7), OUTSIDE);
        is("word(3, -1)", x.word(3, -1), OUTSIDE);
    }

    private static void line() {
        promise = 7;
        WornLetters x = Due.stone(WIDE);
        int[] want = {2, 8, 8, 7, 1, 8, 6, 7, 7, 7, 7, 7, 7, 7, 7, 7};
        for (int u = 0; u < 16; u++) {
            is("line(" + u + ")", x.line(u), want[u]);
        }
        is("line(16)", x.line(16), UNKNOWN);
        is("line(-1)", x.line(-1), UNKNOWN);
        is("line(most)", x.line(MOST), UNKNOWN);
        is("line(least)", x.line(LEAST), UNKNOWN);
    }

    private static void rule() {
        promise = 8;
        WornLetters x = Due.stone("S111111r000r012r122r200");
        int[] want = {0, 2, 1, 1, 1, 2, 0, 1, 1};
        for (int i = 0; i < 9; i++) {
            is("rule(" + i / 3 + ", " + i % 3 + ")", x.rule(i / 3, i % 3), want[i]);
        }
        is("rule(3, 0)", x.rule(3, 0), OUTSIDE);
        is("rule(0, 3)", x.rule(0, 3), OUTSIDE);
        is("rule(-1, 0)", x.rule(-1, 0), OUTSIDE);
        is("rule(0, -1)", x.rule(0, -1), OUTSIDE);
        is("rule(most, most)", x.rule(MOST, MOST), OUTSIDE);
    }

    private static void wear() {
        promise = 9;
        WornLetters x = Due.stone(WIDE);
        is("wear(1), covered", x.wear(1), STATE);
        is("wear(3), a gap", x.wear(3), STATE);
        is("wear(16)", x.wear(16), UNKNOWN);
        is("wear(-1)", x.wear(-1), UNKNOWN);
        is("count(5) after errors", x.count(5), 0);
        is("wear(0)", x.wear(0), 2);
        is("wear(6)", x.wear(6), 6);
        is("count(3)", x.count(3), 14);
        is("line(2)", x.line(2), 7);
        is("line(4), the next sign", x.line(4), 1);
        is("wear(0) again", x.wear(0), STATE);
        is("count(5)", x.count(5), 2);
        is("wear(4)", x.wear(4), 1);
        is("count(3)", x.count(3), 16);
    }

    private static void carve() {
        promise = 10;
        WornLetters x = Due.stone(WIDE);
        is("carve(16, 7)", x.carve(16, 7), UNKNOWN);
        is("carve(-1, 0)", x.carve(-1, 0), UNKNOWN);
        is("carve(3, 7)", x.carve(3, 7), OUTSIDE);
        is("carve(0, -1)", x.carve(0, -1), OUTSIDE);
        is("carve(0, 0), a letter", x.carve(0, 0), STATE);
        is("carve(0, 2), the same letter", x.carve(0, 2), STATE);
        is("carve(1, 0), covered", x.carve(1, 0), STATE);
        is("carve(3, 1), too narrow", x.carve(3, 1), STATE);
        is("carve(14, 2), beyond the end", x.carve(14, 2), STATE);
        is("carve(15, 1), beyond the end", x.carve(15, 1), STATE);
        is("count(5) after errors", x.count(5), 0);
        is("carve(3, 0)", x.carve(3, 0), 9);
        is("carve(13, 2)", x.carve(13, 2), 6);
        is("line(13)", x.line(13), 2);
        is("line(15)", x.line(15), 8);
        is("carve(12, 6)", x.carve(12, 6), 5);
        is("line(12)", x.line(12), 6);
        is("carve(11, 3), too narrow", x.carve(11, 3), STATE);
        is("carve(10, 3)", x.carve(10, 3), 3);
        is("count(5)", x.count(5), 4);
    }

    private static void bar() {
        promise = 11;
        WornLetters x = Due.stone(NINE);
        is("bar(3)", x.bar(3), UNKNOWN);
        is("bar(-1)", x.bar(-1), UNKNOWN);
        is("bar(most)", x.bar(MOST), UNKNOWN);
        is("bar(1)", x.bar(1), 1);
        is("bar(2)", x.bar(2), 1);
        is("count(4)", x.count(4), 6);
        is("bar(1) again", x.bar(1), 0);
        is("count(4)", x.count(4), 4);
        is("count(5)", x.count(5), 3);
    }

    private static void setRule() {
        promise = 12;
        WornLetters x = Due.stone(NINE);
        is("setRule(3, 0, 0)", x.setRule(3, 0, 0), OUTSIDE);
        is("setRule(0, 3, 0)", x.setRule(0, 3, 0), OUTSIDE);
        is("setRule(0, 0, 3)", x.setRule(0, 0, 3), OUTSIDE);
        is("setRule(-1, 0, 0)", x.setRule(-1, 0, 0), OUTSIDE);
        is("setRule(0, -1, 0)", x.setRule(0, -1, 0), OUTSIDE);
        is("setRule(0, 0, -1)", x.setRule(0, 0, -1), OUTSIDE);
        is("count(5) after errors", x.count(5), 0);
        is("setRule(0, 1, 2), the same", x.setRule(0, 1, 2), 2);
        is("count(5)", x.count(5), 1);
        is("setRule(1, 0, 0)", x.setRule(1, 0, 0), 2);
        is("rule(1, 0)", x.rule(1, 0), 0);
        is("rule(0, 1)", x.rule(0, 1), 2);
        is("setRule(1, 0, 1)", x.setRule(1, 0, 1), 0);
        is("count(5)", x.count(5), 3);
    }

    private static void weigh() {
        promise = 13;
        WornLetters x = Due.stone(NINE);
        is("weigh(3, 0)", x.weigh(3, 0), UNKNOWN);
        is("weigh(-1, 1)", x.weigh(-1, 1), UNKNOWN);
        is("weigh(0, 0)", x.weigh(0, 0), OUTSIDE);
        is("weigh(0, 10)", x.weigh(0, 10), OUTSIDE);
        is("count(5) after errors", x.count(5), 0);
        is("weigh(2, 9)", x.weigh(2, 9), 5);
        is("weigh(2, 9), the same", x.weigh(2, 9), 9);
        is("weigh(2, 1)", x.weigh(2, 1), 9);
        is("word(2, 3)", x.word(2, 3), 1);
        is("count(5)", x.count(5), 3);
    }

    private static void undo() {
        promise = 14;
        WornLetters x = Due.stone(WIDE);
        is("undo() without acts", x.undo(), STATE);
        x.wear(0);
        x.carve(0, 3);
        x.bar(1);
        x.setRule(2, 0, 0);
        x.weigh(3, 7);
        is("undo() of weigh", x.undo(), 4);
        is("word(3, 3)", x.word(3, 3), 1);
        is("undo() of setRule", x.undo(), 3);
        is("rule(2, 0)", x.rule(2, 0), 2);
        is("undo() of bar", x.undo(), 2);
        is("word(1, 5)", x.word(1, 5), 0);
        is("undo() of carve", x.undo(), 1);
        is("line(0)", x.line(0), 7);
        is("line(1)", x.line(1), 7);
        is("undo() of wear", x.undo(), 0);
        is("line(0)", x.line(0), 2);
        is("line(2)", x.line(2), 8);
        is("count(3)", x.count(3), 10);
        is("undo() without acts", x.undo(), STATE);
        for (int v = 1; v <= 9; v++) {
            x.weigh(0, v);
            x.weigh(1, 10 - v);
        }
        is("count(5) of 18 acts", x.count(5), 14);
        for (int left = 13; left >= 0; left--) {
            is("undo()", x.undo(), left);
        }
        is("undo() of the fifteenth", x.undo(), STATE);
        is("word(0, 3), as two acts left it", x.word(0, 3), 2);
        is("word(1, 3), as two acts left it", x.word(1, 3), 8);
    }

    private static void lies() {
        promise = 15;
        WornLetters x = Due.stone(WIDE);
        is("lies(0, 0), on signs and a gap", x.lies(0, 0), 1);
        is("lies(3, 0), a sign in the way", x.lies(3, 0), 0);
        is("lies(2, 1), a covered unit", x.lies(2, 1), 0);
        is("lies(2, 13)", x.lies(2, 13), 1);
        is("lies(2, 14), beyond the end", x.lies(2, 14), 0);
        is("lies(1, 12)", x.lies(1, 12), 1);
        is("lies(3, 6), a blank in the way", x.lies(3, 6), 0);
        x.bar(0);
        is("lies(0, 0), excluded", x.lies(0, 0), 1);
        is("lies(4, 0)", x.lies(4, 0), UNKNOWN);
        is("lies(-1, 0)", x.lies(-1, 0), UNKNOWN);
        is("lies(0, 16)", x.lies(0, 16), UNKNOWN);
        is("lies(0, -1)", x.lies(0, -1), UNKNOWN);
        is("lies(most, least)", x.lies(MOST, LEAST), UNKNOWN);
    }

    private static void readings() {
        promise = 16;
        is("readings() of nine units", Due.stone(NINE).readings(), 5);
        is("readings() of wide letters", Due.stone(WIDE).readings(), 1);
        is("readings() without a line", Due.stone("S111111dab001").readings(), 0);
        is("readings() without words", Due.stone("S111111l9").readings(), 0);
        is("readings() of a dense line", Due.stone(DENSE).readings(), 16777216);
        is("readings() of a line with a blank at the end", Due.stone("S111111dab001l3").readings(), 0);
        is("readings() with a blank within a word", Due.stone("S111111dabc001l1.1").readings(), 0);
        is("readings() with two blanks between words", Due.stone("S111111dab001l2..2").readings(), 0);
        is("readings() without a blank between words", Due.stone("S111111dab001labab").readings(), 0);
        is("readings() of a given line", Due.stone("S111111dab001lab.ab").readings(), 1);
        WornLetters x = Due.stone("S111111dab001dba011l5");
        is("readings()", x.readings(), 4);
        x.setRule(0, 0, 2);
        is("readings(), same endings", x.readings(), 2);
        x.setRule(0, 0, 0);
        is("readings(), nothing follows", x.readings(), 0);
        x.setRule(0, 0, 1);
        x.bar(0);
        is("readings(), one word excluded", x.readings(), 1);
    }

    private static void rank() {
        promise = 17;
        // Two words each; the third word is the heaviest, the first two weigh the same.
        WornLetters x = Due.stone("S111111dab005dba005dcc009l5");
        int[][] want = {{2, 2, 18}, {0, 2, 14}, {1, 2, 14}, {2, 0, 14}, {2, 1, 14}, {0, 0, 10}, {0, 1, 10}, {1, 0, 10}, {1, 1, 10}};
        for (int r = 0; r < 9; r++) {
            is("rank(" + r + ", 0)", x.rank(r, 0), want[r][0]);
            is("rank(" + r + ", 1)", x.rank(r, 1), want[r][1]);
            is("rank(" + r + ", -1)", x.rank(r, -1), want[r][2]);
            is("rank(" + r + ", -2)", x.rank(r, -2), 2);
            is("rank(" + r + ", 2)", x.rank(r, 2), NONE);
        }
        is("rank(9, 0)", x.rank(9, 0), NONE);
        is("rank(9, -1)", x.rank(9, -1), NONE);
        is("rank(-1, 0)", x.rank(-1, 0), NONE);
        is("rank(Long.MAX, 0)", x.rank(Long.MAX_VALUE, 0), NONE);
        is("rank(Long.MIN, -2)", x.rank(Long.MIN_VALUE, -2), NONE);
        is("rank(2^32, 0)", x.rank(1L << 32, 0), NONE);
        is("rank(0, most)", x.rank(0, MOST), NONE);
        is("rank(0, -3)", x.rank(0, -3), OUTSIDE);
        is("rank(99, -3)", x.rank(99, -3), OUTSIDE);
        is("rank(0, least)", x.rank(0, LEAST), OUTSIDE);
        // Readings with different numbers of words: the first word that differs decides.
        WornLetters y = Due.stone("S111111dab002dabcde004l5");
        is("rank(0, -2), by the first word", y.rank(0, -2), 2);
        is("rank(1, -2)", y.rank(1, -2), 1);
        y.weigh(1, 5);
        is("rank(0, -2), the heavier one", y.rank(0, -2), 1);
        WornLetters z = Due.stone(DENSE);
        is("rank(0, -1)", z.rank(0, -1), 64);
        is("rank(0, 7)", z.rank(0, 7), 7);
        is("rank(1, 0)", z.rank(1, 0), 6);
        is("rank(1, 1)", z.rank(1, 1), 7);
        is("rank(8, 7)", z.rank(8, 7), 6);
        is("rank(16777215, -1)", z.rank(16777215, -1), 8);
        is("rank(16777214, 7), the last with weight 9", z.rank(16777214, 7), 0);
        is("rank(16777214, 0), the last with weight 9", z.rank(16777214, 0), 1);
        is("rank(16777216, 0)", z.rank(16777216, 0), NONE);
        for (int w = 0; w < 8; w++) {
            z.weigh(w, 9);
        }
        is("rank(0, -1), the greatest weight there is", z.rank(0, -1), 72);
        is("rank(1, 7), all of the same weight", z.rank(1, 7), 1);
        is("rank(8, 6)", z.rank(8, 6), 1);
        is("rank(16777215, 0)", z.rank(16777215, 0), 7);
    }

    private static void stands() {
        promise = 18;
        WornLetters x = Due.stone("S112111dab001dcb001dabc001l6");
        // A c takes two units, so ab takes 2, cb 3 and abc 4; six units hold ab.cb and cb.ab alone.
        is("readings()", x.readings(), 2);
        is("stands(0, 0), ab.cb", x.stands(0, 0), 1);
        is("stands(0, 2), cb.ab", x.stands(0, 2), 1);
        is("stands(1, 1)", x.stands(1, 1), 1);
        is("stands(2, 6)", x.stands(2, 6), 1);
        is("stands(3, 6)", x.stands(3, 6), 1);
        is("stands(3, 2)", x.stands(3, 2), 1);
        is("stands(5, 1)", x.stands(5, 1), 2);
        is("stands(4, 2), covered", x.stands(4, 2), 0);
        is("stands(1, 2), covered", x.stands(1, 2), 0);
        is("stands(0, 6)", x.stands(0, 6), 0);
        is("stands(6, 7)", x.stands(6, 7), UNKNOWN);
        is("stands(-1, 0)", x.stands(-1, 0), UNKNOWN);
        is("stands(0, 7)", x.stands(0, 7), OUTSIDE);
        is("stands(0, -1)", x.stands(0, -1), OUTSIDE);
        WornLetters y = Due.stone(DENSE);
        is("stands(2, 6), dense", y.stands(2, 6), 16777216);
        is("stands(4, 1), dense", y.stands(4, 1), 4194304);
        WornLetters z = Due.stone("S111111dab001l2.");
        is("stands(2, 6), a blank but no reading", z.stands(2, 6), 0);
    }

    private static void begins() {
        promise = 19;
        WornLetters x = Due.stone(NINE);
        is("begins(0, 0)", x.begins(0, 0), 2);
        is("begins(2, 3)", x.begins(2, 3), 1);
        is("begins(0, 1)", x.begins(0, 1), 0);
        is("begins(3, 0)", x.begins(3, 0), UNKNOWN);
        is("begins(-1, 0)", x.begins(-1, 0), UNKNOWN);
        is("begins(0, 9)", x.begins(0, 9), UNKNOWN);
        is("begins(0, -1)", x.begins(0, -1), UNKNOWN);
        x.bar(2);
        is("begins(2, 3), excluded", x.begins(2, 3), 0);
        is("begins(5, 12), dense", Due.stone(DENSE).begins(5, 12), 2097152);
    }

    private static void sure() {
        promise = 20;
        WornLetters x = Due.stone(WIDE);
        int[] want = {2, NONE, NONE, 0, 1, NONE, 6, 5, 4, 1, NONE, 6, 5, 4, 1, NONE};
        for (int u = 0; u < 16; u++) {
            is("sure(" + u + ")", x.sure(u), want[u]);
        }
        is("sure(16)", x.sure(16), UNKNOWN);
        is("sure(-1)", x.sure(-1), UNKNOWN);
        x.bar(0);
        is("sure(0), on the line, but without readings", x.sure(0), NONE);
        WornLetters y = Due.stone("S111111dab001dac001l2");
        is("sure(0), in both readings", y.sure(0), 0);
        is("sure(1), in one of them", y.sure(1), NONE);
    }

    private static void judge() {
        promise = 21;
        WornLetters x = Due.stone(WIDE);
        is("judge, wear", x.judge(1, 10000), NONE);
        is("judge, wear of a covered unit", x.judge(1, 10100), 0);
        is("judge, wear of no unit", x.judge(1, 11600), 0);
        is("judge, carve", x.judge(1, 20300), NONE);
        is("judge, carve at 13", x.judge(1, 21320), NONE);
        is("judge, carve at 14", x.judge(1, 21420), 0);
        is("judge, carve of sign 7", x.judge(1, 20370), 0);
        is("judge, bar", x.judge(1, 33000), NONE);
        is("judge, bar of no word", x.judge(1, 34000), 0);
        is("judge, rule", x.judge(1, 42220), NONE);
        is("judge, kind p 3", x.judge(1, 43000), 0);
        is("judge, kind q 3", x.judge(1, 40300), 0);
        is("judge, rule 3", x.judge(1, 40030), 0);
        is("judge, lies", x.judge(1, 52130), NONE);
        is("judge, lies not", x.judge(1, 52140), 0);
        is("judge, lies, no word", x.judge(1, 54000), 0);
        is("judge, lies, no unit", x.judge(1, 50160), 0);
        is("judge, at most 1 reading", x.judge(1, 60100), NONE);
        is("judge, at most 99 readings", x.judge(1, 69900), NONE);
        is("judge, at most 0 readings", x.judge(1, 60000), 0);
        is("judge, certain", x.judge(1, 71250), NONE);
        is("judge, a blank is certain", x.judge(1, 71160), NONE);
        is("judge, not certain", x.judge(1, 71240), 0);
        is("judge, certain, no unit", x.judge(1, 71600), 0);
        is("judge, certain, sign 9", x.judge(1, 70190), 0);
        is("judge, wear and more readings", x.judge(2, 1040060100L), 1);
        is("judge, wear and two readings", x.judge(2, 1040060200L), NONE);
        is("judge, bar and no readings", x.judge(3, 300006000031000L), NONE);
        is("judge, bar, nothing is certain", x.judge(3, 300007112033000L), 1);
        is("judge, bar twice, certain again", x.judge(3, 300003000071160L), NONE);
        is("judge, carve after wear", x.judge(3, 100002000050000L), 2);
        is("readings(), judge changes nothing", x.readings(), 1);
        is("count(5), judge changes nothing", x.count(5), 0);
        is("line(0), judge changes nothing", x.line(0), 2);
        WornLetters y = Due.stone(DENSE);
        is("judge, a dense line has more than 99", y.judge(1, 69900), 0);
    }

    private static void judgeWrong() {
        WornLetters x = Due.stone(WIDE);
        is("judge(0, 0)", x.judge(0, 0), OUTSIDE);
        is("judge(4, 0)", x.judge(4, 0), OUTSIDE);
        is("judge(least, 0)", x.judge(LEAST, 0), OUTSIDE);
        is("judge(1, -1)", x.judge(1, -1), OUTSIDE);
        is("judge(1, 100000)", x.judge(1, 100000), OUTSIDE);
        is("judge(2, 10^10)", x.judge(2, 10000000000L), OUTSIDE);
        is("judge(3, 10^15)", x.judge(3, 1000000000000000L), OUTSIDE);
        is("judge(3, Long.MAX)", x.judge(3, Long.MAX_VALUE), OUTSIDE);
        is("judge(3, Long.MIN)", x.judge(3, Long.MIN_VALUE), OUTSIDE);
        is("judge(1, 99999)", x.judge(1, 99999), 0);
        is("judge(3, 10^15 - 1)", x.judge(3, 999999999999999L), 0);
        is("judge(1, 0)", x.judge(1, 0), 0);
        is("judge(2, 60100), leading zeros", x.judge(2, 60100), 0);
        is("judge(1, 80000)", x.judge(1, 80000), 0);
        is("judge, wear, a digit too many", x.judge(1, 10001), 0);
        is("judge, wear, a digit too many", x.judge(1, 10010), 0);
        is("judge, carve, a digit too many", x.judge(1, 20301), 0);
        is("judge, bar, a digit too many", x.judge(1, 33001), 0);
        is("judge, bar, a digit too many", x.judge(1, 33010), 0);
        is("judge, bar, a digit too many", x.judge(1, 33100), 0);
        is("judge, rule, a digit too many", x.judge(1, 42221), 0);
        is("judge, lies, a digit too many", x.judge(1, 52131), 0);
        is("judge, readings, a digit too many", x.judge(1, 60110), 0);
        is("judge, readings, a digit too many", x.judge(1, 60101), 0);
        is("judge, certain, a digit too many", x.judge(1, 71161), 0);
        is("judge, the third", x.judge(3, 601006010060000L), 2);
    }

    private static void see() {
        promise = 22;
        WornLetters x = Due.stone(NINE);
        is("see(3, 0, 2)", x.see(3, 0, 2), UNKNOWN);
        is("see(-1, 0, 0)", x.see(-1, 0, 0), UNKNOWN);
        is("see(0, 9, 0)", x.see(0, 9, 0), UNKNOWN);
        is("see(0, -1, 0)", x.see(0, -1, 0), UNKNOWN);
        is("see(0, 0, 2)", x.see(0, 0, 2), OUTSIDE);
        is("see(0, 0, -1)", x.see(0, 0, -1), OUTSIDE);
        for (int i = 1; i <= 6; i++) {
            is("see(0, 0, 1)", x.see(0, 0, 1), i);
        }
        is("see(0, 0, 0), the seventh", x.see(0, 0, 0), FULL);
        is("see(0, 0, 2), the seventh", x.see(0, 0, 2), OUTSIDE);
        is("see(3, 0, 0), the seventh", x.see(3, 0, 0), UNKNOWN);
        is("count(6)", x.count(6), 6);
        is("count(5), no act", x.count(5), 0);
    }

    private static void unsee() {
        promise = 23;
        WornLetters x = Due.stone(NINE);
        is("unsee()", x.unsee(), 0);
        x.see(1, 0, 1);
        x.see(2, 0, 0);
        is("which(0)", x.which(0), 1);
        is("unsee()", x.unsee(), 2);
        is("unsee() again", x.unsee(), 0);
        is("which(0) after it", x.which(0), 5);
        is("see(1, 0, 0)", x.see(1, 0, 0), 1);
        is("which(0)", x.which(0), 4);
    }

    private static void which() {
        promise = 24;
        WornLetters x = Due.stone("S111111dab005dba005dcc009l5");
        is("which(0)", x.which(0), 9);
        is("which(1)", x.which(1), 0);
        is("which(2)", x.which(2), OUTSIDE);
        is("which(-1)", x.which(-1), OUTSIDE);
        x.see(2, 0, 0);
        is("which(0), not cc at 0", x.which(0), 6);
        is("which(1), not cc at 0", x.which(1), 1);
        x.see(1, 3, 1);
        is("which(0), and ba at 3", x.which(0), 2);
        is("which(1), and ba at 3", x.which(1), 6);
        x.see(0, 2, 0);
        is("which(0), and not ab at 2", x.which(0), 2);
        x.see(0, 2, 1);
        is("which(0), and ab at 2", x.which(0), 0);
        is("which(1), and ab at 2", x.which(1), NONE);
        x.unsee();
        x.see(0, 0, 1);
        x.see(0, 0, 1);
        is("which(0), the same twice", x.which(0), 3);
        x.see(1, 0, 1);
        is("which(0), two words at a unit", x.which(0), 0);
        x.unsee();
        x.see(2, 3, 1);
        x.bar(2);
        is("which(0), an excluded word", x.which(0), 0);
        whichAfterStone();
        WornLetters y = Due.stone(DENSE);
        y.see(0, 21, 1);
        is("which(0), dense", y.which(0), 2097152);
        y.see(0, 0, 1);
        is("which(0), dense", y.which(0), 262144);
        y.see(7, 3, 0);
        is("which(0), dense", y.which(0), 229376);
    }

    private static void whichAfterStone() {
        WornLetters x = Due.stone("S111111dab005dba005dcc009l5");
        x.see(2, 0, 0);
        x.see(1, 3, 0);
        Due.write(x, "S111111dab001l2");
        x.stone();
        is("which(0), no such word or unit any more", x.which(0), 1);
        is("which(1), no such word or unit any more", x.which(1), 0);
        Due.write(x, "S111111dab005dba005dcc009l5");
        x.stone();
        x.unsee();
        x.see(0, 3, 1);
        Due.write(x, "S111111dab001l2");
        x.stone();
        is("which(0), nothing begins at no unit", x.which(0), 0);
        is("which(1), nothing begins at no unit", x.which(1), NONE);
        Due.write(x, "S111111dab005dba005dcc009l5");
        x.stone();
        x.unsee();
        x.see(2, 0, 1);
        Due.write(x, "S111111dab005l5");
        x.stone();
        is("which(0), no word begins nowhere", x.which(0), 0);
        is("which(0) without a line", lineless(x), 0);
    }

    private static long lineless(WornLetters x) {
        Due.write(x, "S111111dab001");
        x.stone();
        return x.which(0);
    }

    private static void share() {
        promise = 25;
        WornLetters x = Due.stone("S111111dab001dba001dcc001l5");
        // Each of the nine readings is shared equally by the words that it needs.
        is("share(0, true)", x.share(0, true), 3);
        is("share(0, false)", x.share(0, false), 1);
        x.carve(0, 0);
        // ab.ab, ab.ba, ab.cc: word 0 has 1 + 1/2 + 1/2, the others 1/2 each.
        is("share(0, true)", x.share(0, true), 2);
        is("share(0, false)", x.share(0, false), 1);
        is("share(1, true)", x.share(1, true), 1);
        is("share(1, false)", x.share(1, false), 2);
        x.bar(1);
        is("share(1, true), excluded", x.share(1, true), 0);
        is("share(1, false), excluded", x.share(1, false), 1);
        is("share(0, true)", x.share(0, true), 3);
        is("share(0, false)", x.share(0, false), 2);
        is("share(3, true)", x.share(3, true), UNKNOWN);
        is("share(-1, false)", x.share(-1, false), UNKNOWN);
        WornLetters y = Due.stone("S111111dab001dcd001def001lab.cd.ef");
        is("share(2, true), a third", y.share(2, true), 1);
        is("share(2, false), a third", y.share(2, false), 3);
        WornLetters z = Due.stone(DENSE);
        is("share(3, true), dense", z.share(3, true), 2097152);
        is("share(3, false), dense", z.share(3, false), 1);
    }

    private static void lost() {
        promise = 26;
        WornLetters x = Due.stone("S111111dab001dba001dcc001lab2c");
        // Only ab.cc: both must be known.
        is("lost(3, true)", x.lost(3, true), 49);
        is("lost(3, false)", x.lost(3, false), 100);
        is("lost(5, true)", x.lost(5, true), 1);
        is("lost(5, false)", x.lost(5, false), 4);
        is("lost(0, true)", x.lost(0, true), 1);
        is("lost(0, false)", x.lost(0, false), 1);
        is("lost(10, true)", x.lost(10, true), 0);
        is("lost(10, false)", x.lost(10, false), 1);
        is("lost(11, true)", x.lost(11, true), OUTSIDE);
        is("lost(-1, false)", x.lost(-1, false), OUTSIDE);
        x.bar(0);
        is("lost(0, true), excluded", x.lost(0, true), 0);
        is("lost(0, false), excluded", x.lost(0, false), 1);
        WornLetters y = Due.stone(DENSE);
        // One known word suffices: 1 - 0.7^8 and 1 - 0.1^8.
        is("lost(7, true), dense", y.lost(7, true), 94235199);
        is("lost(7, false), dense", y.lost(7, false), 100000000);
        is("lost(1, true), dense", y.lost(1, true), 99999999);
        WornLetters z = new WornLetters();
        is("lost(0, true) without words", z.lost(0, true), 0);
        is("lost(10, false) without words", z.lost(10, false), 1);
    }

    private static void seed() {
        promise = 27;
        WornLetters x = new WornLetters();
        is("seed(Long.MIN)", x.seed(Long.MIN_VALUE), 0);
        is("seed(Long.MAX)", x.seed(Long.MAX_VALUE), Long.MIN_VALUE);
        is("seed(-1)", x.seed(-1), Long.MAX_VALUE);
        is("seed(0)", x.seed(0), -1);
        is("seed(0)", x.seed(0), 0);
    }

    private static void drawn() {
        promise = 28;
        WornLetters x = Due.stone("S111111dab001dba002dcc004l2");
        is("drawn(0)", x.drawn(0), OUTSIDE);
        is("drawn(21)", x.drawn(21), OUTSIDE);
        is("drawn(least)", x.drawn(LEAST), OUTSIDE);
        is("seed(0) after errors", x.seed(0), 0);
        long random = 0;
        int[] weights = {4, 2, 1};
        int sum = 0;
        for (int i = 0; i < 20; i++) {
            random = random * 6364136223846793005L + 1442695040888963407L;
            sum += weights[(int) ((random >>> 33) % 3)];
        }
        is("drawn(20)", x.drawn(20), sum);
        is("seed(-1)", x.seed(-1), random);
        random = -6364136223846793005L + 1442695040888963407L;
        is("drawn(1)", x.drawn(1), weights[(int) ((random >>> 33) % 3)]);
        is("seed(5)", x.seed(5), random);
        is("count(5), no act", x.count(5), 0);
        x.bar(0);
        x.bar(1);
        x.bar(2);
        is("drawn(20) without readings", x.drawn(20), 0);
        is("seed(0)", x.seed(0), 6906002813012847257L);
        WornLetters y = Due.stone(DENSE);
        is("drawn(1), dense", y.drawn(1), y.rank((1442695040888963407L >>> 33) % 16777216, -1));
    }

    private static void keep() {
        promise = 29;
        WornLetters x = Due.stone(WIDE);
        is("keep(2)", x.keep(2), UNKNOWN);
        is("keep(-1)", x.keep(-1), UNKNOWN);
        is("again(0)", x.again(0), STATE);
        x.bar(0);
        is("keep(0)", x.keep(0), 4);
        is("count(5), acts stay", x.count(5), 1);
        x.bar(1);
        is("keep(1)", x.keep(1), 4);
        x.bar(2);
        is("keep(0), in its place", x.keep(0), 4);
        is("undo()", x.undo(), 2);
        is("again(0)", x.again(0), 4);
        is("count(4)", x.count(4), 7);
        is("again(1)", x.again(1), 4);
        is("count(4)", x.count(4), 3);
    }

    private static void again() {
        promise = 30;
        WornLetters x = Due.stone(WIDE);
        is("again(2)", x.again(2), UNKNOWN);
        is("again(-1)", x.again(-1), UNKNOWN);
        is("again(0)", x.again(0), STATE);
        is("again(1)", x.again(1), STATE);
        x.keep(1);
        x.wear(0);
        x.carve(0, 5);
        x.bar(3);
        x.setRule(1, 1, 0);
        x.weigh(0, 9);
        x.see(0, 0, 1);
        is("count(5)", x.count(5), 5);
        is("again(0), the other slot", x.again(0), STATE);
        is("count(5) after an error", x.count(5), 5);
        is("again(1)", x.again(1), 4);
        is("count(5)", x.count(5), 0);
        is("undo()", x.undo(), STATE);
        is("line(0)", x.line(0), 2);
        is("line(1)", x.line(1), 8);
        is("count(4)", x.count(4), 0);
        is("rule(1, 1)", x.rule(1, 1), 1);
        is("word(0, 3)", x.word(0, 3), 5);
        is("count(6), observations stay", x.count(6), 1);
        x.weigh(0, 3);
        is("again(1), the slot keeps it", x.again(1), 4);
        is("word(0, 3)", x.word(0, 3), 5);
        x.stone();
        is("again(1) after a stone", x.again(1), STATE);
    }

    private static void count() {
        promise = 31;
        WornLetters x = Due.stone(WIDE);
        x.bar(1);
        x.bar(3);
        x.see(0, 0, 1);
        x.wear(4);
        int[] want = {WIDE.length(), 4, 16, 12, 10, 3, 1};
        for (int what = 0; what <= 6; what++) {
            is("count(" + what + ")", x.count(what), want[what]);
        }
        is("count(7)", x.count(7), OUTSIDE);
        is("count(-1)", x.count(-1), OUTSIDE);
        is("count(least)", x.count(LEAST), OUTSIDE);
    }

    private static void constants() {
        is("UNKNOWN", WornLetters.UNKNOWN, UNKNOWN);
        is("OUTSIDE", WornLetters.OUTSIDE, OUTSIDE);
        is("STATE", WornLetters.STATE, STATE);
        is("FULL", WornLetters.FULL, FULL);
        is("NONE", WornLetters.NONE, NONE);
    }
}
