/** The boundary cases of promises 9 to 14: the acts and their undoing. */
public final class ActBoundaryTest {
    private static final int UNKNOWN = Sentences.UNKNOWN, OUTSIDE = Sentences.OUTSIDE, STATE = Sentences.STATE;
    private static final int[] FAR = Sentences.FAR;
    private static final String FIRST_NAMED =
        "If several apply to a call, the result is the one that the description of the method's result names first.";
    private static final String ACTS = "The successful calls of wear, carve, bar, setRule and weigh are acts.";
    private static final String UNCHANGED = "A call that returns an error changes nothing.";

    /** Each sign once: a 0, b 1-2, c 3-5, d 6, e 7-8, f 9-11, a blank 12, gaps 13 to 15. */
    private static final String EACH_SIGN = "S123123dab001dba019dcc222labcdef.3";

    private static final Sentences s = new Sentences("ActBoundaryTest");

    public static void main(String[] args) {
        wear();
        wearRefused();
        carve();
        carveRefused();
        bar();
        setRule();
        weigh();
        undoOfEach();
        undoOfFourteen();
        undoAtTheWrap();
        undoReturns();
        whatIsAnAct();
        s.finish(9, 14);
    }

    private static void lineIs(WornLetters x, String when, int... due) {
        s.is("count(2) " + when, x.count(2), due.length);
        for (int u = 0; u < due.length; u++) {
            s.is("line(" + u + ") " + when, x.line(u), due[u]);
        }
    }

    // ---- promise 9

    private static void wear() {
        s.of(9, "Returns the sign");
        int[] begin = {0, 1, 3, 6, 7, 9, 12};
        for (int sign = 0; sign <= 6; sign++) {
            s.is("wear(" + begin[sign] + ")", Due.stone(EACH_SIGN).wear(begin[sign]), sign);
        }
        s.of(9, "Removes a sign from the line: the units that it covers become gaps.");
        WornLetters x = Due.stone(EACH_SIGN);
        x.wear(0);
        lineIs(x, "behind wear(0)", 7, 1, 8, 2, 8, 8, 3, 4, 8, 5, 8, 8, 6, 7, 7, 7);
        x.wear(3);
        lineIs(x, "behind wear(3)", 7, 1, 8, 7, 7, 7, 3, 4, 8, 5, 8, 8, 6, 7, 7, 7);
        x.wear(7);
        lineIs(x, "behind wear(7)", 7, 1, 8, 7, 7, 7, 3, 7, 7, 5, 8, 8, 6, 7, 7, 7);
        x.wear(12);
        lineIs(x, "behind wear(12)", 7, 1, 8, 7, 7, 7, 3, 7, 7, 5, 8, 8, 7, 7, 7, 7);
        s.is("count(3)", x.count(3), 10);
        WornLetters y = Due.stone("S333333lab");
        s.is("wear(3), the last sign", y.wear(3), 1);
        lineIs(y, "behind it", 0, 8, 8, 7, 7, 7);
        WornLetters z = Due.stone("S113111l993c");
        s.is("wear(21), the last sign of the longest line", z.wear(21), 2);
        s.is("count(3)", z.count(3), 24);
        WornLetters dot = Due.stone("S111111l.");
        s.is("wear(0) of a single blank", dot.wear(0), 6);
        s.is("count(3)", dot.count(3), 1);
    }

    private static void wearRefused() {
        s.of(9, "UNKNOWN if there is no such unit");
        WornLetters x = Due.stone(EACH_SIGN);
        s.is("wear(-1)", x.wear(-1), UNKNOWN);
        s.is("wear(16)", x.wear(16), UNKNOWN);
        for (int far : FAR) {
            s.is("wear(" + far + ")", x.wear(far), UNKNOWN);
        }
        WornLetters full = Due.stone("S111111l995a");
        s.is("wear(24)", full.wear(24), UNKNOWN);
        s.is("wear(23)", full.wear(23), 0);
        s.of(9, "STATE if no sign begins there.");
        for (int unit : new int[] {2, 4, 5, 8, 10, 11, 13, 15}) {
            s.is("wear(" + unit + ")", x.wear(unit), STATE);
        }
        s.of(9, "This is an act.");
        WornLetters act = Due.stone(EACH_SIGN);
        s.is("wear(0) of sign 0", act.wear(0), 0);
        s.is("count(5)", act.count(5), 1);
        s.is("undo()", act.undo(), 0);
        s.is("line(0)", act.line(0), 0);
        s.of(9, UNCHANGED);
        lineIs(x, "behind refused calls", 0, 1, 8, 2, 8, 8, 3, 4, 8, 5, 8, 8, 6, 7, 7, 7);
        s.is("count(5) behind refused calls", x.count(5), 0);
        x.wear(3);
        s.is("wear(3) a second time", x.wear(3), STATE);
        s.is("count(5) behind it", x.count(5), 1);
    }

    // ---- promise 10

    private static void carve() {
        s.of(10, "Returns the number of units that are gaps after that");
        int[] width = {1, 2, 3, 1, 2, 3, 1};
        for (int sign = 0; sign <= 6; sign++) {
            WornLetters x = Due.stone("S123123l5");
            s.is("carve(1, " + sign + ")", x.carve(1, sign), 5 - width[sign]);
            s.is("line(1)", x.line(1), sign);
            for (int u = 0; u < 5; u++) {
                int due = u == 1 ? sign : u > 1 && u <= width[sign] ? 8 : 7;
                s.is("line(" + u + ") behind carve(1, " + sign + ")", x.line(u), due);
            }
        }
        WornLetters y = Due.stone("S123123l6");
        s.is("carve(0, 2)", y.carve(0, 2), 3);
        s.is("carve(5, 6)", y.carve(5, 6), 2);
        s.is("carve(3, 1), the last gap", y.carve(3, 1), 0);
        lineIs(y, "when all is carved", 2, 8, 8, 1, 8, 6);
        s.of(10, "This is an act.");
        s.is("count(5), that of the last gap is one, too", y.count(5), 3);
        s.is("undo() of the last one", y.undo(), 2);
        lineIs(y, "behind it", 2, 8, 8, 7, 7, 6);
        WornLetters one = Due.stone("S111111l1");
        s.is("carve(0, 0) of one unit", one.carve(0, 0), 0);
        WornLetters full = Due.stone("S311111l996");
        s.is("carve(21, 0) at the end of the longest line", full.carve(21, 0), 21);
        s.is("line(23)", full.line(23), 8);
        s.is("carve(20, 6)", full.carve(20, 6), 20);
        s.is("carve(0, 0)", full.carve(0, 0), 17);
        s.of(10, "The blank is sign 6; its width is 1.");
        WornLetters blank = Due.stone("S333333l1");
        s.is("carve(0, 6), where letters are wide", blank.carve(0, 6), 0);
    }

    private static void carveRefused() {
        s.of(10, "STATE if one of the units that it would cover does not exist or is no gap.");
        WornLetters x = Due.stone("S123123la1b2.4");
        // a 0, gap 1, b 2-3, gaps 4 and 5, a blank 6, gaps 7 to 10.
        s.is("carve(10, 1), one unit beyond the end", x.carve(10, 1), STATE);
        s.is("carve(9, 2), one unit beyond the end", x.carve(9, 2), STATE);
        s.is("carve(10, 2), two units beyond the end", x.carve(10, 2), STATE);
        s.is("carve(1, 1), a letter in the way", x.carve(1, 1), STATE);
        s.is("carve(4, 2), a blank in the way", x.carve(4, 2), STATE);
        s.is("carve(5, 4), a blank in the way", x.carve(5, 4), STATE);
        s.is("carve(0, 0), the same letter", x.carve(0, 0), STATE);
        s.is("carve(0, 3), another letter", x.carve(0, 3), STATE);
        s.is("carve(3, 0), covered", x.carve(3, 0), STATE);
        s.is("carve(6, 6), the same blank", x.carve(6, 6), STATE);
        s.of(10, UNCHANGED);
        lineIs(x, "behind refused calls", 0, 7, 1, 8, 7, 7, 6, 7, 7, 7, 7);
        s.is("count(5) behind refused calls", x.count(5), 0);
        s.of(10, "Puts a sign into a gap of the line.");
        s.is("carve(8, 2), up to the end", x.carve(8, 2), 4);
        s.is("carve(4, 4), up to the blank", x.carve(4, 4), 2);
        s.is("carve(1, 3), up to the letter", x.carve(1, 3), 1);
        s.is("carve(7, 6), up to the letter", x.carve(7, 6), 0);
        s.of(10, "UNKNOWN if there is no such unit; OUTSIDE if x is out of range");
        WornLetters y = Due.stone("S111111l2");
        s.is("carve(-1, 0)", y.carve(-1, 0), UNKNOWN);
        s.is("carve(2, 0)", y.carve(2, 0), UNKNOWN);
        for (int far : FAR) {
            s.is("carve(" + far + ", 0)", y.carve(far, 0), UNKNOWN);
            s.is("carve(0, " + far + ")", y.carve(0, far), OUTSIDE);
        }
        s.of(10, "`x`: the sign, 0 to 6");
        s.is("carve(0, -1)", y.carve(0, -1), OUTSIDE);
        s.is("carve(0, 7), the number of a gap", y.carve(0, 7), OUTSIDE);
        s.is("carve(0, 8), the number of what is covered", y.carve(0, 8), OUTSIDE);
        s.is("count(3) behind refused calls", y.count(3), 2);
        s.is("count(5) behind refused calls", y.count(5), 0);
        s.of(10, FIRST_NAMED);
        s.is("carve(2, 7), no unit and no sign", y.carve(2, 7), UNKNOWN);
        s.is("carve(-1, -1), no unit and no sign", y.carve(-1, -1), UNKNOWN);
        y.carve(0, 0);
        s.is("carve(0, 7), no sign and no gap", y.carve(0, 7), OUTSIDE);
        s.is("carve(0, -1), no sign and no gap", y.carve(0, -1), OUTSIDE);
        s.is("carve(0, 7) without a line", new WornLetters().carve(0, 7), UNKNOWN);
    }

    // ---- promises 11 to 13

    private static void bar() {
        WornLetters x = Due.stone("S111111" + "dab001".repeat(8));
        s.of(11, "Returns 1 if it is excluded after that, else 0");
        for (int w = 0; w < 8; w++) {
            s.is("bar(" + w + ")", x.bar(w), 1);
            s.is("count(4)", x.count(4), (2 << w) - 1);
        }
        s.is("bar(0) again", x.bar(0), 0);
        s.is("bar(7) again", x.bar(7), 0);
        s.is("count(4)", x.count(4), 126);
        s.is("bar(7) for the third time", x.bar(7), 1);
        s.of(11, "Excludes a word, or includes it again, if it is excluded.");
        WornLetters y = Due.stone("S111111dab001dba001l2");
        s.is("bar(1)", y.bar(1), 1);
        s.is("readings(), excluded", y.readings(), 1);
        s.is("bar(1) again", y.bar(1), 0);
        s.is("readings(), included again", y.readings(), 2);
        s.of(11, "This is an act.");
        s.is("count(5)", y.count(5), 2);
        s.is("undo()", y.undo(), 1);
        s.is("word(1, 5)", y.word(1, 5), 1);
        s.of(11, "UNKNOWN if there is no such word.");
        s.is("bar(-1)", x.bar(-1), UNKNOWN);
        s.is("bar(8)", x.bar(8), UNKNOWN);
        s.is("bar(32), a shift that wraps", x.bar(32), UNKNOWN);
        for (int far : FAR) {
            s.is("bar(" + far + ")", x.bar(far), UNKNOWN);
        }
        s.is("bar(1) of one word", Due.stone("S111111dab001").bar(1), UNKNOWN);
        s.is("bar(0) of no word", Due.stone("S111111").bar(0), UNKNOWN);
        s.of(11, UNCHANGED);
        s.is("count(4) behind refused calls", x.count(4), 254);
        s.is("count(5) behind refused calls", x.count(5), 11);
    }

    private static void setRule() {
        s.of(12, "Returns the previous rule");
        WornLetters x = new WornLetters();
        for (int p = 0; p < 3; p++) {
            for (int q = 0; q < 3; q++) {
                s.is("setRule(" + p + ", " + q + ", 0)", x.setRule(p, q, 0), 1);
                s.is("setRule(" + p + ", " + q + ", 2)", x.setRule(p, q, 2), 0);
                s.is("rule(" + p + ", " + q + ")", x.rule(p, q), 2);
                s.is("setRule(" + p + ", " + q + ", 1)", x.setRule(p, q, 1), 2);
            }
        }
        x.setRule(1, 2, 0);
        s.is("rule(2, 1), of the kinds the other way round", x.rule(2, 1), 1);
        s.of(12, "This is an act, also if it stays the same.");
        WornLetters y = new WornLetters();
        s.is("setRule(2, 2, 1), the same", y.setRule(2, 2, 1), 1);
        s.is("count(5)", y.count(5), 1);
        s.is("undo()", y.undo(), 0);
        s.is("rule(2, 2)", y.rule(2, 2), 1);
        s.of(12, "`p`: the kind of the first word, 0 to 2");
        s.is("setRule(-1, 2, 1)", y.setRule(-1, 2, 1), OUTSIDE);
        s.is("setRule(0, 2, 1)", y.setRule(0, 2, 1), 1);
        s.is("setRule(2, 2, 1)", y.setRule(2, 2, 1), 1);
        s.is("setRule(3, 2, 1)", y.setRule(3, 2, 1), OUTSIDE);
        s.of(12, "`q`: the kind of the word that follows, 0 to 2");
        s.is("setRule(2, -1, 1)", y.setRule(2, -1, 1), OUTSIDE);
        s.is("setRule(2, 0, 1)", y.setRule(2, 0, 1), 1);
        s.is("setRule(2, 2, 1)", y.setRule(2, 2, 1), 1);
        s.is("setRule(2, 3, 1)", y.setRule(2, 3, 1), OUTSIDE);
        s.of(12, "`v`: the new rule, 0 to 2");
        s.is("setRule(2, 2, -1)", y.setRule(2, 2, -1), OUTSIDE);
        s.is("setRule(2, 2, 0)", y.setRule(2, 2, 0), 1);
        s.is("setRule(2, 2, 2)", y.setRule(2, 2, 2), 0);
        s.is("setRule(2, 2, 3)", y.setRule(2, 2, 3), OUTSIDE);
        s.is("count(5) of six that were not refused", y.count(5), 6);
        for (int left = 5; left >= 0; left--) {
            y.undo();
        }
        s.of(12, "OUTSIDE if an argument is out of range.");
        s.is("setRule(3, 3, 3)", y.setRule(3, 3, 3), OUTSIDE);
        s.is("setRule(-1, -1, -1)", y.setRule(-1, -1, -1), OUTSIDE);
        for (int far : FAR) {
            s.is("setRule(" + far + ", 2, 2)", y.setRule(far, 2, 2), OUTSIDE);
            s.is("setRule(2, " + far + ", 2)", y.setRule(2, far, 2), OUTSIDE);
            s.is("setRule(2, 2, " + far + ")", y.setRule(2, 2, far), OUTSIDE);
        }
        s.of(12, UNCHANGED);
        for (int i = 0; i < 9; i++) {
            s.is("rule(" + i / 3 + ", " + i % 3 + ") behind refused calls", y.rule(i / 3, i % 3), 1);
        }
        s.is("count(5) behind refused calls", y.count(5), 0);
    }

    private static void weigh() {
        s.of(13, "Returns the previous weight");
        WornLetters x = Due.stone("S111111dab001dba009");
        s.is("weigh(0, 9)", x.weigh(0, 9), 1);
        s.is("weigh(0, 1)", x.weigh(0, 1), 9);
        s.is("weigh(1, 5)", x.weigh(1, 5), 9);
        s.is("word(0, 3)", x.word(0, 3), 1);
        s.is("word(1, 3)", x.word(1, 3), 5);
        s.of(13, "This is an act, also if it stays the same.");
        s.is("weigh(1, 5), the same", x.weigh(1, 5), 5);
        s.is("count(5)", x.count(5), 4);
        s.is("undo()", x.undo(), 3);
        s.is("word(1, 3)", x.word(1, 3), 5);
        s.of(13, "`v`: the new weight, 1 to 9");
        s.is("weigh(0, 0)", x.weigh(0, 0), OUTSIDE);
        s.is("weigh(0, 9)", x.weigh(0, 9), 1);
        s.is("weigh(0, 1)", x.weigh(0, 1), 9);
        s.is("weigh(0, 10)", x.weigh(0, 10), OUTSIDE);
        s.is("undo()", x.undo(), 4);
        s.is("undo()", x.undo(), 3);
        s.of(13, "UNKNOWN if there is no such word; OUTSIDE if v is out of range.");
        s.is("weigh(-1, 1)", x.weigh(-1, 1), UNKNOWN);
        s.is("weigh(2, 1)", x.weigh(2, 1), UNKNOWN);
        for (int far : FAR) {
            s.is("weigh(" + far + ", 1)", x.weigh(far, 1), UNKNOWN);
            s.is("weigh(0, " + far + ")", x.weigh(0, far), OUTSIDE);
        }
        WornLetters eight = Due.stone("S111111" + "dab001".repeat(8));
        s.is("weigh(7, 9)", eight.weigh(7, 9), 1);
        s.is("weigh(8, 9)", eight.weigh(8, 9), UNKNOWN);
        s.of(13, FIRST_NAMED);
        s.is("weigh(2, 0)", x.weigh(2, 0), UNKNOWN);
        s.is("weigh(-1, 10)", x.weigh(-1, 10), UNKNOWN);
        s.is("weigh(0, 0) of no word", new WornLetters().weigh(0, 0), UNKNOWN);
        s.of(13, UNCHANGED);
        s.is("word(0, 3) behind refused calls", x.word(0, 3), 1);
        s.is("count(5) behind refused calls", x.count(5), 3);
    }

    // ---- promise 14

    private static void undoOfEach() {
        s.of(14, "Undoes the latest act.");
        for (int unit : new int[] {0, 1, 3, 6, 7, 9, 12}) {
            WornLetters x = Due.stone(EACH_SIGN);
            x.wear(unit);
            s.is("undo() of wear(" + unit + ")", x.undo(), 0);
            lineIs(x, "behind it", 0, 1, 8, 2, 8, 8, 3, 4, 8, 5, 8, 8, 6, 7, 7, 7);
        }
        for (int sign = 0; sign <= 6; sign++) {
            WornLetters x = Due.stone("S123123l1.5.1");
            x.carve(3, sign);
            s.is("undo() of carve(3, " + sign + ")", x.undo(), 0);
            lineIs(x, "behind it", 7, 6, 7, 7, 7, 7, 7, 6, 7);
        }
        WornLetters x = Due.stone(EACH_SIGN);
        x.bar(2);
        x.bar(2);
        s.is("undo() of the second bar(2)", x.undo(), 1);
        s.is("count(4)", x.count(4), 4);
        s.is("undo() of the first bar(2)", x.undo(), 0);
        s.is("count(4)", x.count(4), 0);
        x.setRule(0, 2, 0);
        x.setRule(0, 2, 2);
        s.is("undo() of the second setRule", x.undo(), 1);
        s.is("rule(0, 2)", x.rule(0, 2), 0);
        s.is("undo() of the first setRule", x.undo(), 0);
        s.is("rule(0, 2)", x.rule(0, 2), 1);
        x.weigh(1, 1);
        x.weigh(1, 5);
        s.is("undo() of the second weigh", x.undo(), 1);
        s.is("word(1, 3)", x.word(1, 3), 1);
        s.is("undo() of the first weigh", x.undo(), 0);
        s.is("word(1, 3)", x.word(1, 3), 9);
        // Signs of other widths in the same units: the latest one first, or they would not fit.
        x.wear(3);
        x.carve(4, 1);
        x.wear(6);
        x.carve(3, 6);
        s.is("undo()", x.undo(), 3);
        s.is("undo()", x.undo(), 2);
        lineIs(x, "behind two of four", 0, 1, 8, 7, 1, 8, 3, 4, 8, 5, 8, 8, 6, 7, 7, 7);
        s.is("undo()", x.undo(), 1);
        s.is("undo()", x.undo(), 0);
        lineIs(x, "behind four", 0, 1, 8, 2, 8, 8, 3, 4, 8, 5, 8, 8, 6, 7, 7, 7);
    }

    /** An object whose latest act was the n-th: the rule for 0 and 0 becomes 0, 1, 2, 0, .. */
    private static WornLetters ruled(int n) {
        WornLetters x = new WornLetters();
        for (int i = 0; i < n; i++) {
            x.setRule(0, 0, i % 3);
        }
        return x;
    }

    private static void undoOfFourteen() {
        s.of(14, "The latest 14 acts can be undone, the latest one first.");
        for (int n : new int[] {1, 2, 13, 14, 15, 16, 27, 28, 29, 42, 43, 100}) {
            WornLetters x = ruled(n);
            int left = Math.min(n, 14);
            s.is("count(5) behind " + n + " acts", x.count(5), left);
            for (int back = 1; back <= left; back++) {
                s.is("undo() of act " + (n - back) + " of " + n, x.undo(), left - back);
                int due = n - back == 0 ? 1 : (n - back - 1) % 3;
                s.is("rule(0, 0) behind undoing " + back + " of " + n, x.rule(0, 0), due);
            }
            s.is("undo() of one more of " + n, x.undo(), STATE);
            int kept = n <= 14 ? 1 : (n - 15) % 3;
            s.is("rule(0, 0) behind it", x.rule(0, 0), kept);
        }
    }

    private static void undoAtTheWrap() {
        s.of(14, "The latest 14 acts");
        for (int n : new int[] {12, 13, 14, 15, 28}) {
            WornLetters x = ruled(n);
            x.undo();
            x.undo();
            int left = Math.min(n, 14) - 2;
            s.is("setRule(1, 1, 0)", x.setRule(1, 1, 0), 1);
            s.is("count(5) behind " + n + " acts, two undone and one new", x.count(5), left + 1);
            x.setRule(1, 1, 2);
            x.setRule(2, 2, 0);
            int most = Math.min(left + 3, 14);
            s.is("count(5) behind three new ones", x.count(5), most);
            s.is("undo()", x.undo(), most - 1);
            s.is("rule(2, 2)", x.rule(2, 2), 1);
            s.is("undo()", x.undo(), most - 2);
            s.is("rule(1, 1)", x.rule(1, 1), 0);
            s.is("undo()", x.undo(), most - 3);
            s.is("rule(1, 1)", x.rule(1, 1), 1);
            s.is("rule(0, 0), still as before the new ones", x.rule(0, 0), (n - 3) % 3);
        }
        s.of(14, ACTS);
        WornLetters x = ruled(14);
        x.setRule(3, 0, 0);
        x.wear(0);
        x.carve(0, 0);
        x.bar(0);
        x.weigh(0, 1);
        for (int i = 0; i < 14; i++) {
            s.is("undo(), refused acts have put out none", x.undo(), 13 - i);
        }
        s.is("rule(0, 0)", x.rule(0, 0), 1);
        s.is("undo()", x.undo(), STATE);
    }

    private static void undoReturns() {
        s.of(14, "Returns the number of acts that can still be undone; STATE if there is none.");
        WornLetters x = new WornLetters();
        s.is("undo() of a new object", x.undo(), STATE);
        s.is("undo() once more", x.undo(), STATE);
        s.is("count(5) behind refused calls", x.count(5), 0);
        x.setRule(0, 0, 2);
        s.is("undo() of one act", x.undo(), 0);
        s.is("undo() of none", x.undo(), STATE);
        s.is("rule(0, 0) behind a refused call", x.rule(0, 0), 1);
        x.setRule(0, 1, 2);
        s.is("undo() of the next act", x.undo(), 0);
        WornLetters y = Due.stone("S111111dab001l2");
        y.bar(0);
        y.stone();
        s.is("undo() behind a stone", y.undo(), STATE);
        y.keep(0);
        y.bar(0);
        y.again(0);
        s.is("undo() behind again", y.undo(), STATE);
        y.bar(0);
        Due.write(y, "x");
        y.stone();
        s.is("undo() behind a refused stone", y.undo(), 0);
        y.bar(0);
        y.again(1);
        s.is("undo() behind a refused again", y.undo(), 0);
        s.is("count(4)", y.count(4), 0);
    }

    private static void whatIsAnAct() {
        s.of(14, ACTS);
        WornLetters x = Due.stone("S111111dab001dba002lab.2");
        x.see(0, 0, 1);
        x.unsee();
        x.seed(5);
        x.drawn(3);
        x.keep(0);
        x.wipe();
        x.write('S');
        x.fault();
        x.judge(3, 100003000040000L);
        s.is("count(5) behind other calls", x.count(5), 0);
        x.wear(0);
        s.is("count(5) behind wear", x.count(5), 1);
        x.carve(0, 0);
        s.is("count(5) behind carve", x.count(5), 2);
        x.bar(1);
        s.is("count(5) behind bar", x.count(5), 3);
        x.setRule(0, 0, 2);
        s.is("count(5) behind setRule", x.count(5), 4);
        x.weigh(1, 2);
        s.is("count(5) behind weigh", x.count(5), 5);
        x.undo();
        s.is("count(5) behind undo, which is no act", x.count(5), 4);
    }
}
