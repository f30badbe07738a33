/** The boundary cases of promises 1 to 8: a new object, the text, its grammar and fault, and what was read from it. */
public final class TextBoundaryTest {
    private static final int UNKNOWN = Sentences.UNKNOWN, OUTSIDE = Sentences.OUTSIDE, STATE = Sentences.STATE,
        FULL = Sentences.FULL, NONE = Sentences.NONE;
    private static final int[] FAR = Sentences.FAR;

    private static final String S = "S111111";
    private static final String EIGHT = "dab001".repeat(8);
    private static final String NINE_RULES = "r000r010r020r100r110r120r200r210r220";
    private static final String SIGNS = "abcdef.123456789";
    /** Eight words of five letters: the longest that there can be. */
    private static final String LONG_WORDS = "dabcde001".repeat(8);

    private static final Sentences s = new Sentences("TextBoundaryTest");

    public static void main(String[] args) {
        newObject();
        newObjectByDescription();
        codes();
        write();
        wipe();
        faultOfWidths();
        faultOfWords();
        faultOfRules();
        faultOfLines();
        faultAtTheEnd();
        stoneReplaces();
        stoneKeeps();
        stoneReturns();
        word();
        wordNumbers();
        line();
        rule();
        s.finish(1, 8);
    }

    // ---- promise 1

    private static void newObject() {
        s.of(1, "Creates an object without words and line, with an empty text, no observations and empty slots");
        s.is("count(1), words", new WornLetters().count(1), 0);
        s.is("word(0, 0)", new WornLetters().word(0, 0), UNKNOWN);
        s.is("keep(0), the number of words", new WornLetters().keep(0), 0);
        s.is("count(2), units", new WornLetters().count(2), 0);
        s.is("count(3), gaps", new WornLetters().count(3), 0);
        s.is("line(0)", new WornLetters().line(0), UNKNOWN);
        s.is("count(0), length of the text", new WornLetters().count(0), 0);
        s.is("wipe()", new WornLetters().wipe(), 0);
        s.is("fault()", new WornLetters().fault(), 0);
        s.is("count(6), observations", new WornLetters().count(6), 0);
        s.is("unsee()", new WornLetters().unsee(), 0);
        s.is("again(0)", new WornLetters().again(0), STATE);
        s.is("again(1)", new WornLetters().again(1), STATE);
        s.of(1, "the random number is 0");
        s.is("seed(1)", new WornLetters().seed(1), 0);
        WornLetters x = new WornLetters();
        x.drawn(1);
        s.is("seed(1) after one draw from 0", x.seed(1), 1442695040888963407L);
    }

    private static void newObjectByDescription() {
        s.of(1, "There are at most 8 words, numbered from 0; at first there are none.");
        s.is("bar(0)", new WornLetters().bar(0), UNKNOWN);
        s.is("weigh(0, 1)", new WornLetters().weigh(0, 1), UNKNOWN);
        s.of(1, "Words can be excluded; at first none is.");
        s.is("count(4)", new WornLetters().count(4), 0);
        s.of(1, "0 no; 1 yes (at first); 2 only if the two words have the same ending.");
        for (int p = 0; p < 3; p++) {
            for (int q = 0; q < 3; q++) {
                s.is("rule(" + p + ", " + q + ")", new WornLetters().rule(p, q), 1);
            }
        }
        s.of(1, "The line consists of at most 24 units, numbered from 0; at first there are none.");
        s.is("wear(0)", new WornLetters().wear(0), UNKNOWN);
        s.is("carve(0, 0)", new WornLetters().carve(0, 0), UNKNOWN);
        s.of(1, "(A line without units has no readings.)");
        s.is("readings()", new WornLetters().readings(), 0);
        s.of(1, "The latest 14 acts can be undone, the latest one first.");
        s.is("count(5)", new WornLetters().count(5), 0);
        s.is("undo()", new WornLetters().undo(), STATE);
        s.of(1, "Creates an object");
        WornLetters used = Due.stone(S + "dab001r000l5");
        used.seed(77);
        used.see(0, 0, 1);
        used.keep(0);
        used.bar(0);
        WornLetters x = new WornLetters();
        for (int what = 0; what <= 6; what++) {
            s.is("count(" + what + ") behind another object", x.count(what), 0);
        }
        s.is("rule(0, 0) behind another object", x.rule(0, 0), 1);
        s.is("again(0) behind another object", x.again(0), STATE);
        s.is("seed(0) behind another object", x.seed(0), 0);
        s.is("count(4) of the other object", used.count(4), 1);
    }

    private static void codes() {
        s.of(1, "The error codes are UNKNOWN (there is no such word, unit or slot), OUTSIDE (another argument is out of its "
            + "range), STATE (the call is not possible, as told), FULL (there is no room).");
        s.is("UNKNOWN", WornLetters.UNKNOWN, UNKNOWN);
        s.is("OUTSIDE", WornLetters.OUTSIDE, OUTSIDE);
        s.is("STATE", WornLetters.STATE, STATE);
        s.is("FULL", WornLetters.FULL, FULL);
        s.of(1, "NONE (-9) stands for \"there is none\"");
        s.is("NONE", WornLetters.NONE, NONE);
        s.is("which(1) of a new object", new WornLetters().which(1), NONE);
    }

    // ---- promise 2

    private static void write() {
        s.of(2, "`letter`: its code, 0 to 255");
        WornLetters x = new WornLetters();
        s.is("write(-1)", x.write(-1), OUTSIDE);
        s.is("write(0)", x.write(0), 1);
        s.is("write(255)", x.write(255), 2);
        s.is("write(256)", x.write(256), OUTSIDE);
        s.is("write(256 + 'S')", x.write(256 + 'S'), OUTSIDE);
        s.of(2, "OUTSIDE if letter is out of range");
        for (int far : FAR) {
            s.is("write(" + far + ")", x.write(far), OUTSIDE);
        }
        s.is("count(0) behind refused calls", x.count(0), 2);
        s.is("write(1) behind refused calls", x.write(1), 3);
        s.of(2, "Appends a character to the text.");
        WornLetters y = new WornLetters();
        s.is("fault() of nothing", y.fault(), 0);
        y.write('S');
        s.is("fault() of S", y.fault(), 1);
        y.write('3');
        s.is("fault() of S3", y.fault(), 2);
        s.of(2, "Returns the length of the text");
        WornLetters z = new WornLetters();
        for (int i = 1; i <= 110; i++) {
            s.is("write, character " + i, z.write('a'), i);
        }
        s.of(2, "FULL if the text has 110 characters.");
        s.is("write(97), the 111th", z.write('a'), FULL);
        s.is("count(0)", z.count(0), 110);
        s.is("write(97), once more", z.write('a'), FULL);
        z.wipe();
        s.is("write(97) after wipe", z.write('a'), 1);
        s.of(2, "If several apply to a call, the result is the one that the description of the method's result names first.");
        for (int i = 2; i <= 110; i++) {
            z.write('a');
        }
        s.is("write(256) into a full text", z.write(256), OUTSIDE);
        s.is("write(-1) into a full text", z.write(-1), OUTSIDE);
        s.is("write(255) into a full text", z.write(255), FULL);
    }

    // ---- promise 3

    private static void wipe() {
        s.of(3, "Returns the length that it had.");
        WornLetters x = new WornLetters();
        s.is("wipe() of nothing", x.wipe(), 0);
        x.write(0);
        s.is("wipe() of one character", x.wipe(), 1);
        for (int i = 0; i < 120; i++) {
            x.write('S');
        }
        s.is("wipe() of a full text", x.wipe(), 110);
        s.is("wipe() again", x.wipe(), 0);
        s.of(3, "Empties the text.");
        WornLetters y = Due.stone(S + "dab001l2");
        y.wipe();
        s.is("count(0)", y.count(0), 0);
        s.is("fault()", y.fault(), 0);
        s.is("stone()", y.stone(), STATE);
        s.is("readings(), what was read stays", y.readings(), 1);
        s.is("write('S')", y.write('S'), 1);
        s.is("fault(), nothing is left of the old text", y.fault(), 1);
    }

    // ---- promise 4

    /** Behind a beginning without fault just some characters are allowed: each of the 256 is tried. */
    private static void next(String beginning, String allowed, boolean complete) {
        int length = beginning.length();
        s.is("fault of " + beginning, Due.fault(beginning), complete ? NONE : length);
        for (char c = 0; c < 256; c++) {
            int fault = Due.fault(beginning + c);
            boolean accepted = fault == NONE || fault == length + 1;
            boolean due = allowed.indexOf(c) >= 0;
            s.is("fault of " + beginning + " and code " + (int) c + ", accepted", accepted ? 1 : 0, due ? 1 : 0);
            if (!due) {
                s.is("fault of " + beginning + " and code " + (int) c, fault, length);
            }
        }
    }

    private static void faultOfWidths() {
        s.of(4, "stone = \"S\" width width width width width width { word | rule } [ line ]");
        next("", "S", false);
        next(S, "drl", true);
        s.of(4, "the widths of a to f, 1 to 3 each");
        for (int length = 1; length < 7; length++) {
            next(S.substring(0, length), "123", false);
            next("S333333".substring(0, length), "123", false);
        }
        s.is("fault of S123123", Due.fault("S123123"), NONE);
        s.is("fault of S333333l", Due.fault("S333333l"), 8);
    }

    private static void faultOfWords() {
        s.of(4, "word = \"d\" letter letter [ letter [ letter [ letter ] ] ] kind ending weight");
        next(S + "d", "abcdef", false);
        next(S + "da", "abcdef", false);
        next(S + "dab", "abcdef012", false);
        next(S + "dabc", "abcdef012", false);
        next(S + "dabcd", "abcdef012", false);
        next(S + "dabcde", "012", false);
        next(S + "dab001", "drl", true);
        next(S + "dabcde229", "drl", true);
        s.of(4, "A letter is a character from a to f");
        s.is("fault of daf", Due.fault(S + "daf009"), NONE);
        s.is("fault of dag", Due.fault(S + "dag009"), 9);
        s.is("fault of dfa", Due.fault(S + "dfa009"), NONE);
        s.is("fault of dAb", Due.fault(S + "dAb009"), 8);
        s.is("fault of da`", Due.fault(S + "da`009"), 9);
        s.of(4, "kind, ending, p and q 0 to 2; weight 1 to 9");
        next(S + "dab0", "012", false);
        next(S + "dab2", "012", false);
        next(S + "dab00", "123456789", false);
        next(S + "dab22", "123456789", false);
        s.of(4, "A word has 2 to 5 letters, a kind (0 to 2), an ending (0 to 2) and a weight (1 to 9).");
        s.is("fault of one letter", Due.fault(S + "da001"), 9);
        s.is("fault of two letters", Due.fault(S + "dab001"), NONE);
        s.is("fault of five letters", Due.fault(S + "dabcde001"), NONE);
        s.is("fault of six letters", Due.fault(S + "dabcdef001"), 13);
        s.is("fault of kind 2", Due.fault(S + "dab201"), NONE);
        s.is("fault of kind 3", Due.fault(S + "dab301"), 10);
        s.is("fault of ending 2", Due.fault(S + "dab021"), NONE);
        s.is("fault of ending 3", Due.fault(S + "dab031"), 11);
        s.is("fault of weight 0", Due.fault(S + "dab000"), 12);
        s.is("fault of weight 1", Due.fault(S + "dab001"), NONE);
        s.is("fault of weight 9", Due.fault(S + "dab009"), NONE);
        s.is("fault of weight 10", Due.fault(S + "dab0010"), 13);
        s.of(4, "all other words of the grammar that are not in quotes are single digits");
        s.is("fault of a width with two digits", Due.fault("S1111111"), 7);
        s.is("fault of a rule with two digits", Due.fault(S + "r0000"), 11);
        s.is("fault of a kind with two digits", Due.fault(S + "dab0001l1"), 12);
        s.is("fault of two gaps", Due.fault(S + "l10"), 9);
        s.of(4, "(So the \"d\" of a ninth word is at fault");
        next(S + EIGHT, "rl", true);
        next(S + "dab001".repeat(7), "drl", true);
        next(S + LONG_WORDS, "rl", true);
        next(S + "r000" + EIGHT + "r010", "rl", true);
        s.is("fault of a ninth word", Due.fault(S + EIGHT + "dab001"), S.length() + 48);
    }

    private static void faultOfRules() {
        s.of(4, "rule = \"r\" p q v");
        next(S + "r", "012", false);
        next(S + "r0", "012", false);
        next(S + "r2", "012", false);
        next(S + "r000", "drl", true);
        s.of(4, "v 0 to 2, the rule for the kinds p and q");
        next(S + "r00", "012", false);
        next(S + "r22", "012", false);
        s.of(4, "at most one rule for each p and q");
        next(S + "r000r0", "12", false);
        next(S + "r010r0", "02", false);
        next(S + "r010r1", "012", false);
        next(S + "r120r2", "012", false);
        next(S + "r010r002r0", "2", false);
        next(S + "r220r201r2", "1", false);
        s.is("fault of the same rule twice", Due.fault(S + "r120r120"), S.length() + 6);
        s.is("fault of p and q and of q and p", Due.fault(S + "r120r210"), NONE);
        s.of(4, "the \"r\" if all nine rules are given");
        next(S + NINE_RULES, "dl", true);
        next(S + NINE_RULES + "dab001", "dl", true);
        next(S + NINE_RULES.substring(4), "drl", true);
        next(S + NINE_RULES + EIGHT, "l", true);
        s.of(4, "the digit p if all three rules for it are");
        next(S + "r000r010r020r", "12", false);
        next(S + "r100r110r120r", "02", false);
        next(S + "r200r210r220r", "01", false);
        next(S + "r000r010r", "012", false);
        next(S + "r000r110r220r", "012", false);
        next(S + "r000r010r020r200r210r220r", "1", false);
        next(S + NINE_RULES.substring(4) + "r", "0", false);
        next(S + NINE_RULES.substring(4) + "r0", "0", false);
    }

    private static void faultOfLines() {
        s.of(4, "line = \"l\" sign { sign }");
        next(S + "l", SIGNS, false);
        next(S + "l1", SIGNS, true);
        next(S + "l.", SIGNS, true);
        next(S + "lf", SIGNS, true);
        next(S + "dab001l2", SIGNS, true);
        s.of(4, "sign = letter | \".\" | gap");
        s.is("fault of each sign", Due.fault(S + "labcdef.1"), NONE);
        s.is("fault of lg", Due.fault(S + "lg"), 8);
        s.is("fault of l:", Due.fault(S + "l:"), 8);
        s.is("fault of l/", Due.fault(S + "l/"), 8);
        s.is("fault of l-", Due.fault(S + "l-"), 8);
        s.of(4, "with this grammar, which has no blanks");
        s.is("fault of a blank before all", Due.fault(" " + S), 0);
        s.is("fault of a blank between parts", Due.fault(S + " l1"), 7);
        s.is("fault of a blank in a line", Due.fault(S + "l1 1"), 9);
        s.is("fault of a blank at the end", Due.fault(S + "l1 "), 9);
        s.of(4, "gap 1 to 9, the number of units of a gap.");
        s.is("fault of l0", Due.fault(S + "l0"), 8);
        s.is("fault of l1", Due.fault(S + "l1"), NONE);
        s.is("fault of l9", Due.fault(S + "l9"), NONE);
        s.of(4, "and at most 24 units.");
        s.is("fault of 24 units", Due.fault(S + "l996"), NONE);
        s.is("fault of 25 units", Due.fault(S + "l997"), 10);
        s.is("fault of 25 units by a blank", Due.fault(S + "l996."), 11);
        s.is("fault of 24 units by a wide letter", Due.fault("S311111l993a"), NONE);
        s.is("fault of 25 units by a wide letter", Due.fault("S311111l994a"), 11);
        s.is("fault of 26 units by a wide letter", Due.fault("S311111l995a"), 11);
        s.of(4, "a sign with which the line would have more than 24 units.)");
        next(S + "l996", "", true);
        next(S + "l" + "a".repeat(24), "", true);
        next(S + "l" + ".".repeat(24), "", true);
        next(S + "l995", "abcdef.1", true);
        next(S + "l994", "abcdef.12", true);
        next("S123123l995", "ad.1", true);
        next("S123123l994", "abde.12", true);
        next("S123123l993", "abcdef.123", true);
        next("S123123l99", "abcdef.123456", true);
        next("S123123l96", SIGNS, true);
        next("S333333l96", SIGNS, true);
        next("S333333l97", "abcdef.12345678", true);
        next("S333333labcdefab", "", true);
        next("S333333labcdefa", "abcdef.123", true);
        next("S222222labcdefabcdef", "", true);
    }

    private static void faultAtTheEnd() {
        s.of(4, "If there is no such character, but the text ends too early, the fault is its length.");
        String whole = "S123123dabcde229r222l9.f";
        boolean[] complete = new boolean[whole.length() + 1];
        for (int end : new int[] {7, 16, 20, 22, 23, 24}) {
            complete[end] = true;
        }
        for (int end = 0; end <= whole.length(); end++) {
            String text = whole.substring(0, end);
            s.is("fault of " + text, Due.fault(text), complete[end] ? NONE : end);
        }
        s.of(4, "The fault of a text is the position, from 0, of the first character with which, behind the characters "
            + "before it, no valid text can begin");
        s.is("fault of X00X", Due.fault("X00X"), 0);
        s.is("fault of two faults", Due.fault("S101011dzz"), 2);
        s.is("fault of a fault and an early end", Due.fault(S + "dag0"), 9);
        s.of(4, "where valid texts may have any length.");
        // 7 + 72 + 28 = 107 characters: what follows could be ended behind the 110th alone.
        String most = S + LONG_WORDS + NINE_RULES.substring(8);
        s.is("fault of 110 characters that end within a rule", Due.fault(most + "r00"), 110);
        s.is("fault of 109 characters that end within a rule", Due.fault(most + "r0"), 109);
        s.is("fault of 108 characters that end with an l", Due.fault(most + "l"), 108);
        s.is("fault of the 110th character", Due.fault(most + "r03"), 109);
        String words = "dabcd001".repeat(6) + "dabcde001".repeat(2);
        s.is("fault of 110 characters that end with an l", Due.fault(S + words + NINE_RULES + "l"), 110);
        s.of(4, "NONE if it has none.");
        s.is("fault of 110 characters", Due.fault(most + "lab"), NONE);
        s.is("fault of 109 characters", Due.fault(most + "l9"), NONE);
        s.is("fault of 7 characters", Due.fault(S), NONE);
    }

    // ---- promise 5

    private static void stoneReplaces() {
        s.of(5, "its widths, words, rules and line replace the present ones.");
        WornLetters x = Due.stone("S333333dab229dcd118def007r000r112r220labc.9");
        Due.write(x, "S111112dfa115r010l1f");
        s.is("stone()", x.stone(), 3);
        s.is("count(1)", x.count(1), 1);
        s.is("word(0, 3)", x.word(0, 3), 5);
        s.is("word(0, 4)", x.word(0, 4), 3);
        s.is("word(1, 0)", x.word(1, 0), UNKNOWN);
        s.is("count(3)", x.count(3), 1);
        s.is("line(1)", x.line(1), 5);
        s.is("line(2)", x.line(2), 8);
        s.is("line(3)", x.line(3), UNKNOWN);
        s.is("rule(0, 1)", x.rule(0, 1), 0);
        s.of(5, "Without a rule for p and q it is 1; without a line there are no units.");
        s.is("rule(0, 0)", x.rule(0, 0), 1);
        s.is("rule(1, 1)", x.rule(1, 1), 1);
        s.is("rule(2, 2)", x.rule(2, 2), 1);
        Due.write(x, S);
        s.is("stone() of widths alone", x.stone(), 0);
        s.is("rule(0, 1)", x.rule(0, 1), 1);
        s.is("count(2)", x.count(2), 0);
        s.is("line(0)", x.line(0), UNKNOWN);
        s.is("count(1)", x.count(1), 0);
        s.is("word(0, 0)", x.word(0, 0), UNKNOWN);
        s.of(5, "No word is excluded, there are no acts to undo, and the slots are empty.");
        WornLetters y = Due.stone(S + EIGHT + "l2");
        for (int w = 0; w < 8; w++) {
            y.bar(w);
        }
        y.keep(0);
        y.keep(1);
        s.is("count(4) before", y.count(4), 255);
        s.is("stone(), the same text", y.stone(), 2);
        s.is("count(4)", y.count(4), 0);
        s.is("word(7, 5)", y.word(7, 5), 0);
        s.is("count(5)", y.count(5), 0);
        s.is("undo()", y.undo(), STATE);
        s.is("again(0)", y.again(0), STATE);
        s.is("again(1)", y.again(1), STATE);
    }

    private static void stoneKeeps() {
        s.of(5, "The text, the observations and the random number stay.");
        String text = S + "dab001l2";
        WornLetters x = Due.stone(text);
        x.see(0, 0, 0);
        x.seed(Long.MIN_VALUE);
        x.wipe();
        Due.write(x, text);
        s.is("stone()", x.stone(), 2);
        s.is("count(0)", x.count(0), text.length());
        s.is("fault()", x.fault(), NONE);
        s.is("write('1'), behind the same text", x.write('1'), text.length() + 1);
        s.is("stone(), one unit more", x.stone(), 3);
        s.is("count(6)", x.count(6), 1);
        s.is("unsee()", x.unsee(), 1);
        s.is("seed(0)", x.seed(0), Long.MIN_VALUE);
    }

    private static void stoneReturns() {
        s.of(5, "Returns the number of units of the line");
        String[] texts = {S, S + "l1", S + "l.", S + "lf", "S111113lf", S + "l995", S + "l996", S + "l" + "a".repeat(24),
            "S333333labcdefab", "S123123labcdef"};
        int[] units = {0, 1, 1, 1, 3, 23, 24, 24, 24, 12};
        for (int i = 0; i < texts.length; i++) {
            WornLetters x = new WornLetters();
            Due.write(x, texts[i]);
            s.is("stone() of " + texts[i], x.stone(), units[i]);
            s.is("count(2) of " + texts[i], x.count(2), units[i]);
        }
        s.of(5, "All this is read from a text of at most 110 characters");
        WornLetters full = new WornLetters();
        Due.write(full, S + LONG_WORDS + NINE_RULES.substring(8) + "lab");
        s.is("count(0) of the longest text", full.count(0), 110);
        s.is("stone() of the longest text", full.stone(), 2);
        s.is("count(1) of the longest text", full.count(1), 8);
        s.is("rule(2, 2) of the longest text", full.rule(2, 2), 0);
        s.is("line(1) of the longest text", full.line(1), 1);
        s.of(5, "STATE if the text has a fault.");
        String before = S + "dab001r002l2";
        for (String text : new String[] {"", "S", "S11111", "S111114", S + "l", S + "l0", S + "l997", S + "dab000", S + "x"}) {
            WornLetters x = Due.stone(before);
            x.keep(1);
            x.bar(0);
            Due.write(x, text);
            s.is("stone() of " + text, x.stone(), STATE);
            s.is("count(2) behind it", x.count(2), 2);
            s.is("rule(0, 0) behind it", x.rule(0, 0), 2);
            s.is("count(4) behind it", x.count(4), 1);
            s.is("word(0, 4) behind it", x.word(0, 4), 2);
            s.is("undo() behind it", x.undo(), 0);
            s.is("again(1) behind it", x.again(1), 1);
            s.is("count(0) behind it", x.count(0), text.length());
        }
    }

    // ---- promise 6

    private static void word() {
        WornLetters x = Due.stone("S113113dba001dccccf229dfb125dccccc211l1");
        int[][] due = {{2, 0, 0, 1, 2, 0, 0}, {5, 2, 2, 9, 15, 0, 5}, {2, 1, 2, 5, 4, 0, 1}, {5, 2, 1, 1, 15, 0, 2}};
        s.of(6, "0: the number of its letters; 1: kind; 2: ending; 3: weight; 4: the number of units that it takes; "
            + "5: 1 if it is excluded, else 0; 6: its last letter");
        for (int w = 0; w < 4; w++) {
            for (int what = 0; what <= 6; what++) {
                s.is("word(" + w + ", " + what + ")", x.word(w, what), due[w][what]);
            }
        }
        x.bar(3);
        s.is("word(3, 5), excluded", x.word(3, 5), 1);
        s.is("word(2, 5), not excluded", x.word(2, 5), 0);
        x.bar(3);
        s.is("word(3, 5), included again", x.word(3, 5), 0);
        x.weigh(0, 9);
        s.is("word(0, 3), the new weight", x.word(0, 3), 9);
        s.of(6, "UNKNOWN if there is no such word");
        s.is("word(-1, 0)", x.word(-1, 0), UNKNOWN);
        s.is("word(4, 0)", x.word(4, 0), UNKNOWN);
        s.of(6, "OUTSIDE if what is out of range.");
        s.is("word(0, -1)", x.word(0, -1), OUTSIDE);
        s.is("word(3, 7)", x.word(3, 7), OUTSIDE);
        for (int far : FAR) {
            s.is("word(0, " + far + ")", x.word(0, far), OUTSIDE);
        }
        s.of(6, "If several apply to a call, the result is the one that the description of the method's result names first.");
        s.is("word(4, 7)", x.word(4, 7), UNKNOWN);
        s.is("word(-1, -1)", x.word(-1, -1), UNKNOWN);
        s.is("word(0, -1) of a new object", new WornLetters().word(0, -1), UNKNOWN);
    }

    private static void wordNumbers() {
        s.of(6, "There are at most 8 words, numbered in their order");
        WornLetters x = Due.stone(S + "dab001dac012daad103dae114daf205dba216dbb027dbc128");
        for (int w = 0; w < 8; w++) {
            s.is("word(" + w + ", 3)", x.word(w, 3), w + 1);
        }
        s.is("word(8, 3)", x.word(8, 3), UNKNOWN);
        for (int far : FAR) {
            s.is("word(" + far + ", 3)", x.word(far, 3), UNKNOWN);
        }
        s.of(6, "Each has a width of 1 to 3 units");
        WornLetters y = Due.stone("S123321dab001dac001daf001dde001dcf001dcd001");
        int[] spans = {3, 4, 2, 5, 4, 6};
        for (int w = 0; w < 6; w++) {
            s.is("word(" + w + ", 4)", y.word(w, 4), spans[w]);
        }
        s.of(6, "There are six letters, a to f, which are numbered 0 to 5.");
        WornLetters z = Due.stone(S + "dfa001dfb001dfc001dfd001dfe001daf001");
        for (int w = 0; w < 6; w++) {
            s.is("word(" + w + ", 6)", z.word(w, 6), w);
        }
    }

    // ---- promises 7 and 8

    private static void line() {
        s.of(7, "Returns the letter (0 to 5) or the blank (6) that begins there; 7 for a gap; 8 if a letter that begins "
            + "before covers it");
        WornLetters x = Due.stone("S123123labcdef.3.ab1");
        int[] due = {0, 1, 8, 2, 8, 8, 3, 4, 8, 5, 8, 8, 6, 7, 7, 7, 6, 0, 1, 8, 7};
        s.is("count(2)", x.count(2), 21);
        for (int u = 0; u < due.length; u++) {
            s.is("line(" + u + ")", x.line(u), due[u]);
        }
        s.of(7, "UNKNOWN if there is no such unit.");
        s.is("line(-1)", x.line(-1), UNKNOWN);
        s.is("line(21)", x.line(21), UNKNOWN);
        for (int far : FAR) {
            s.is("line(" + far + ")", x.line(far), UNKNOWN);
        }
        s.of(7, "The line consists of at most 24 units, numbered from 0");
        WornLetters y = Due.stone("S113111l993c");
        s.is("line(20)", y.line(20), 7);
        s.is("line(21)", y.line(21), 2);
        s.is("line(23)", y.line(23), 8);
        s.is("line(24)", y.line(24), UNKNOWN);
        s.of(7, "On it lie signs (letters and blanks), each over as many units as its width says, beginning at a unit; units "
            + "where no sign lies are gaps.");
        WornLetters wide = Due.stone("S321111l1aab.b1");
        int[] covered = {7, 0, 8, 8, 0, 8, 8, 1, 8, 6, 1, 8, 7};
        for (int u = 0; u < covered.length; u++) {
            s.is("line(" + u + ")", wide.line(u), covered[u]);
        }
        s.is("count(3)", wide.count(3), 2);
        s.of(7, "\".\" is a blank.");
        s.is("line(0) of a single dot", Due.stone(S + "l.").line(0), 6);
        s.is("count(3) of a single dot", Due.stone(S + "l.").count(3), 0);
        s.of(7, "The blank is sign 6; its width is 1.");
        WornLetters z = Due.stone("S333333l.1..");
        int[] blanks = {6, 7, 6, 6};
        for (int u = 0; u < blanks.length; u++) {
            s.is("line(" + u + "), where letters are wide", z.line(u), blanks[u]);
        }
    }

    private static void rule() {
        s.of(8, "Returns the rule, 0 to 2");
        WornLetters x = Due.stone(S + "r000r012r021r100r111r122r202r210r221");
        int[] due = {0, 2, 1, 0, 1, 2, 2, 0, 1};
        for (int i = 0; i < 9; i++) {
            s.is("rule(" + i / 3 + ", " + i % 3 + ")", x.rule(i / 3, i % 3), due[i]);
        }
        s.of(8, "`p`: the kind of the first word, 0 to 2");
        s.is("rule(-1, 0)", x.rule(-1, 0), OUTSIDE);
        s.is("rule(0, 1)", x.rule(0, 1), 2);
        s.is("rule(2, 1)", x.rule(2, 1), 0);
        s.is("rule(3, 0)", x.rule(3, 0), OUTSIDE);
        s.of(8, "`q`: the kind of the word that follows, 0 to 2");
        s.is("rule(0, -1)", x.rule(0, -1), OUTSIDE);
        s.is("rule(1, 0)", x.rule(1, 0), 0);
        s.is("rule(1, 2)", x.rule(1, 2), 2);
        s.is("rule(0, 3)", x.rule(0, 3), OUTSIDE);
        s.of(8, "OUTSIDE if p or q is out of range.");
        s.is("rule(-1, 3)", x.rule(-1, 3), OUTSIDE);
        s.is("rule(1, -1), a place of the table", x.rule(1, -1), OUTSIDE);
        s.is("rule(3, -3)", x.rule(3, -3), OUTSIDE);
        for (int far : FAR) {
            s.is("rule(" + far + ", 2)", x.rule(far, 2), OUTSIDE);
            s.is("rule(2, " + far + ")", x.rule(2, far), OUTSIDE);
        }
    }
}
