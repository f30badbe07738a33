/** The three examples of the document's description, call by call. */
public final class ExamplesTest {
    public static void main(String[] args) {
        Due due = new Due("ExamplesTest");
        first(due);
        second(due);
        third(due);
        due.finish();
    }

    private static void writes(Due due, WornLetters x, int... letters) {
        for (int i = 0; i < letters.length; i++) {
            due.is("write(" + letters[i] + ")", x.write(letters[i]), i + 1);
        }
    }

    private static void first(Due due) {
        WornLetters x = new WornLetters();
        writes(due, x, 83, 49, 49, 49, 49, 49, 49, 100, 97, 98, 49, 49, 49, 108);
        due.is("example 1: fault()", x.fault(), 14);
        due.is("example 1: stone()", x.stone(), -3);
    }

    private static void second(Due due) {
        WornLetters x = new WornLetters();
        writes(due, x, 83, 50, 49, 49, 49, 49, 49, 108);
        due.is("example 2: fault()", x.fault(), 8);
        due.is("example 2: stone()", x.stone(), -3);
        due.is("example 2: word(0, 0)", x.word(0, 0), -1);
        due.is("example 2: rule(1, 2)", x.rule(1, 2), 1);
        due.is("example 2: readings()", x.readings(), 0);
        due.is("example 2: rank(0, -1)", x.rank(0L, -1), -9);
        due.is("example 2: setRule(1, 2, 2)", x.setRule(1, 2, 2), 1);
        due.is("example 2: undo()", x.undo(), 0);
    }

    private static void third(Due due) {
        WornLetters x = new WornLetters();
        writes(due, x, 83);
        due.is("example 3: fault()", x.fault(), 1);
        due.is("example 3: stone()", x.stone(), -3);
        due.is("example 3: bar(0)", x.bar(0), -1);
        due.is("example 3: line(0)", x.line(0), -1);
        due.is("example 3: sure(0)", x.sure(0), -1);
        due.is("example 3: which(1)", x.which(1), -9);
        due.is("example 3: judge(1, 60000)", x.judge(1, 60000L), -9);
        due.is("example 3: judge(1, 41200)", x.judge(1, 41200L), -9);
        due.is("example 3: lost(5, true)", x.lost(5, true), 0);
        due.is("example 3: drawn(3)", x.drawn(3), 0);
        due.is("example 3: seed(4)", x.seed(4L), -7280499659394350823L);
        due.is("example 3: keep(1)", x.keep(1), 0);
        due.is("example 3: again(0)", x.again(0), -3);
        due.is("example 3: again(1)", x.again(1), 0);
        due.is("example 3: count(4)", x.count(4), 0);
    }
}
