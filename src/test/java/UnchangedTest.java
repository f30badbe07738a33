import java.util.ArrayList;
import java.util.List;
import java.util.function.Consumer;
import java.util.function.Supplier;
import java.util.function.ToLongFunction;

/**
 * Refused calls and queries change nothing, and other calls no more than they say. Each call is made on one of two
 * objects that were made in the same way; then both must answer alike, whatever they are asked.
 */
public final class UnchangedTest {
    private static final int UNKNOWN = Sentences.UNKNOWN, OUTSIDE = Sentences.OUTSIDE, STATE = Sentences.STATE,
        FULL = Sentences.FULL, NONE = Sentences.NONE;
    private static final String UNCHANGED = "A call that returns an error changes nothing.";
    private static final String QUERIES = "Queries change nothing.";

    private static final String LONG_TEXT = "S111111" + "dabcde001".repeat(8) + "r020r100r110r120r200r210r220lab";

    private static final Sentences s = new Sentences("UnchangedTest");

    public static void main(String[] args) {
        objects();
        refusedText();
        refusedActs();
        refusedQuestions();
        refusedRest();
        queriesOfState();
        queriesOfReadings();
        noMoreThanTold();
        actsUndone();
        s.finish(1, 31);
    }

    // ---- objects

    /** Acts of all kinds, a slot that differs from the present state, six observations, an incomplete text. */
    private static WornLetters rich() {
        WornLetters x = Due.stone("S121111dab003dba104dcc015dab225r012r212lab1ab4");
        x.wear(4);
        x.weigh(3, 7);
        x.bar(2);
        x.keep(0);
        x.bar(2);
        x.carve(8, 0);
        x.setRule(0, 0, 2);
        x.weigh(0, 8);
        x.setRule(0, 0, 1);
        x.bar(2);
        x.seed(99);
        x.see(0, 0, 1);
        x.see(1, 4, 0);
        x.see(2, 4, 0);
        x.see(3, 4, 0);
        x.see(2, 0, 0);
        x.see(0, 3, 0);
        Due.write(x, "S213111dba102dab214r110l");
        return x;
    }

    /** Just read, without acts, with both slots kept. */
    private static WornLetters fresh() {
        WornLetters x = Due.stone("S121111dab003dba104l7");
        x.keep(0);
        x.keep(1);
        Due.write(x, "S213111dba102dab214r110l");
        return x;
    }

    /** The longest text, which is not read yet. */
    private static WornLetters full() {
        WornLetters x = Due.stone("S121111dab003dba104l7");
        x.bar(0);
        Due.write(x, LONG_TEXT);
        return x;
    }

    private static void objects() {
        s.of(24, "for which all observations are true.");
        s.is("which(0) of the rich object", rich().which(0), 2);
        s.is("readings() of the rich object", rich().readings(), 8);
        int[] due = {24, 4, 11, 5, 4, 9, 6};
        for (int what = 0; what <= 6; what++) {
            s.is("count(" + what + ") of the rich object", rich().count(what), due[what]);
        }
        s.is("again(0) of the rich object", rich().again(0), 4);
        s.is("readings() of the fresh object", fresh().readings(), 4);
        s.is("fault() of the full object", full().fault(), NONE);
        s.is("count(0) of the full object", full().count(0), 110);
    }

    // ---- what can be seen of them

    private static void present(WornLetters x, List<Long> seen) {
        for (int what = 0; what <= 6; what++) {
            seen.add((long) x.count(what));
        }
        for (int w = 0; w < x.count(1); w++) {
            for (int what = 0; what <= 6; what++) {
                seen.add((long) x.word(w, what));
            }
        }
        for (int u = 0; u < x.count(2); u++) {
            seen.add((long) x.line(u));
        }
        for (int i = 0; i < 9; i++) {
            seen.add((long) x.rule(i / 3, i % 3));
        }
        seen.add(x.readings());
        for (int rank = 0; rank < 4; rank++) {
            for (int k = -2; k < 4; k++) {
                seen.add((long) x.rank(rank, k));
            }
        }
        seen.add(x.which(0));
        seen.add(x.which(1));
        seen.add((long) x.fault());
        seen.add((long) x.drawn(3));
        seen.add(x.seed(5));
    }

    private static void undone(WornLetters x, List<Long> seen) {
        for (int i = 0; i < 15; i++) {
            seen.add((long) x.undo());
            seen.add((long) x.count(3));
            seen.add((long) x.count(4));
            seen.add((long) x.rule(0, 0));
            for (int w = 0; w < 4; w++) {
                seen.add((long) x.word(w, 3));
            }
        }
        present(x, seen);
    }

    private static void slots(WornLetters x, List<Long> seen) {
        seen.add((long) x.again(1));
        seen.add((long) x.count(3));
        seen.add((long) x.again(0));
        present(x, seen);
    }

    private static void text(WornLetters x, List<Long> seen) {
        seen.add((long) x.fault());
        seen.add((long) x.write('4'));
        seen.add((long) x.fault());
        seen.add((long) x.stone());
        present(x, seen);
    }

    private static void observations(WornLetters x, List<Long> seen) {
        seen.add((long) x.see(0, 0, 1));
        seen.add((long) x.unsee());
        seen.add((long) x.see(1, 0, 0));
        present(x, seen);
    }

    private static void view(int number, WornLetters x, List<Long> seen) {
        switch (number) {
            case 0 -> present(x, seen);
            case 1 -> undone(x, seen);
            case 2 -> slots(x, seen);
            case 3 -> text(x, seen);
            default -> observations(x, seen);
        }
    }

    private static final String[] VIEWS = {"present", "undone", "slots", "text", "observations"};

    private static void alike(String name, Supplier<WornLetters> made, Consumer<WornLetters> call, int... views) {
        for (int number : views) {
            WornLetters touched = made.get();
            WornLetters twin = made.get();
            call.accept(touched);
            List<Long> got = new ArrayList<>();
            List<Long> due = new ArrayList<>();
            view(number, touched, got);
            view(number, twin, due);
            // The first answer that differs tells enough: others follow from it.
            int i = 0;
            while (i < due.size() - 1 && i < got.size() - 1 && got.get(i).equals(due.get(i))) {
                i++;
            }
            s.is(name + " behind it, " + VIEWS[number] + ", answer " + i + " of " + due.size(), got.get(i), due.get(i));
        }
    }

    private static void refused(String name, Supplier<WornLetters> made, ToLongFunction<WornLetters> call, long due) {
        s.is(name, call.applyAsLong(made.get()), due);
        alike(name, made, call::applyAsLong, 0, 1, 2, 3, 4);
    }

    private static void query(String name, ToLongFunction<WornLetters> call) {
        WornLetters x = rich();
        long first = call.applyAsLong(x);
        s.is(name + ", a second time", call.applyAsLong(x), first);
        alike(name, UnchangedTest::rich, call::applyAsLong, 0, 1, 2, 3, 4);
    }

    // ---- refused calls

    private static void refusedText() {
        s.of(2, UNCHANGED);
        refused("write(-1)", UnchangedTest::rich, x -> x.write(-1), OUTSIDE);
        refused("write(256)", UnchangedTest::rich, x -> x.write(256), OUTSIDE);
        refused("write('a') into a full text", UnchangedTest::full, x -> x.write('a'), FULL);
        refused("write(256) into a full text", UnchangedTest::full, x -> x.write(256), OUTSIDE);
        s.of(5, UNCHANGED);
        refused("stone()", UnchangedTest::rich, x -> x.stone(), STATE);
        refused("stone()", UnchangedTest::fresh, x -> x.stone(), STATE);
        s.of(6, UNCHANGED);
        refused("word(4, 0)", UnchangedTest::rich, x -> x.word(4, 0), UNKNOWN);
        refused("word(0, 7)", UnchangedTest::rich, x -> x.word(0, 7), OUTSIDE);
        s.of(7, UNCHANGED);
        refused("line(11)", UnchangedTest::rich, x -> x.line(11), UNKNOWN);
        s.of(8, UNCHANGED);
        refused("rule(3, 0)", UnchangedTest::rich, x -> x.rule(3, 0), OUTSIDE);
    }

    private static void refusedActs() {
        // a 0, b 1-2, gaps 3 and 4, b 5-6, a gap 7, a 8, gaps 9 and 10.
        s.of(9, UNCHANGED);
        refused("wear(11)", UnchangedTest::rich, x -> x.wear(11), UNKNOWN);
        refused("wear(-1)", UnchangedTest::rich, x -> x.wear(-1), UNKNOWN);
        refused("wear(2)", UnchangedTest::rich, x -> x.wear(2), STATE);
        refused("wear(3)", UnchangedTest::rich, x -> x.wear(3), STATE);
        s.of(10, UNCHANGED);
        refused("carve(11, 0)", UnchangedTest::rich, x -> x.carve(11, 0), UNKNOWN);
        refused("carve(3, 7)", UnchangedTest::rich, x -> x.carve(3, 7), OUTSIDE);
        refused("carve(10, 1)", UnchangedTest::rich, x -> x.carve(10, 1), STATE);
        refused("carve(0, 0)", UnchangedTest::rich, x -> x.carve(0, 0), STATE);
        s.of(11, UNCHANGED);
        refused("bar(4)", UnchangedTest::rich, x -> x.bar(4), UNKNOWN);
        refused("bar(-1)", UnchangedTest::rich, x -> x.bar(-1), UNKNOWN);
        s.of(12, UNCHANGED);
        refused("setRule(3, 0, 0)", UnchangedTest::rich, x -> x.setRule(3, 0, 0), OUTSIDE);
        refused("setRule(0, 3, 0)", UnchangedTest::rich, x -> x.setRule(0, 3, 0), OUTSIDE);
        refused("setRule(0, 0, 3)", UnchangedTest::rich, x -> x.setRule(0, 0, 3), OUTSIDE);
        refused("setRule(0, 0, -1)", UnchangedTest::rich, x -> x.setRule(0, 0, -1), OUTSIDE);
        s.of(13, UNCHANGED);
        refused("weigh(4, 1)", UnchangedTest::rich, x -> x.weigh(4, 1), UNKNOWN);
        refused("weigh(0, 0)", UnchangedTest::rich, x -> x.weigh(0, 0), OUTSIDE);
        refused("weigh(0, 10)", UnchangedTest::rich, x -> x.weigh(0, 10), OUTSIDE);
        s.of(14, UNCHANGED);
        refused("undo()", UnchangedTest::fresh, x -> x.undo(), STATE);
    }

    private static void refusedQuestions() {
        s.of(15, UNCHANGED);
        refused("lies(4, 0)", UnchangedTest::rich, x -> x.lies(4, 0), UNKNOWN);
        refused("lies(0, 11)", UnchangedTest::rich, x -> x.lies(0, 11), UNKNOWN);
        s.of(17, UNCHANGED);
        refused("rank(0, -3)", UnchangedTest::rich, x -> x.rank(0, -3), OUTSIDE);
        refused("rank(9999, 0)", UnchangedTest::rich, x -> x.rank(9999, 0), NONE);
        s.of(18, UNCHANGED);
        refused("stands(11, 0)", UnchangedTest::rich, x -> x.stands(11, 0), UNKNOWN);
        refused("stands(0, 7)", UnchangedTest::rich, x -> x.stands(0, 7), OUTSIDE);
        s.of(19, UNCHANGED);
        refused("begins(4, 0)", UnchangedTest::rich, x -> x.begins(4, 0), UNKNOWN);
        refused("begins(0, 11)", UnchangedTest::rich, x -> x.begins(0, 11), UNKNOWN);
        s.of(20, UNCHANGED);
        refused("sure(11)", UnchangedTest::rich, x -> x.sure(11), UNKNOWN);
        s.of(21, UNCHANGED);
        refused("judge(0, 30000)", UnchangedTest::rich, x -> x.judge(0, 30000), OUTSIDE);
        refused("judge(1, 100000)", UnchangedTest::rich, x -> x.judge(1, 100000), OUTSIDE);
        refused("judge(4, 300003000030000)", UnchangedTest::rich, x -> x.judge(4, 300003000030000L), OUTSIDE);
    }

    private static void refusedRest() {
        s.of(22, UNCHANGED);
        refused("see(0, 0, 0), the seventh", UnchangedTest::rich, x -> x.see(0, 0, 0), FULL);
        refused("see(2, 0, 1)", UnchangedTest::fresh, x -> x.see(2, 0, 1), UNKNOWN);
        refused("see(0, 7, 1)", UnchangedTest::fresh, x -> x.see(0, 7, 1), UNKNOWN);
        refused("see(0, 0, 2)", UnchangedTest::fresh, x -> x.see(0, 0, 2), OUTSIDE);
        s.of(24, UNCHANGED);
        refused("which(2)", UnchangedTest::rich, x -> x.which(2), OUTSIDE);
        s.of(25, UNCHANGED);
        refused("share(4, true)", UnchangedTest::rich, x -> x.share(4, true), UNKNOWN);
        s.of(26, UNCHANGED);
        refused("lost(11, true)", UnchangedTest::rich, x -> x.lost(11, true), OUTSIDE);
        s.of(28, UNCHANGED);
        refused("drawn(0)", UnchangedTest::rich, x -> x.drawn(0), OUTSIDE);
        refused("drawn(21)", UnchangedTest::rich, x -> x.drawn(21), OUTSIDE);
        s.of(29, UNCHANGED);
        refused("keep(2)", UnchangedTest::rich, x -> x.keep(2), UNKNOWN);
        refused("keep(-1)", UnchangedTest::rich, x -> x.keep(-1), UNKNOWN);
        s.of(30, UNCHANGED);
        refused("again(1), empty", UnchangedTest::rich, x -> x.again(1), STATE);
        refused("again(2)", UnchangedTest::rich, x -> x.again(2), UNKNOWN);
        refused("again(-1)", UnchangedTest::rich, x -> x.again(-1), UNKNOWN);
        s.of(31, UNCHANGED);
        refused("count(7)", UnchangedTest::rich, x -> x.count(7), OUTSIDE);
    }

    // ---- queries

    private static void queriesOfState() {
        s.of(4, QUERIES);
        query("fault()", x -> x.fault());
        // The text that fault looks at has other widths, words and rules than those that were read.
        alike("fault() of a text without fault", UnchangedTest::full, x -> x.fault(), 0, 1, 2, 4);
        s.of(6, QUERIES);
        query("word(2, 4)", x -> x.word(2, 4));
        s.of(7, QUERIES);
        query("line(1)", x -> x.line(1));
        s.of(8, QUERIES);
        query("rule(0, 1)", x -> x.rule(0, 1));
        s.of(31, QUERIES);
        query("count(3)", x -> x.count(3));
    }

    private static void queriesOfReadings() {
        s.of(15, QUERIES);
        query("lies(0, 4)", x -> x.lies(0, 4));
        s.of(16, QUERIES);
        query("readings()", x -> x.readings());
        s.of(17, QUERIES);
        query("rank(1, 2)", x -> x.rank(1, 2));
        s.of(18, QUERIES);
        query("stands(3, 6)", x -> x.stands(3, 6));
        s.of(19, QUERIES);
        query("begins(0, 4)", x -> x.begins(0, 4));
        s.of(20, QUERIES);
        query("sure(3)", x -> x.sure(3));
        s.of(21, "beginning with the present state, which does not change.");
        query("judge, wear and carve", x -> x.judge(3, 100002000010100L));
        query("judge, bar", x -> x.judge(3, 300003100033000L));
        query("judge, rules", x -> x.judge(3, 400004110042200L));
        query("judge, what is true or not", x -> x.judge(3, 500006990070360L));
        query("judge, carve, then a false one", x -> x.judge(3, 203602041080000L));
        s.of(24, QUERIES);
        query("which(0)", x -> x.which(0));
        query("which(1)", x -> x.which(1));
        s.of(25, QUERIES);
        query("share(0, true)", x -> x.share(0, true));
        query("share(3, false)", x -> x.share(3, false));
        s.of(26, QUERIES);
        query("lost(3, true)", x -> x.lost(3, true));
        query("lost(0, false)", x -> x.lost(0, false));
    }

    // ---- what other calls leave as it is

    private static void noMoreThanTold() {
        s.of(1, "Creates an object");
        alike("new WornLetters()", UnchangedTest::rich, x -> new WornLetters().setRule(0, 0, 0), 0, 1, 2, 3, 4);
        s.of(3, "Empties the text.");
        alike("wipe() and the same text", UnchangedTest::rich, x -> Due.write(x, "S213111dba102dab214r110l"), 0, 1, 2, 3, 4);
        s.of(22, "Adds an observation");
        alike("see and unsee", UnchangedTest::fresh, x -> {
            x.see(0, 0, 1);
            x.unsee();
        }, 0, 1, 2, 3, 4);
        s.of(23, "Removes all observations.");
        alike("unsee() of none", UnchangedTest::fresh, x -> x.unsee(), 0, 1, 2, 3, 4);
        s.of(27, "Sets the random number.");
        alike("seed(7) and seed(99)", UnchangedTest::rich, x -> {
            x.seed(7);
            x.seed(99);
        }, 0, 1, 2, 3, 4);
        s.of(28, "only the random number changes.");
        alike("drawn(20) and seed(99)", UnchangedTest::rich, x -> {
            x.drawn(20);
            x.seed(99);
        }, 0, 1, 2, 3, 4);
        s.of(29, "Saves the line, which words are excluded, the rules and the weights in a slot");
        alike("keep(1)", UnchangedTest::rich, x -> x.keep(1), 0, 1, 3, 4);
        s.of(30, "Restores all that from a slot, which keeps it.");
        alike("again(0) of what was kept just now", UnchangedTest::fresh, x -> x.again(0), 0, 1, 2, 3, 4);
    }

    private static void actsUndone() {
        s.of(14, "Undoes the latest act.");
        undone("wear(1)", x -> x.wear(1));
        undone("wear(8)", x -> x.wear(8));
        undone("carve(9, 1)", x -> x.carve(9, 1));
        undone("carve(3, 6)", x -> x.carve(3, 6));
        undone("bar(0)", x -> x.bar(0));
        undone("bar(3)", x -> x.bar(3));
        undone("setRule(0, 1, 0)", x -> x.setRule(0, 1, 0));
        undone("weigh(3, 1)", x -> x.weigh(3, 1));
        alike("five acts and five undos", UnchangedTest::rich, x -> {
            x.wear(0);
            x.carve(0, 6);
            x.bar(1);
            x.setRule(2, 2, 0);
            x.weigh(2, 2);
            for (int i = 0; i < 5; i++) {
                x.undo();
            }
        }, 0, 1, 2, 3, 4);
    }

    private static void undone(String name, ToLongFunction<WornLetters> act) {
        s.is(name + " is not refused", act.applyAsLong(rich()) >= 0 ? 1 : 0, 1);
        alike(name + " and undo()", UnchangedTest::rich, x -> {
            act.applyAsLong(x);
            x.undo();
        }, 0, 1, 2, 3, 4);
    }
}
