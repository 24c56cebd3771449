import java.util.function.Supplier;
import java.util.function.ToIntFunction;

/** "The first one that applies is returned", and "A call that returns an error changes nothing", call by call. */
public final class RefusalTest extends Check {
    public static void main(String[] args) {
        orderOfErrors();
        changesThatAreRefused();
        fullRollRefuses();
        readRefused();
        questionsThatAreRefused();
        textsAndStatesRefused();
        questionsChangeNothing();
        end("RefusalTest");
    }

    private static void order(String sentence, int want, Supplier<MusicHoles> maker, ToIntFunction<MusicHoles> call) {
        test("the error that is named first: " + sentence, () -> due(want, call.applyAsInt(maker.get())));
    }

    private static void same(String sentence, int want, Supplier<MusicHoles> maker, ToIntFunction<MusicHoles> call) {
        test("changes nothing: " + sentence, () -> dueUnchanged(want, maker, call));
    }

    private static MusicHoles fullWithPad(String text) {
        MusicHoles x = full();
        type(x, text);
        return x;
    }

    /** Rich, but with another text on the pad. */
    private static MusicHoles richWithPad(String text) {
        MusicHoles x = rich();
        x.wipe();
        type(x, text);
        return x;
    }

    private static void orderOfErrors() {
        order("note, track ahead of steps", NO_SUCH, MusicHoles::new, x -> x.note(12, 5, 4));
        order("note, track ahead of 40 notes", NO_SUCH, Check::full, x -> x.note(-1, 50, 50));
        order("note, steps ahead of 40 notes", BAD_VALUE, Check::full, x -> x.note(0, 50, 100));
        order("note, turned steps ahead of 40 notes", BAD_VALUE, Check::full, x -> x.note(0, 50, 49));
        order("note, steps ahead of a step in common", BAD_VALUE, Check::full, x -> x.note(0, 0, 100));
        order("note, 40 notes ahead of a step in common", TOO_MANY, Check::full, x -> x.note(0, 0, 0));
        order("shift, note ahead of shift", NO_SUCH, Check::rich, x -> x.shift(4, 13));
        order("insert, step ahead of the end", BAD_VALUE, Check::rich, x -> x.insert(-1, 50));
        order("insert, many ahead of the end", BAD_VALUE, Check::rich, x -> x.insert(0, 51));
        order("copy, goal ahead of 40 notes", BAD_VALUE, Check::full, x -> x.copy(0, 0, 100));
        order("copy, steps ahead of 40 notes", BAD_VALUE, Check::full, x -> x.copy(0, 100, 50));
        order("copy, goal ahead of a step in common", BAD_VALUE, Check::rich, x -> x.copy(0, 99, 100));
        order("copy, 40 notes ahead of a step in common", TOO_MANY, Check::full, x -> x.copy(0, 0, 0));
        order("copy, 40 notes ahead of the end", TOO_MANY, Check::full, x -> x.copy(0, 18, 99));
        order("read, fault ahead of turned steps", BAD_TEXT, () -> withPad("0:5-4;"), MusicHoles::read);
        order("read, fault ahead of 40 notes", BAD_TEXT, () -> fullWithPad("9:5-5;"), MusicHoles::read);
        order("read, fault ahead of a step in common", BAD_TEXT, () -> withPad("0:5-5;0:5-5!!"), MusicHoles::read);
        order("read, turned steps ahead of 40 notes", BAD_VALUE, () -> fullWithPad("9:5-5;9:7-6"), MusicHoles::read);
        order("read, turned steps ahead of a step in common", BAD_VALUE, () -> withPad("0:5-5;0:5-5;1:7-6"),
                MusicHoles::read);
        order("read, 40 notes ahead of a step in common", TOO_MANY, () -> fullWithPad("0:0-0"), MusicHoles::read);
        order("read, 40 notes ahead of a step in common of the pad", TOO_MANY, () -> fullWithPad("9:5-5;9:5-5"),
                MusicHoles::read);
        order("of, note ahead of what", NO_SUCH, Check::rich, x -> x.of(4, 8));
        order("sound, track ahead of what", NO_SUCH, Check::rich, x -> x.sound(12, 0, 3));
        order("sound, sound ahead of what", NO_SUCH, Check::rich, x -> x.sound(0, 9, -1));
        order("bestShift, note ahead of what", NO_SUCH, Check::rich, x -> x.bestShift(-1, 2));
        order("freeGoal, steps ahead of NONE", BAD_VALUE, MusicHoles::new, x -> x.freeGoal(99, 100));
        order("put, code ahead of the length", BAD_VALUE, () -> withPad("a".repeat(60)), x -> x.put(32));
        order("put, no character ahead of the length", BAD_VALUE, () -> withPad("a".repeat(60)), x -> x.put(0));
        order("restore, slot ahead of nothing saved", BAD_VALUE, MusicHoles::new, x -> x.restore(2));
    }

    private static void changesThatAreRefused() {
        same("set, setting", BAD_VALUE, Check::rich, x -> x.set(4, 3));
        same("set, value below", BAD_VALUE, Check::rich, x -> x.set(MusicHoles.RUN, 0));
        same("set, value above", BAD_VALUE, Check::rich, x -> x.set(MusicHoles.WEAK, 13));
        same("note, track", NO_SUCH, Check::rich, x -> x.note(12, 0, 0));
        same("note, step", BAD_VALUE, Check::rich, x -> x.note(3, 0, 100));
        same("note, turned steps", BAD_VALUE, Check::rich, x -> x.note(3, 1, 0));
        same("note, step in common", NOT_POSSIBLE, Check::rich, x -> x.note(0, 20, 21));
        same("drop", NO_SUCH, Check::rich, x -> x.drop(4));
        same("shift, note", NO_SUCH, Check::rich, x -> x.shift(4, 3));
        same("shift, shift", BAD_VALUE, Check::rich, x -> x.shift(3, 13));
        same("accent", NO_SUCH, Check::rich, x -> x.accent(4, true));
        same("insert, step", BAD_VALUE, Check::rich, x -> x.insert(100, 1));
        same("insert, many", BAD_VALUE, Check::rich, x -> x.insert(25, 0));
        same("insert, longer behind the end", NOT_POSSIBLE, Check::rich, x -> x.insert(99, 1));
        same("insert, later behind the end", NOT_POSSIBLE, Check::rich, x -> x.insert(11, 1));
        same("cut, step", BAD_VALUE, Check::rich, x -> x.cut(-1, 1));
        same("cut, many", BAD_VALUE, Check::rich, x -> x.cut(15, 86));
        same("copy, from", BAD_VALUE, Check::rich, x -> x.copy(-1, 20, 70));
        same("copy, to", BAD_VALUE, Check::rich, x -> x.copy(10, 9, 70));
        same("copy, goal", BAD_VALUE, Check::rich, x -> x.copy(10, 20, -1));
        same("copy, behind the end", NOT_POSSIBLE, Check::rich, x -> x.copy(10, 30, 80));
        // the first one of both notes would have its place
        same("copy, step in common", NOT_POSSIBLE, Check::rich, x -> x.copy(10, 30, 35));
        same("restore, slot", BAD_VALUE, Check::rich, x -> x.restore(-1));
        same("restore, nothing saved", NOT_POSSIBLE, Check::rich, x -> x.restore(1));
    }

    private static void fullRollRefuses() {
        Supplier<MusicHoles> maker = () -> fullWithPad("7:1-2;8:3-4!");
        same("note, 40 notes", TOO_MANY, maker, x -> x.note(9, 9, 9));
        same("copy, 40 notes", TOO_MANY, maker, x -> x.copy(0, 0, 50));
        same("read, 40 notes", TOO_MANY, maker, MusicHoles::read);
    }

    private static void readRefused() {
        String[] faults = {"0:5-6!!", "0:40-41;", "12:0-0"};
        for (String text : faults) {
            same("read, fault", BAD_TEXT, () -> richWithPad(text), MusicHoles::read);
        }
        same("read, turned steps", BAD_VALUE, () -> richWithPad("5:1-2;5:4-3"), MusicHoles::read);
        // the seen pad can be read when the roll is empty
        same("read, step in common", NOT_POSSIBLE, () -> richWithPad("5:1-2;0:9-10;6:0-0"), MusicHoles::read);
        same("read, step in common of the pad", NOT_POSSIBLE, () -> richWithPad("5:1-2;5:2-3"), MusicHoles::read);
    }

    private static void questionsThatAreRefused() {
        same("of, note", NO_SUCH, Check::rich, x -> x.of(4, 0));
        same("of, what", BAD_VALUE, Check::rich, x -> x.of(0, 8));
        same("at, step", BAD_VALUE, Check::rich, x -> x.at(100, 0));
        same("at, what", BAD_VALUE, Check::rich, x -> x.at(0, 5));
        same("sound, track", NO_SUCH, Check::rich, x -> x.sound(12, 0, 0));
        same("sound, sound", NO_SUCH, Check::rich, x -> x.sound(0, 9, 0));
        same("sound, what", BAD_VALUE, Check::rich, x -> x.sound(0, 0, 3));
        same("count", BAD_VALUE, Check::rich, x -> x.count(13));
        same("bestShift, note", NO_SUCH, Check::rich, x -> x.bestShift(4, 0));
        same("bestShift, what", BAD_VALUE, Check::rich, x -> x.bestShift(1, 2));
        same("swallowed", NO_SUCH, Check::rich, x -> x.swallowed(12));
        same("freeGoal, from", BAD_VALUE, Check::rich, x -> x.freeGoal(-1, 9));
        same("freeGoal, to", BAD_VALUE, Check::rich, x -> x.freeGoal(9, 8));
    }

    private static void textsAndStatesRefused() {
        same("put, no character", BAD_VALUE, Check::rich, x -> x.put(0));
        same("put, first code", BAD_VALUE, Check::rich, x -> x.put(packed(" ;1:1-1")));
        same("put, last code", BAD_VALUE, Check::rich, x -> x.put(packed(";1:1-1 ")));
        same("put, bit above", BAD_VALUE, Check::rich, x -> x.put(1L << 60 | ';'));
        same("put, too long", TOO_MANY, () -> richWithPad(TEN_NOTES), x -> x.put(packed("!!")));
        same("put, too long by 8", TOO_MANY, () -> richWithPad(TEN_NOTES + "!"), x -> x.put(packed(";1:11-12")));
        same("undo, none", NOT_POSSIBLE, RefusalTest::withoutHistory, MusicHoles::undo);
        same("save, slot", BAD_VALUE, Check::rich, x -> x.save(2));
        same("save, slot below", BAD_VALUE, Check::rich, x -> x.save(-1));
    }

    /** Two changes more than the history keeps, so that notes stay when all that can be undone is undone. */
    private static MusicHoles withoutHistory() {
        MusicHoles x = single(3, 4, 5);
        x.note(2, 8, 20);
        x.save(1);
        for (int shift = 1; shift <= 6; shift++) {
            x.shift(0, shift);
        }
        for (int i = 0; i < 6; i++) {
            x.undo();
        }
        type(x, "5:0-3;6:1-1!");
        return x;
    }

    private static void questionsChangeNothing() {
        int[] notes = {0, 1, 2, 3};
        for (int note : notes) {
            same("bestShift", 0, Check::rich, x -> Math.min(0, x.bestShift(note, 0) + x.bestShift(note, 1)));
        }
        same("greatestRun", 9, Check::rich, MusicHoles::greatestRun);
        same("greatestRun, none", NONE, () -> {
            MusicHoles x = rich();
            x.note(1, 10, 10);
            x.set(MusicHoles.WEAK, 2);
            return x;
        }, MusicHoles::greatestRun);
        same("swallowed", 0, Check::rich, x -> x.swallowed(11));
        same("freeGoal", 29, Check::rich, x -> x.freeGoal(10, 30));
        same("freeGoal, none", NONE, Check::rich, x -> x.freeGoal(0, 99));
        same("of", 6, Check::rich, x -> {
            int sum = 0;
            for (int what = 0; what <= 7; what++) {
                sum += x.of(3, what) > 0 ? 1 : 0;
            }
            return sum;
        });
        same("at", 5, Check::rich, x -> {
            int sum = 0;
            for (int what = 0; what <= 4; what++) {
                sum += x.at(12, what) >= 0 ? 1 : 0;
            }
            return sum;
        });
        same("sound", 10, Check::rich, x -> x.sound(0, 0, 0));
        same("count", 4, Check::rich, x -> x.count(0));
    }
}
