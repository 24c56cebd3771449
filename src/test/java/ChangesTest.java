/** The sentences of the promises 1 to 10 at their edges, each by a test of its own. */
public final class ChangesTest extends Check {
    public static void main(String[] args) {
        newObject();
        set();
        note();
        drop();
        shift();
        accent();
        insert();
        cut();
        copy();
        read();
        end("ChangesTest");
    }

    // ---- promise 1

    private static void newObject() {
        test("1: creates an empty roll", ChangesTest::emptyRoll);
        test("1: an object shares nothing with another one", ChangesTest::ownRoll);
    }

    private static void emptyRoll() {
        MusicHoles x = new MusicHoles();
        for (int step = 0; step < 100; step++) {
            due(0, x.at(step, 0) | x.at(step, 1) | x.at(step, 2) | x.at(step, 3) | x.at(step, 4));
        }
        MusicHoles y = new MusicHoles();
        for (int track = 0; track < 12; track++) {
            due(NO_SUCH, y.sound(track, 0, 0));
            due(0, y.swallowed(track));
        }
        due(0, y.count(0));
        due(0, y.wipe());
        due(0, y.fault());
        due(NOT_POSSIBLE, y.undo());
        due(NOT_POSSIBLE, y.restore(0));
        due(NOT_POSSIBLE, y.restore(1));
    }

    private static void ownRoll() {
        MusicHoles x = rich();
        MusicHoles y = new MusicHoles();
        due(0, y.count(0));
        due(1, y.count(8));
        due(0, y.count(11));
        due(0, y.count(12));
        y.note(5, 5, 5);
        y.set(MusicHoles.WEAK, 12);
        y.save(0);
        due(seen(rich()), seen(x));
    }

    // ---- promise 2

    private static void set() {
        test("2: returns the previous value", ChangesTest::previousValue);
        test("2: BAD_VALUE if there is no such setting", ChangesTest::noSuchSetting);
        test("2: BAD_VALUE if the value is out of its range", ChangesTest::valueOutOfRange);
        test("2: each setting is changed alone", ChangesTest::settingAlone);
    }

    private static void previousValue() {
        MusicHoles x = new MusicHoles();
        due(3, x.set(MusicHoles.RUN, 9));
        due(9, x.set(MusicHoles.RUN, 1));
        due(1, x.set(MusicHoles.RUN, 1));
        due(1, x.set(MusicHoles.HEAR, 0));
        due(0, x.set(MusicHoles.HEAR, 4));
    }

    private static void noSuchSetting() {
        for (int setting : new int[] {LOW, -1, 4, 5, HIGH}) {
            for (int value = 0; value <= 12; value++) {
                due(BAD_VALUE, new MusicHoles().set(setting, value));
            }
        }
    }

    private static void valueOutOfRange() {
        int[][] out = {{LOW, 0, 10, HIGH}, {LOW, 0, 5, HIGH}, {LOW, -1, 5, HIGH}, {LOW, 1, 13, HIGH}};
        int[][] in = {{1, 9}, {1, 4}, {0, 4}, {2, 12}};
        for (int setting = 0; setting < 4; setting++) {
            MusicHoles x = new MusicHoles();
            int atFirst = x.count(7 + setting);
            for (int value : out[setting]) {
                due(BAD_VALUE, x.set(setting, value));
            }
            due(atFirst, x.set(setting, in[setting][0]));
            due(in[setting][0], x.set(setting, in[setting][1]));
        }
    }

    private static void settingAlone() {
        int[] values = {3, 1, 1, 4};
        for (int setting = 0; setting < 4; setting++) {
            MusicHoles x = new MusicHoles();
            x.set(setting, 2);
            for (int other = 0; other < 4; other++) {
                due(other == setting ? 2 : values[other], x.count(7 + other));
            }
        }
    }

    // ---- promise 3

    private static void note() {
        test("3: adds a note, without shift and accent", ChangesTest::plainNote);
        test("3: returns its number", ChangesTest::numberOfNote);
        test("3: NO_SUCH if there is no such track", ChangesTest::noteTrack);
        test("3: BAD_VALUE if a step is out of range", ChangesTest::noteSteps);
        test("3: BAD_VALUE if last is less than first", ChangesTest::noteTurned);
        test("3: TOO_MANY if there are 40 notes", ChangesTest::noteTooMany);
        test("3: NOT_POSSIBLE if it had a step in common", ChangesTest::noteMeets);
    }

    private static void plainNote() {
        MusicHoles x = new MusicHoles();
        x.note(5, 20, 30);
        x.shift(0, 12);
        x.accent(0, true);
        due(0, x.note(5, 0, 19));
        due(2, x.note(5, 31, 99));
        dueNote(x, 0, 5, 0, 19, 0, 0);
        dueNote(x, 1, 5, 20, 30, 12, 1);
        dueNote(x, 2, 5, 31, 99, 0, 0);
        // a place that a note with a shift and an accent had
        x.drop(1);
        due(1, x.note(5, 20, 30));
        dueNote(x, 1, 5, 20, 30, 0, 0);
        x.accent(2, true);
        x.drop(2);
        due(2, x.note(5, 31, 99));
        dueNote(x, 2, 5, 31, 99, 0, 0);
    }

    private static void numberOfNote() {
        MusicHoles x = new MusicHoles();
        for (int i = 0; i < 39; i++) {
            due(0, x.note(0, 98 - i, 98 - i));
        }
        due(39, x.note(0, 99, 99));
        x.drop(39);
        due(20, x.note(1, 79, 79));
        dueNote(x, 20, 1, 79, 79, 0, 0);
        dueNote(x, 39, 0, 98, 98, 0, 0);
        // the fortieth one ahead of all others
        MusicHoles y = full();
        y.shift(39, 12);
        y.accent(39, true);
        y.drop(0);
        due(0, y.note(0, 0, 0));
        dueNote(y, 38, 2, 18, 18, 0, 0);
        dueNote(y, 39, 3, 18, 18, 12, 1);
    }

    private static void noteTrack() {
        MusicHoles x = new MusicHoles();
        for (int track : new int[] {LOW, -1, 12, HIGH}) {
            due(NO_SUCH, x.note(track, 0, 0));
        }
        due(0, x.note(0, 0, 0));
        due(1, x.note(11, 0, 0));
    }

    private static void noteSteps() {
        MusicHoles x = new MusicHoles();
        for (int step : new int[] {LOW, -1, 100, HIGH}) {
            due(BAD_VALUE, x.note(0, step, 50));
            due(BAD_VALUE, x.note(0, 50, step));
            due(BAD_VALUE, x.note(0, step, step));
        }
        due(BAD_VALUE, x.note(0, LOW, HIGH));
        due(0, x.note(0, 0, 99));
    }

    private static void noteTurned() {
        MusicHoles x = new MusicHoles();
        due(BAD_VALUE, x.note(0, 99, 98));
        due(BAD_VALUE, x.note(0, 1, 0));
        due(BAD_VALUE, x.note(0, 99, 0));
        due(0, x.note(0, 99, 99));
        due(0, x.note(0, 0, 0));
    }

    private static void noteTooMany() {
        MusicHoles x = full();
        due(TOO_MANY, x.note(5, 0, 0));
        due(TOO_MANY, x.note(11, 99, 99));
        due(39, x.drop(0));
        due(39, x.note(11, 99, 99));
        due(TOO_MANY, x.note(5, 0, 0));
        due(40, x.count(0));
    }

    private static void noteMeets() {
        MusicHoles x = single(6, 40, 42);
        for (int first = 38; first <= 44; first++) {
            for (int last = first; last <= 44; last++) {
                boolean meets = first <= 42 && last >= 40;
                due(meets ? NOT_POSSIBLE : last < 40 ? 0 : 1, x.note(6, first, last));
                if (!meets) {
                    x.undo();
                }
            }
        }
        // a bridge is a step of the note, too; the hole of an accent is none
        MusicHoles y = single(6, 40, 50);
        due(NOT_POSSIBLE, y.note(6, 43, 43));
        y.accent(0, true);
        due(1, y.note(7, 40, 40));
    }

    // ---- promise 4

    private static void drop() {
        test("4: returns how many notes there are then", ChangesTest::dropAll);
        test("4: NO_SUCH if there is no such note", ChangesTest::dropNone);
        test("4: the first, the last and one between", ChangesTest::dropEach);
    }

    private static void dropAll() {
        MusicHoles x = full();
        for (int left = 39; left >= 0; left--) {
            due(left, x.drop(left % 2 == 0 ? left : 0));
        }
        due(NO_SUCH, x.drop(0));
        due(0, x.count(1));
        due(NONE, x.count(6));
    }

    private static void dropNone() {
        due(NO_SUCH, new MusicHoles().drop(0));
        MusicHoles x = block(3, 4, 5);
        for (int note : new int[] {LOW, -1, 3, 40, HIGH}) {
            due(NO_SUCH, x.drop(note));
        }
        MusicHoles y = full();
        due(NO_SUCH, y.drop(40));
        due(39, y.drop(39));
        due(NO_SUCH, y.drop(39));
    }

    private static void dropEach() {
        for (int dropped = 0; dropped < 3; dropped++) {
            MusicHoles x = block(3, 4, 5);
            for (int note = 0; note < 3; note++) {
                x.shift(note, note + 10);
            }
            x.accent(2, true);
            due(2, x.drop(dropped));
            int first = dropped == 0 ? 1 : 0;
            int second = dropped == 2 ? 1 : 2;
            dueNote(x, 0, first, 4, 5, first + 10, 0);
            dueNote(x, 1, second, 4, 5, second + 10, second == 2 ? 1 : 0);
        }
        // of 40 notes: all others are numbered one lower
        for (int dropped : new int[] {0, 19, 37}) {
            MusicHoles x = full();
            x.shift(39, 12);
            x.accent(39, true);
            due(39, x.drop(dropped));
            dueNote(x, 38, 3, 18, 18, 12, 1);
            dueNote(x, 37, 2, 18, 18, 0, 0);
        }
    }

    // ---- promise 5

    private static void shift() {
        test("5: shift: 0 to 12", ChangesTest::shiftRange);
        test("5: NO_SUCH if there is no such note", ChangesTest::shiftNone);
        test("5: one note alone is given it", ChangesTest::shiftAlone);
    }

    private static void shiftRange() {
        MusicHoles x = single(0, 0, 20);
        for (int shift : new int[] {LOW, -1, 13, HIGH}) {
            due(BAD_VALUE, x.shift(0, shift));
        }
        due(0, x.shift(0, 12));
        due(12, x.shift(0, 0));
        due(0, x.shift(0, 0));
    }

    private static void shiftNone() {
        due(NO_SUCH, new MusicHoles().shift(0, 0));
        MusicHoles x = full();
        for (int note : new int[] {LOW, -1, 40, HIGH}) {
            due(NO_SUCH, x.shift(note, 0));
        }
        due(0, x.shift(39, 12));
        due(12, x.of(39, 3));
        x.drop(39);
        due(NO_SUCH, x.shift(39, 0));
    }

    private static void shiftAlone() {
        MusicHoles x = block(3, 4, 15);
        x.shift(1, 7);
        due(0, x.of(0, 3));
        due(7, x.of(1, 3));
        due(0, x.of(2, 3));
        due(1, x.of(1, 0));
    }

    // ---- promise 6

    private static void accent() {
        test("6: returns 1 if it had one, otherwise 0", ChangesTest::accentBefore);
        test("6: NO_SUCH if there is no such note", ChangesTest::accentNone);
        test("6: one note alone is given it", ChangesTest::accentAlone);
    }

    private static void accentBefore() {
        MusicHoles x = single(0, 0, 0);
        due(0, x.accent(0, false));
        due(0, x.accent(0, true));
        due(1, x.accent(0, true));
        due(1, x.of(0, 4));
        due(1, x.accent(0, false));
        due(0, x.accent(0, false));
        due(0, x.of(0, 4));
    }

    private static void accentNone() {
        due(NO_SUCH, new MusicHoles().accent(0, true));
        MusicHoles x = full();
        for (int note : new int[] {LOW, -1, 40, HIGH}) {
            due(NO_SUCH, x.accent(note, true));
            due(NO_SUCH, x.accent(note, false));
        }
        due(0, x.accent(39, true));
        due(1, x.of(39, 4));
    }

    private static void accentAlone() {
        MusicHoles x = block(3, 4, 15);
        x.accent(1, true);
        due(0, x.of(0, 4));
        due(1, x.of(1, 4));
        due(0, x.of(2, 4));
    }

    // ---- promise 7

    private static void insert() {
        test("7: notes that begin at it or behind it are so many steps later", ChangesTest::insertLater);
        test("7: those that begin ahead and end at it or behind it are longer", ChangesTest::insertLonger);
        test("7: step: 0 to 99", ChangesTest::insertStep);
        test("7: many: 1 to 50", ChangesTest::insertMany);
        test("7: returns how many notes are longer then", ChangesTest::insertReturns);
        test("7: NOT_POSSIBLE if a note would end behind the step 99", ChangesTest::insertTooFar);
        test("7: into a roll without notes", ChangesTest::insertNothing);
        test("7: notes that are gone are not longer", ChangesTest::insertGone);
        test("7: with everything full", ChangesTest::insertFull);
        test("7: shifts and accents stay", ChangesTest::insertKeeps);
    }

    private static void insertLater() {
        MusicHoles x = single(0, 10, 12);
        due(0, x.insert(10, 3));
        dueSteps(x, 0, 13, 15);
        due(0, x.insert(9, 1));
        dueSteps(x, 0, 14, 16);
        due(0, x.insert(0, 50));
        dueSteps(x, 0, 64, 66);
        due(0, x.insert(67, 50));
        dueSteps(x, 0, 64, 66);
    }

    private static void insertLonger() {
        MusicHoles x = single(0, 10, 12);
        due(1, x.insert(11, 3));
        dueSteps(x, 0, 10, 15);
        due(1, x.insert(15, 1));
        dueSteps(x, 0, 10, 16);
        due(0, x.insert(17, 1));
        dueSteps(x, 0, 10, 16);
        // a note of one step moves, or stays
        MusicHoles y = single(0, 10, 10);
        due(0, y.insert(10, 1));
        dueSteps(y, 0, 11, 11);
        due(0, y.insert(12, 1));
        dueSteps(y, 0, 11, 11);
    }

    private static void insertStep() {
        MusicHoles x = single(0, 0, 98);
        for (int step : new int[] {LOW, -1, 100, HIGH}) {
            due(BAD_VALUE, x.insert(step, 1));
        }
        due(0, x.insert(99, 1));
        dueSteps(x, 0, 0, 98);
        due(0, x.insert(0, 1));
        dueSteps(x, 0, 1, 99);
    }

    private static void insertMany() {
        MusicHoles x = single(0, 0, 0);
        for (int many : new int[] {LOW, -1, 0, 51, HIGH}) {
            due(BAD_VALUE, x.insert(0, many));
        }
        due(0, x.insert(0, 1));
        dueSteps(x, 0, 1, 1);
        due(0, x.insert(0, 50));
        dueSteps(x, 0, 51, 51);
    }

    private static void insertReturns() {
        MusicHoles x = block(12, 0, 10);
        due(12, x.insert(1, 1));
        due(12, x.insert(11, 1));
        due(0, x.insert(13, 1));
        due(0, x.insert(0, 1));
        dueSteps(x, 11, 1, 13);
        x.note(0, 14, 14);
        x.note(1, 20, 30);
        due(12, x.insert(13, 1));
        due(1, x.insert(31, 1));
    }

    private static void insertTooFar() {
        MusicHoles later = single(0, 40, 49);
        due(0, later.insert(40, 50));
        dueSteps(later, 0, 90, 99);
        due(NOT_POSSIBLE, later.insert(90, 1));
        due(NOT_POSSIBLE, later.insert(0, 1));
        MusicHoles longer = single(0, 40, 50);
        due(NOT_POSSIBLE, longer.insert(50, 50));
        due(1, longer.insert(50, 49));
        dueSteps(longer, 0, 40, 99);
        due(NOT_POSSIBLE, longer.insert(99, 1));
        // the last one in the order may end ahead of another one
        MusicHoles z = single(0, 0, 99);
        z.note(1, 5, 6);
        due(NOT_POSSIBLE, z.insert(5, 1));
        due(NOT_POSSIBLE, z.insert(99, 50));
        // what ends ahead of the step does not matter
        MusicHoles w = single(0, 0, 98);
        due(0, w.insert(99, 50));
    }

    private static void insertNothing() {
        MusicHoles x = new MusicHoles();
        due(0, x.insert(0, 1));
        due(0, x.insert(99, 50));
        due(0, x.count(0));
        due(2, x.count(12));
    }

    private static void insertGone() {
        MusicHoles x = block(3, 10, 20);
        x.drop(2);
        due(2, x.insert(15, 1));
        x.cut(0, 100);
        due(0, x.insert(15, 1));
        MusicHoles y = block(3, 10, 20);
        y.undo();
        due(2, y.insert(15, 50));
        y.save(0);
        y.note(5, 10, 20);
        y.restore(0);
        due(2, y.insert(15, 1));
        due(71, y.of(1, 2));
    }

    private static void insertFull() {
        MusicHoles x = full();
        due(0, x.insert(0, 50));
        due(0, x.insert(0, 31));
        dueSteps(x, 0, 81, 81);
        dueSteps(x, 39, 99, 99);
        due(NOT_POSSIBLE, x.insert(0, 1));
        due(NOT_POSSIBLE, x.insert(99, 1));
        due(40, x.count(0));
    }

    private static void insertKeeps() {
        MusicHoles x = single(0, 0, 20);
        x.note(1, 10, 20);
        for (int note = 0; note < 2; note++) {
            x.shift(note, 12 - note);
            x.accent(note, true);
        }
        due(1, x.insert(10, 5));
        dueNote(x, 0, 0, 0, 25, 12, 1);
        dueNote(x, 1, 1, 15, 25, 11, 1);
    }

    // ---- promise 8

    private static void cut() {
        test("8: notes wholly among them go", ChangesTest::cutWhole);
        test("8: others lose the steps that are among them", ChangesTest::cutParts);
        test("8: (their shifts stay)", ChangesTest::cutKeeps);
        test("8: what lies behind is so many steps earlier", ChangesTest::cutBehind);
        test("8: (they stay two notes side by side)", ChangesTest::cutSideBySide);
        test("8: the numbers follow the order that the cut leaves", ChangesTest::cutNumbers);
        test("8: step: 0 to 99", ChangesTest::cutStep);
        test("8: many: 1 to 100, and no more than there are from this step on", ChangesTest::cutMany);
        test("8: returns how many notes are gone", ChangesTest::cutReturns);
    }

    private static void cutWhole() {
        MusicHoles x = single(0, 10, 19);
        due(1, x.cut(10, 10));
        due(0, x.count(0));
        x.undo();
        due(0, x.cut(10, 9));
        dueSteps(x, 0, 10, 10);
        x.undo();
        due(0, x.cut(11, 9));
        dueSteps(x, 0, 10, 10);
        x.undo();
        due(1, x.cut(0, 100));
        x.undo();
        due(1, x.cut(9, 12));
        MusicHoles y = single(0, 99, 99);
        y.note(1, 0, 0);
        due(1, y.cut(99, 1));
        due(1, y.cut(0, 1));
        due(0, y.count(0));
    }

    private static void cutParts() {
        int[][] cuts = {{20, 5, 10, 19}, {19, 1, 10, 18}, {19, 5, 10, 18}, {15, 5, 10, 14}, {12, 5, 10, 14},
            {10, 1, 10, 18}, {10, 9, 10, 10}, {9, 1, 9, 18}, {9, 2, 9, 17}, {5, 6, 5, 13}, {5, 5, 5, 14}, {0, 19, 0, 0}};
        for (int[] cut : cuts) {
            MusicHoles x = single(0, 10, 19);
            due(0, x.cut(cut[0], cut[1]));
            dueSteps(x, 0, cut[2], cut[3]);
        }
    }

    private static void cutKeeps() {
        int[][] cuts = {{5, 10}, {15, 10}, {13, 2}, {0, 5}, {50, 50}};
        for (int[] cut : cuts) {
            MusicHoles x = single(0, 10, 19);
            x.shift(0, 12);
            x.accent(0, true);
            due(0, x.cut(cut[0], cut[1]));
            due(12, x.of(0, 3));
            due(1, x.of(0, 4));
        }
    }

    private static void cutBehind() {
        MusicHoles x = single(0, 10, 19);
        due(0, x.cut(9, 1));
        dueSteps(x, 0, 9, 18);
        due(0, x.cut(0, 9));
        dueSteps(x, 0, 0, 9);
        due(0, x.cut(10, 90));
        dueSteps(x, 0, 0, 9);
        MusicHoles y = single(0, 99, 99);
        due(0, y.cut(0, 99));
        dueSteps(y, 0, 0, 0);
    }

    private static void cutSideBySide() {
        MusicHoles x = single(0, 0, 9);
        x.note(0, 20, 29);
        x.note(0, 15, 15);
        due(1, x.cut(10, 10));
        due(2, x.count(0));
        dueSteps(x, 0, 0, 9);
        dueSteps(x, 1, 10, 19);
        // two notes that lose what was between them, and a part of each
        MusicHoles y = single(0, 0, 9);
        y.note(0, 10, 29);
        due(0, y.cut(5, 10));
        due(2, y.count(0));
        dueSteps(y, 0, 0, 4);
        dueSteps(y, 1, 5, 19);
    }

    private static void cutNumbers() {
        MusicHoles x = single(2, 10, 30);
        x.note(1, 15, 30);
        x.note(0, 20, 30);
        for (int note = 0; note < 3; note++) {
            due(2 - note, x.of(note, 0));
        }
        due(0, x.cut(5, 15));
        for (int note = 0; note < 3; note++) {
            due(note, x.of(note, 0));
            dueSteps(x, note, 5, 15);
        }
        // one step less: the last one begins a step later
        x.undo();
        due(0, x.cut(5, 14));
        due(1, x.of(0, 0));
        due(2, x.of(1, 0));
        due(0, x.of(2, 0));
        dueSteps(x, 2, 6, 16);
    }

    private static void cutStep() {
        MusicHoles x = single(0, 98, 99);
        for (int step : new int[] {LOW, -1, 100, HIGH}) {
            due(BAD_VALUE, x.cut(step, 1));
        }
        due(0, x.cut(99, 1));
        dueSteps(x, 0, 98, 98);
        due(0, x.cut(0, 1));
        dueSteps(x, 0, 97, 97);
    }

    private static void cutMany() {
        MusicHoles x = new MusicHoles();
        for (int many : new int[] {LOW, -1, 0, 101, HIGH}) {
            due(BAD_VALUE, x.cut(0, many));
        }
        for (int step = 0; step < 100; step++) {
            due(BAD_VALUE, x.cut(step, 101 - step));
            due(0, x.cut(step, 100 - step));
            due(0, x.cut(step, 1));
        }
    }

    private static void cutReturns() {
        due(0, new MusicHoles().cut(0, 100));
        MusicHoles x = full();
        due(4, x.cut(18, 1));
        due(36, x.count(0));
        due(0, x.cut(17, 83));
        due(8, x.cut(0, 3));
        due(28, x.count(0));
        due(28, x.cut(0, 100));
        due(0, x.count(0));
    }

    // ---- promise 9

    private static void copy() {
        test("9: all notes that lie wholly between two steps (both with it)", ChangesTest::copyWholly);
        test("9: with shifts and accents", ChangesTest::copyKeeps);
        test("9: the first step comes to another place", ChangesTest::copyPlace);
        test("9: from: 0 to 99", ChangesTest::copyFrom);
        test("9: to: from to 99", ChangesTest::copyTo);
        test("9: goal: 0 to 99", ChangesTest::copyGoal);
        test("9: returns how many notes are copied", ChangesTest::copyReturns);
        test("9: TOO_MANY if there would be more than 40 notes", ChangesTest::copyTooMany);
        test("9: NOT_POSSIBLE if one would end behind the step 99", ChangesTest::copyTooFar);
        test("9: NOT_POSSIBLE if it had a step in common with one of its track", ChangesTest::copyMeets);
        test("9: (the passage itself stays)", ChangesTest::copyStays);
    }

    private static void copyWholly() {
        int[][] passages = {{10, 19, 1}, {9, 20, 1}, {0, 19, 1}, {10, 49, 1}, {11, 19, 0}, {10, 18, 0}, {11, 18, 0},
            {0, 9, 0}, {20, 49, 0}, {10, 10, 0}, {19, 19, 0}};
        for (int[] passage : passages) {
            MusicHoles x = single(0, 10, 19);
            due(passage[2], x.copy(passage[0], passage[1], 50));
            due(1 + passage[2], x.count(0));
        }
        MusicHoles y = single(0, 0, 0);
        y.note(0, 99, 99);
        due(1, y.copy(0, 0, 1));
        due(1, y.copy(99, 99, 98));
        due(4, y.count(0));
    }

    private static void copyKeeps() {
        MusicHoles x = single(0, 10, 19);
        x.note(1, 10, 10);
        x.shift(0, 12);
        x.accent(1, true);
        due(2, x.copy(10, 19, 90));
        dueNote(x, 2, 0, 90, 99, 12, 0);
        dueNote(x, 3, 1, 90, 90, 0, 1);
        dueNote(x, 0, 0, 10, 19, 12, 0);
    }

    private static void copyPlace() {
        MusicHoles x = single(0, 10, 12);
        due(1, x.copy(5, 15, 0));
        dueSteps(x, 0, 5, 7);
        due(2, x.copy(5, 12, 92));
        dueSteps(x, 2, 92, 94);
        dueSteps(x, 3, 97, 99);
        // to a place among the passage itself
        MusicHoles y = single(0, 10, 10);
        y.note(0, 14, 14);
        due(2, y.copy(10, 14, 11));
        dueSteps(y, 1, 11, 11);
        dueSteps(y, 3, 15, 15);
    }

    private static void copyFrom() {
        MusicHoles x = new MusicHoles();
        for (int from : new int[] {LOW, -1, 100, HIGH}) {
            due(BAD_VALUE, x.copy(from, 99, 0));
            due(BAD_VALUE, x.copy(from, from, 0));
        }
        due(0, x.copy(0, 99, 0));
        due(0, x.copy(99, 99, 0));
    }

    private static void copyTo() {
        MusicHoles x = new MusicHoles();
        for (int to : new int[] {LOW, -1, 49, 100, HIGH}) {
            due(BAD_VALUE, x.copy(50, to, 0));
        }
        due(0, x.copy(50, 50, 0));
        due(0, x.copy(50, 99, 0));
        due(BAD_VALUE, x.copy(0, -1, 0));
        due(BAD_VALUE, x.copy(99, 98, 0));
    }

    private static void copyGoal() {
        MusicHoles x = single(3, 50, 50);
        for (int goal : new int[] {LOW, -1, 100, HIGH}) {
            due(BAD_VALUE, x.copy(50, 50, goal));
            due(BAD_VALUE, x.copy(0, 1, goal));
        }
        due(1, x.copy(50, 50, 0));
        due(1, x.copy(50, 50, 99));
        dueSteps(x, 0, 0, 0);
        dueSteps(x, 2, 99, 99);
    }

    private static void copyReturns() {
        MusicHoles x = block(12, 0, 3);
        due(12, x.copy(0, 3, 4));
        due(0, x.copy(1, 3, 8));
        due(0, x.copy(8, 99, 0));
        due(12, x.copy(4, 7, 8));
        due(36, x.count(0));
        due(0, x.copy(0, 2, 99));
        due(0, full().copy(19, 99, 0));
    }

    private static void copyTooMany() {
        MusicHoles x = full();
        due(TOO_MANY, x.copy(0, 0, 50));
        x.drop(39);
        due(TOO_MANY, x.copy(0, 0, 50));
        x.drop(38);
        x.drop(37);
        due(TOO_MANY, x.copy(0, 0, 50));
        x.drop(36);
        due(TOO_MANY, x.copy(0, 2, 50));
        due(4, x.copy(0, 0, 50));
        due(40, x.count(0));
        due(TOO_MANY, x.copy(0, 0, 60));
        MusicHoles y = block(1, 0, 0);
        for (int step = 1; step < 20; step++) {
            y.note(0, step, step);
        }
        due(20, y.copy(0, 19, 20));
        due(40, y.count(0));
        due(TOO_MANY, y.copy(0, 0, 90));
    }

    private static void copyTooFar() {
        MusicHoles x = single(0, 10, 19);
        due(NOT_POSSIBLE, x.copy(10, 19, 91));
        due(NOT_POSSIBLE, x.copy(10, 19, 99));
        due(1, x.copy(10, 19, 90));
        dueSteps(x, 1, 90, 99);
        // the passage may go behind 99, its notes may not
        MusicHoles y = single(0, 10, 19);
        due(1, y.copy(10, 99, 90));
        MusicHoles z = single(0, 10, 19);
        due(NOT_POSSIBLE, z.copy(9, 19, 90));
        due(1, z.copy(9, 19, 89));
        // one of several is enough
        MusicHoles w = single(0, 10, 19);
        w.note(1, 20, 20);
        due(NOT_POSSIBLE, w.copy(10, 20, 90));
        due(2, w.copy(10, 20, 89));
    }

    private static void copyMeets() {
        MusicHoles x = single(0, 10, 14);
        x.note(0, 30, 39);
        x.note(1, 50, 59);
        for (int goal = 26; goal <= 39; goal++) {
            due(NOT_POSSIBLE, x.copy(10, 14, goal));
        }
        due(1, x.copy(10, 14, 25));
        due(1, x.copy(10, 14, 40));
        // a note of another track is in nobody's way
        due(1, x.copy(10, 14, 52));
        // one of several is enough
        MusicHoles y = block(3, 0, 0);
        y.note(2, 5, 5);
        due(NOT_POSSIBLE, y.copy(0, 0, 5));
        due(3, y.copy(0, 0, 4));
    }

    private static void copyStays() {
        MusicHoles x = single(0, 10, 14);
        for (int goal = 6; goal <= 14; goal++) {
            due(NOT_POSSIBLE, x.copy(10, 14, goal));
        }
        due(1, x.count(0));
        due(1, x.copy(10, 14, 15));
        due(1, x.copy(10, 14, 5));
        due(3, x.count(0));
        dueSteps(x, 0, 5, 9);
        dueSteps(x, 1, 10, 14);
        dueSteps(x, 2, 15, 19);
    }

    // ---- promise 10

    private static void read() {
        test("10: adds the notes of the pad", ChangesTest::readAdds);
        test("10: and empties the pad", ChangesTest::readEmpties);
        test("10: returns how many notes there are then", ChangesTest::readReturns);
        test("10: BAD_TEXT if the pad has a fault", ChangesTest::readFault);
        test("10: BAD_VALUE if a last step is less than the first one", ChangesTest::readTurned);
        test("10: TOO_MANY if there would be more than 40", ChangesTest::readTooMany);
        test("10: NOT_POSSIBLE if a note had a step in common", ChangesTest::readMeets);
        test("10: also of the pad", ChangesTest::readMeetsPad);
    }

    private static void readAdds() {
        MusicHoles x = withPad("11:99-99!;0:0-99;1:0-0;1:1-1!");
        due(4, x.read());
        dueNote(x, 0, 0, 0, 99, 0, 0);
        dueNote(x, 1, 1, 0, 0, 0, 0);
        dueNote(x, 2, 1, 1, 1, 0, 1);
        dueNote(x, 3, 11, 99, 99, 0, 1);
    }

    private static void readEmpties() {
        MusicHoles x = withPad("0:0-0");
        due(1, x.read());
        due(0, x.count(11));
        due(0, x.fault());
        due(BAD_TEXT, x.read());
        due(5, type(x, "0:1-1"));
        due(2, x.read());
        // the whole pad of 60 characters, and then again
        due(60, type(x, TEN_NOTES.replace(":0-0", ":5-5") + "!"));
        due(12, x.read());
        due(59, type(x, TEN_NOTES.replace(":0-0", ":7-7")));
        due(22, x.read());
    }

    private static void readReturns() {
        MusicHoles x = new MusicHoles();
        for (int i = 1; i <= 4; i++) {
            type(x, TEN_NOTES.replace(":0-0", ":" + i + "-" + i));
            due(10 * i, x.read());
            due(10 * i, x.count(0));
        }
    }

    private static void readFault() {
        due(BAD_TEXT, new MusicHoles().read());
        due(BAD_TEXT, withPad("0:0-").read());
        due(BAD_TEXT, withPad("0:0-0;").read());
        due(BAD_TEXT, withPad("0:0-0!!").read());
        due(BAD_TEXT, withPad("12:0-0").read());
        due(BAD_TEXT, withPad("0:0-100").read());
        due(BAD_TEXT, withPad("0:00-0").read());
        due(BAD_TEXT, withPad(TEN_NOTES + ";").read());
    }

    private static void readTurned() {
        due(BAD_VALUE, withPad("0:1-0").read());
        due(BAD_VALUE, withPad("0:99-98").read());
        due(BAD_VALUE, withPad("0:5-5;1:6-6;2:7-6").read());
        due(BAD_VALUE, withPad("0:7-6;1:5-5").read());
        due(1, withPad("0:99-99").read());
        due(1, withPad("0:0-99").read());
    }

    private static void readTooMany() {
        MusicHoles x = full();
        x.drop(39);
        type(x, "8:0-0;9:0-0");
        due(TOO_MANY, x.read());
        x.drop(38);
        due(40, x.read());
        type(x, "7:0-0");
        due(TOO_MANY, x.read());
        due(40, x.count(0));
        x.drop(0);
        due(40, x.read());
    }

    private static void readMeets() {
        String[] texts = {"4:5-10", "4:20-25", "4:10-20", "4:0-99", "4:15-15", "5:0-0;4:20-20", "4:20-20;5:0-0"};
        for (String text : texts) {
            MusicHoles x = single(4, 10, 20);
            type(x, text);
            due(NOT_POSSIBLE, x.read());
            due(1, x.count(0));
            due(text.length(), x.count(11));
        }
        MusicHoles y = single(4, 10, 20);
        type(y, "4:9-9;4:21-21;3:10-20;5:10-20");
        due(5, y.read());
    }

    private static void readMeetsPad() {
        due(NOT_POSSIBLE, withPad("4:1-5;4:5-9").read());
        due(NOT_POSSIBLE, withPad("4:5-9;4:1-5").read());
        due(NOT_POSSIBLE, withPad("4:1-1;4:1-1").read());
        due(NOT_POSSIBLE, withPad("4:1-9;3:1-9;4:3-3").read());
        due(2, withPad("4:1-5;4:6-9").read());
        due(2, withPad("4:6-9;4:1-5").read());
        due(2, withPad("4:1-1!;5:1-1").read());
    }
}
