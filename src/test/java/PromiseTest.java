/** Each promise of the document by hand: ordinary inputs, edges, wrong inputs and the order of the errors. */
public final class PromiseTest extends Check {
    public static void main(String[] args) {
        test("promise 1: newObject", PromiseTest::newObject);
        test("promise 2: set", PromiseTest::set);
        test("promise 3: note", PromiseTest::note);
        test("promise 4: drop", PromiseTest::drop);
        test("promise 5: shift", PromiseTest::shift);
        test("promise 6: accent", PromiseTest::accent);
        test("promise 7: insert", PromiseTest::insert);
        test("promise 8: cut", PromiseTest::cut);
        test("promise 8: cutOrder", PromiseTest::cutOrder);
        test("promise 9: copy", PromiseTest::copy);
        test("promise 10: read", PromiseTest::read);
        test("promise 11: of", PromiseTest::of);
        test("promise 12: at", PromiseTest::at);
        test("promise 13: sound", PromiseTest::sound);
        test("promise 14: count", PromiseTest::count);
        test("promise 15: bestShift", PromiseTest::bestShift);
        test("promise 16: greatestRun", PromiseTest::greatestRun);
        test("promise 17: swallowed", PromiseTest::swallowed);
        test("promise 18: freeGoal", PromiseTest::freeGoal);
        test("promise 19: put", PromiseTest::put);
        test("promise 20: wipe", PromiseTest::wipe);
        test("promise 21: fault", PromiseTest::fault);
        test("promise 22: undo", PromiseTest::undo);
        test("promise 23: save", PromiseTest::save);
        test("promise 24: restore", PromiseTest::restore);
        end("PromiseTest");
    }

    private static void newObject() {
        MusicHoles x = new MusicHoles();
        int[] counts = {0, 0, 0, NONE, 0, 0, NONE, 3, 1, 1, 4, 0, 0};
        for (int what = 0; what < counts.length; what++) {
            due(counts[what], x.count(what));
        }
        for (int what = 0; what < 5; what++) {
            due(0, x.at(0, what));
            due(0, x.at(99, what));
        }
        due(NOT_POSSIBLE, x.restore(0));
        due(NOT_POSSIBLE, x.restore(1));
        due(NOT_POSSIBLE, x.undo());
        due(NO_SUCH, x.of(0, 0));
        new MusicHoles().note(0, 0, 0);
        due(0, x.count(0));
    }

    private static void set() {
        int[] least = {1, 1, 0, 2};
        int[] greatest = {9, 4, 4, 12};
        int[] before = {3, 1, 1, 4};
        MusicHoles x = new MusicHoles();
        for (int setting = 0; setting < 4; setting++) {
            due(BAD_VALUE, x.set(setting, least[setting] - 1));
            due(BAD_VALUE, x.set(setting, greatest[setting] + 1));
            due(BAD_VALUE, x.set(setting, LOW));
            due(BAD_VALUE, x.set(setting, HIGH));
            due(before[setting], x.count(7 + setting));
            due(0, x.count(12));
            due(before[setting], x.set(setting, least[setting]));
            due(least[setting], x.set(setting, greatest[setting]));
            due(greatest[setting], x.set(setting, greatest[setting]));
            due(greatest[setting], x.count(7 + setting));
            due(3, x.count(12));
            x.undo();
            x.undo();
            x.undo();
        }
        due(BAD_VALUE, x.set(-1, 2));
        due(BAD_VALUE, x.set(4, 2));
        due(BAD_VALUE, x.set(LOW, 2));
        due(BAD_VALUE, x.set(HIGH, 2));
    }

    private static void note() {
        MusicHoles x = new MusicHoles();
        due(0, x.note(5, 10, 20));
        due(0, x.note(11, 0, 0));
        due(2, x.note(0, 99, 99));
        due(1, x.note(4, 10, 10));
        due(3, x.note(6, 10, 99));
        dueNote(x, 0, 11, 0, 0, 0, 0);
        dueNote(x, 1, 4, 10, 10, 0, 0);
        dueNote(x, 2, 5, 10, 20, 0, 0);
        dueNote(x, 3, 6, 10, 99, 0, 0);
        dueNote(x, 4, 0, 99, 99, 0, 0);
        due(5, x.count(12));
        due(NO_SUCH, x.note(-1, 0, 0));
        due(NO_SUCH, x.note(12, 5, 4));
        due(NO_SUCH, x.note(LOW, 0, 0));
        due(NO_SUCH, x.note(HIGH, 0, 0));
        due(BAD_VALUE, x.note(5, -1, 0));
        due(BAD_VALUE, x.note(5, 0, 100));
        due(BAD_VALUE, x.note(5, 100, 100));
        due(BAD_VALUE, x.note(5, 15, 14));
        due(BAD_VALUE, x.note(5, LOW, HIGH));
        due(NOT_POSSIBLE, x.note(5, 20, 30));
        due(NOT_POSSIBLE, x.note(5, 0, 10));
        due(NOT_POSSIBLE, x.note(5, 12, 13));
        due(NOT_POSSIBLE, x.note(5, 0, 99));
        due(5, x.count(12));
        due(0, x.note(5, 0, 9));
        due(5, x.note(5, 21, 22));

        MusicHoles y = full();
        due(40, y.count(0));
        due(NO_SUCH, y.note(12, 0, 0));
        due(BAD_VALUE, y.note(0, 5, 4));
        due(TOO_MANY, y.note(0, 0, 0));
        due(TOO_MANY, y.note(0, 50, 50));
        due(40, y.count(0));
        y.drop(0);
        due(39, y.note(0, 50, 50));
        due(40, y.count(0));
    }

    private static void drop() {
        MusicHoles x = new MusicHoles();
        due(NO_SUCH, x.drop(0));
        x.note(1, 10, 12);
        x.note(2, 20, 22);
        x.note(3, 30, 32);
        x.shift(2, 7);
        x.accent(2, true);
        due(NO_SUCH, x.drop(3));
        due(NO_SUCH, x.drop(-1));
        due(NO_SUCH, x.drop(LOW));
        due(NO_SUCH, x.drop(HIGH));
        due(5, x.count(12));
        due(2, x.drop(1));
        due(6, x.count(12));
        dueNote(x, 0, 1, 10, 12, 0, 0);
        dueNote(x, 1, 3, 30, 32, 7, 1);
        due(1, x.drop(1));
        due(0, x.drop(0));
        due(NO_SUCH, x.drop(0));
        due(0, x.count(1));
    }

    private static void shift() {
        MusicHoles x = new MusicHoles();
        due(NO_SUCH, x.shift(0, 13));
        x.note(0, 10, 20);
        due(NO_SUCH, x.shift(1, 0));
        due(NO_SUCH, x.shift(-1, -1));
        due(BAD_VALUE, x.shift(0, -1));
        due(BAD_VALUE, x.shift(0, 13));
        due(BAD_VALUE, x.shift(0, LOW));
        due(BAD_VALUE, x.shift(0, HIGH));
        due(1, x.count(12));
        due(0, x.shift(0, 12));
        due(12, x.shift(0, 2));
        due(2, x.shift(0, 2));
        due(4, x.count(12));
        // shift 2 with RUN 3, BRIDGE 1: bridges where (step - 10 + 2) leaves 3
        due(1, x.at(10, 0));
        due(0, x.at(11, 0));
        due(1, x.at(12, 0));
        due(0, x.at(15, 0));
        due(0, x.at(19, 0));
        due(1, x.at(20, 0));
    }

    private static void accent() {
        MusicHoles x = new MusicHoles();
        due(NO_SUCH, x.accent(0, true));
        x.note(0, 10, 20);
        due(NO_SUCH, x.accent(1, true));
        due(NO_SUCH, x.accent(-1, false));
        due(1, x.count(12));
        due(0, x.accent(0, false));
        due(0, x.accent(0, true));
        due(3, x.at(10, 0));
        due(1, x.at(12, 0));
        due(1, x.at(20, 0));
        due(1, x.at(10, 2));
        due(1, x.accent(0, true));
        due(1, x.accent(0, false));
        due(1, x.at(10, 0));
        due(0, x.of(0, 4));
        due(5, x.count(12));
        x.note(11, 50, 51);
        x.note(10, 60, 61);
        x.accent(1, true);
        x.accent(2, true);
        due(0xC00, x.at(50, 0));
        due(0x800, x.at(51, 0));
        due(0xC00, x.at(60, 0));
        due(0x400, x.at(61, 0));
        // one hole at most at a step of a track, whoever makes it
        int holes = x.count(1);
        x.note(10, 50, 50);
        due(holes, x.count(1));
    }

    private static void insert() {
        MusicHoles x = new MusicHoles();
        due(0, x.insert(0, 50));
        x.note(0, 10, 20);
        x.note(1, 20, 20);
        x.note(2, 30, 40);
        x.note(3, 0, 19);
        x.shift(1, 5);
        x.accent(1, true);
        due(BAD_VALUE, x.insert(-1, 1));
        due(BAD_VALUE, x.insert(100, 1));
        due(BAD_VALUE, x.insert(0, 0));
        due(BAD_VALUE, x.insert(0, 51));
        due(BAD_VALUE, x.insert(LOW, 1));
        due(BAD_VALUE, x.insert(0, HIGH));
        due(BAD_VALUE, x.insert(0, LOW));
        due(1, x.insert(20, 3));
        dueNote(x, 0, 3, 0, 19, 0, 0);
        dueNote(x, 1, 0, 10, 23, 5, 1);
        dueNote(x, 2, 1, 23, 23, 0, 0);
        dueNote(x, 3, 2, 33, 43, 0, 0);
        due(2, x.insert(11, 50));
        due(93, x.of(3, 2));
        due(0, x.insert(99, 50));
        due(NOT_POSSIBLE, x.insert(93, 7));
        due(6, x.count(12));
        due(1, x.insert(93, 6));
        due(99, x.of(3, 2));
        due(NOT_POSSIBLE, x.insert(99, 1));
        due(NOT_POSSIBLE, x.insert(0, 1));
        due(0, x.of(0, 1));
    }

    private static void cut() {
        MusicHoles x = new MusicHoles();
        due(BAD_VALUE, x.cut(-1, 1));
        due(BAD_VALUE, x.cut(100, 1));
        due(BAD_VALUE, x.cut(0, 0));
        due(BAD_VALUE, x.cut(0, 101));
        due(BAD_VALUE, x.cut(50, 51));
        due(BAD_VALUE, x.cut(99, 2));
        due(BAD_VALUE, x.cut(LOW, 1));
        due(BAD_VALUE, x.cut(0, LOW));
        due(BAD_VALUE, x.cut(HIGH, HIGH));
        due(0, x.count(12));
        due(0, x.cut(0, 100));
        due(0, x.cut(99, 1));
        due(2, x.count(12));
        x.note(0, 0, 9);
        x.note(0, 10, 14);
        x.note(0, 15, 30);
        x.note(1, 5, 25);
        x.note(2, 10, 19);
        x.note(3, 21, 22);
        x.note(4, 8, 10);
        x.set(0, 5);
        x.shift(1, 9);
        x.accent(3, true);
        x.accent(5, true);
        dueNote(x, 5, 0, 15, 30, 0, 1);
        // steps 10 to 19 go: with them the note 10-14 of track 0 and the note 10-19 of track 2
        due(2, x.cut(10, 10));
        due(5, x.count(0));
        due(5, x.count(7));
        dueNote(x, 0, 0, 0, 9, 0, 0);
        dueNote(x, 1, 1, 5, 15, 9, 0);
        dueNote(x, 2, 4, 8, 9, 0, 0);
        dueNote(x, 3, 0, 10, 20, 0, 1);
        dueNote(x, 4, 3, 11, 12, 0, 0);
        // side by side, but not one note
        due(NOT_POSSIBLE, x.note(0, 10, 10));
        due(NOT_POSSIBLE, x.note(0, 9, 9));
        due(5, x.undo());
        dueNote(x, 4, 2, 10, 19, 0, 0);
    }

    private static void cutOrder() {
        MusicHoles x = new MusicHoles();
        x.note(7, 10, 30);
        x.note(2, 14, 30);
        x.note(5, 15, 30);
        x.shift(0, 7);
        x.shift(1, 2);
        x.accent(2, true);
        due(0, x.cut(10, 5));
        dueNote(x, 0, 2, 10, 25, 2, 0);
        dueNote(x, 1, 5, 10, 25, 0, 1);
        dueNote(x, 2, 7, 10, 25, 7, 0);
        due(0, x.cut(11, 89));
        dueNote(x, 2, 7, 10, 10, 7, 0);
        due(3, x.cut(10, 1));

        // one step is left of each, the first one behind what is cut
        MusicHoles y = new MusicHoles();
        y.note(0, 10, 20);
        y.note(1, 14, 20);
        y.note(2, 5, 9);
        y.note(3, 5, 20);
        due(0, y.cut(10, 10));
        dueNote(y, 0, 2, 5, 9, 0, 0);
        dueNote(y, 1, 3, 5, 10, 0, 0);
        dueNote(y, 2, 0, 10, 10, 0, 0);
        dueNote(y, 3, 1, 10, 10, 0, 0);
    }

    private static void copy() {
        MusicHoles x = new MusicHoles();
        x.note(0, 10, 14);
        x.note(1, 12, 20);
        x.note(2, 21, 25);
        x.note(3, 9, 12);
        x.shift(1, 4);
        x.accent(2, true);
        due(BAD_VALUE, x.copy(-1, 5, 0));
        due(BAD_VALUE, x.copy(5, 4, 0));
        due(BAD_VALUE, x.copy(0, 100, 0));
        due(BAD_VALUE, x.copy(100, 100, 0));
        due(BAD_VALUE, x.copy(0, 5, -1));
        due(BAD_VALUE, x.copy(0, 5, 100));
        due(BAD_VALUE, x.copy(LOW, HIGH, 0));
        due(BAD_VALUE, x.copy(0, 5, HIGH));
        due(6, x.count(12));
        // the step 10 comes to 50; the notes 9-12 and 21-25 are not wholly between
        due(2, x.copy(10, 20, 50));
        due(6, x.count(0));
        dueNote(x, 4, 0, 50, 54, 4, 0);
        dueNote(x, 5, 1, 52, 60, 0, 1);
        due(0, x.copy(10, 13, 99));
        due(0, x.copy(99, 99, 0));
        due(6, x.count(0));
        // what counts is the first step of the passage, not the first note's
        due(2, x.copy(5, 15, 0));
        dueNote(x, 0, 3, 4, 7, 0, 0);
        dueNote(x, 1, 0, 5, 9, 4, 0);
        due(NOT_POSSIBLE, x.copy(10, 20, 90));
        due(1, x.copy(10, 14, 95));
        due(99, x.of(x.count(0) - 1, 2));
        // the passage itself stays
        due(NOT_POSSIBLE, x.copy(10, 20, 10));
        due(NOT_POSSIBLE, x.copy(10, 20, 14));
        due(2, x.copy(10, 20, 19));
        dueNote(x, 5, 0, 19, 23, 4, 0);
        dueNote(x, 6, 1, 21, 29, 0, 1);

        MusicHoles y = full();
        due(BAD_VALUE, y.copy(0, 0, 100));
        due(TOO_MANY, y.copy(0, 0, 0));
        due(TOO_MANY, y.copy(0, 0, 50));
        due(0, y.copy(1, 1, 0));
        y.drop(39);
        y.drop(38);
        y.drop(37);
        due(37, y.count(0));
        due(TOO_MANY, y.copy(0, 0, 50));
        y.drop(36);
        due(NOT_POSSIBLE, y.copy(0, 0, 2));
        due(4, y.copy(0, 0, 99));
        due(40, y.count(0));
        due(3, y.of(39, 0));
        due(99, y.of(39, 1));
    }

    private static void read() {
        MusicHoles x = new MusicHoles();
        due(BAD_TEXT, x.read());
        due(9, type(x, "11:90-99!"));
        due(1, x.read());
        due(0, x.count(11));
        due(1, x.count(12));
        dueNote(x, 0, 11, 90, 99, 0, 1);
        type(x, "0:20-29;0:0-9!;3:0-0");
        due(4, x.read());
        dueNote(x, 0, 0, 0, 9, 0, 1);
        dueNote(x, 1, 3, 0, 0, 0, 0);
        dueNote(x, 2, 0, 20, 29, 0, 0);
        dueNote(x, 3, 11, 90, 99, 0, 1);
        due(BAD_TEXT, x.read());

        due(10, type(x, "0:5-4;1:1-"));
        due(BAD_TEXT, x.read());
        due(10, x.count(11));
        due(11, type(x, "1"));
        due(BAD_VALUE, x.read());
        due(11, x.count(11));
        x.wipe();
        type(x, "4:5-5;0:29-30");
        due(NOT_POSSIBLE, x.read());
        due(4, x.count(0));
        due(13, x.count(11));
        x.wipe();
        type(x, "5:5-9;5:9-12");
        due(NOT_POSSIBLE, x.read());
        due(4, x.count(0));
        x.wipe();
        type(x, "0:20-29;5:9-8");
        due(BAD_VALUE, x.read());
        due(2, x.count(12));
        due(1, x.undo());
        due(13, x.count(11));

        MusicHoles y = full();
        y.drop(39);
        due(11, type(y, "0:0-0;1:1-0"));
        due(BAD_VALUE, y.read());
        y.wipe();
        type(y, "0:0-0;1:0-0");
        due(TOO_MANY, y.read());
        y.wipe();
        type(y, "0:0-0");
        due(NOT_POSSIBLE, y.read());
        y.wipe();
        type(y, "0:99-99");
        due(40, y.read());
        due(0, y.count(11));

        MusicHoles z = new MusicHoles();
        due(60, type(z, "0:0-0;1:0-0;2:0-0;3:0-0;4:0-0;5:0-0;6:0-0;7:0-0;8:0-0;9:0-0!"));
        due(10, z.read());
        due(1, z.of(9, 4));
    }

    private static void of() {
        MusicHoles x = new MusicHoles();
        due(NO_SUCH, x.of(0, 8));
        x.note(4, 10, 30);
        due(NO_SUCH, x.of(1, 0));
        due(NO_SUCH, x.of(-1, 0));
        due(NO_SUCH, x.of(HIGH, -1));
        due(BAD_VALUE, x.of(0, -1));
        due(BAD_VALUE, x.of(0, 8));
        due(BAD_VALUE, x.of(0, LOW));
        dueNote(x, 0, 4, 10, 30, 0, 0);
        due(5, x.of(0, 5));
        due(1, x.of(0, 6));
        due(1, x.of(0, 7));
        x.set(MusicHoles.BRIDGE, 3);
        // period 6, bridges 3 4 5, 9 10 11, 15 16 17 of the steps 0 to 20
        due(9, x.of(0, 5));
        due(3, x.of(0, 6));
        due(0, x.of(0, 7));
        x.set(MusicHoles.HEAR, 3);
        due(1, x.of(0, 7));
        x.set(MusicHoles.HEAR, 2);
        due(0, x.of(0, 7));
        // an accent of the track below makes a hole, and the bridge is a bridge yet
        x.note(3, 14, 14);
        x.accent(1, true);
        due(9, x.of(0, 5));
        due(3, x.of(0, 6));
        due(0, x.of(0, 7));
        x.cut(17, 14);
        // 10-16 is left: bridges at 13 14 15, and the accent's hole at 14 helps to hear them all
        due(16, x.of(0, 2));
        due(1, x.of(0, 7));
        due(3, x.of(0, 5));
        x.accent(1, false);
        due(0, x.of(0, 7));
        // with the shift 4 the steps 10 (the first one, a hole nevertheless), 11 and 15 are bridges
        x.shift(0, 4);
        due(2, x.of(0, 5));
        due(1, x.of(0, 6));
        due(16, x.at(10, 0) & 16);
        due(0, x.at(11, 0) & 16);
        // with 5 the steps 10, 14 and 15 are, and so would the last one be
        x.shift(0, 5);
        due(0, x.at(14, 0) & 16);
        due(0, x.at(15, 0) & 16);
        due(16, x.at(16, 0) & 16);
        due(2, x.of(0, 5));
        due(2, x.of(0, 6));
        x.note(7, 0, 0);
        due(0, x.of(0, 5));
        due(0, x.of(0, 6));
        due(1, x.of(0, 7));
    }

    private static void at() {
        MusicHoles x = new MusicHoles();
        due(BAD_VALUE, x.at(-1, 0));
        due(BAD_VALUE, x.at(100, 0));
        due(BAD_VALUE, x.at(LOW, 0));
        due(BAD_VALUE, x.at(0, -1));
        due(BAD_VALUE, x.at(0, 5));
        due(BAD_VALUE, x.at(0, HIGH));
        x.note(0, 0, 9);
        x.note(1, 2, 9);
        x.note(2, 3, 9);
        x.note(4, 3, 9);
        // holes: track 0 at 0-2 4-6 8 9, 1 at 2-4 6-8 9, 2 and 4 at 3-5 7-9
        due(1, x.at(0, 0));
        due(3, x.at(2, 0));
        due(2 | 4 | 16, x.at(3, 0));
        due(1 | 2 | 4 | 16, x.at(4, 0));
        due(1 | 2 | 4 | 16, x.at(3, 1));
        due(1 | 2 | 4 | 16, x.at(10, 1));
        due(0, x.at(11, 1));
        due(0, x.at(10, 0));
        due(0, x.at(10, 2));
        due(1, x.at(1, 2));
        due(1 | 2 | 4 | 16, x.at(9, 2));
        due(1 | 2 | 4 | 16, x.at(3, 2));
        due(2, x.at(3, 3));
        due(3, x.at(4, 3));
        due(1, x.at(0, 3));
        due(0, x.at(10, 3));
        due(0, x.at(4, 4));
        x.set(MusicHoles.WEAK, 3);
        due(1, x.at(4, 4));
        due(0, x.at(3, 4));
        x.set(MusicHoles.WEAK, 2);
        due(1, x.at(3, 4));
        due(0, x.at(0, 4));
        x.set(MusicHoles.HEAR, 0);
        due(2 | 4 | 16, x.at(3, 1));
        x.set(MusicHoles.HEAR, 4);
        due(1 | 2 | 4 | 16, x.at(13, 1));
        due(0, x.at(14, 1));
        for (int track = 0; track < 12; track++) {
            x.note(track, 99, 99);
        }
        due(4095, x.at(99, 0));
        due(12, x.at(99, 3));
        x.set(MusicHoles.WEAK, 12);
        due(1, x.at(99, 4));
    }

    private static void sound() {
        MusicHoles x = new MusicHoles();
        due(NO_SUCH, x.sound(0, 0, 0));
        due(NO_SUCH, x.sound(-1, 0, 3));
        due(NO_SUCH, x.sound(12, 0, 0));
        x.note(6, 0, 4);
        x.note(6, 6, 7);
        x.note(6, 20, 20);
        x.note(6, 95, 99);
        x.note(5, 40, 41);
        x.accent(3, true);
        // track 6 with HEAR 1 is heard at 0-8, 20-21, 40-41 (the accent) and 95-99
        int[][] sounds = {{0, 8, 2}, {20, 21, 1}, {40, 41, 0}, {95, 99, 1}};
        for (int sound = 0; sound < sounds.length; sound++) {
            for (int what = 0; what < 3; what++) {
                due(sounds[sound][what], x.sound(6, sound, what));
            }
        }
        due(NO_SUCH, x.sound(6, 4, 0));
        due(NO_SUCH, x.sound(6, 4, 3));
        due(NO_SUCH, x.sound(6, -1, 0));
        due(NO_SUCH, x.sound(6, LOW, 0));
        due(NO_SUCH, x.sound(6, HIGH, -1));
        due(BAD_VALUE, x.sound(6, 0, 3));
        due(BAD_VALUE, x.sound(6, 0, -1));
        due(BAD_VALUE, x.sound(6, 3, HIGH));
        // one long note that is heard in pieces has a step in each of them
        x.set(MusicHoles.HEAR, 0);
        due(0, x.sound(6, 0, 0));
        due(2, x.sound(6, 0, 1));
        due(4, x.sound(6, 1, 0));
        due(4, x.sound(6, 1, 1));
        due(1, x.sound(6, 1, 2));
        due(6, x.sound(6, 2, 0));
    }

    private static void count() {
        MusicHoles x = new MusicHoles();
        due(BAD_VALUE, x.count(-1));
        due(BAD_VALUE, x.count(13));
        due(BAD_VALUE, x.count(LOW));
        due(BAD_VALUE, x.count(HIGH));
        x.note(3, 10, 19);
        x.note(4, 10, 19);
        x.note(5, 12, 13);
        x.note(0, 50, 50);
        due(4, x.count(0));
        due(8 + 8 + 2 + 1, x.count(1));
        due(0, x.count(2));
        due(NONE, x.count(3));
        due(4, x.count(4));
        due(0, x.count(5));
        due(50, x.count(6));
        x.set(MusicHoles.WEAK, 3);
        // three side by side at 12 alone: 13 is a bridge of both long notes
        due(1, x.count(2));
        due(12, x.count(3));
        x.set(MusicHoles.WEAK, 2);
        due(8, x.count(2));
        due(10, x.count(3));
        x.set(MusicHoles.HEAR, 0);
        due(2, x.count(5));
        // 10-12, 14-16, 18-19 of two tracks, and one of each of the others
        due(8, x.count(4));
        x.accent(2, true);
        due(8 + 8 + 2 + 1 + 1, x.count(1));
        due(9, x.count(4));
        due(6, x.count(12));
        x.set(MusicHoles.RUN, 9);
        x.set(MusicHoles.BRIDGE, 4);
        due(9, x.count(7));
        due(4, x.count(8));
        due(0, x.count(9));
        due(2, x.count(10));
        due(6, x.count(12));
        x.put('7');
        due(1, x.count(11));
        x.drop(3);
        due(19, x.count(6));
        // a long note may end behind one that begins later
        x.note(0, 15, 16);
        due(19, x.count(6));
        x.cut(0, 100);
        due(NONE, x.count(6));
        due(NONE, x.count(3));

        // the step 0 counts
        MusicHoles y = new MusicHoles();
        y.set(MusicHoles.WEAK, 2);
        y.note(0, 0, 0);
        due(0, y.count(6));
        due(1, y.count(4));
        due(1, y.count(1));
        y.note(1, 0, 0);
        due(2, y.count(1));
        due(1, y.count(2));
        due(0, y.count(3));
        // the first note may end last
        y.insert(0, 9);
        y.note(5, 0, 99);
        y.note(6, 3, 5);
        due(99, y.count(6));
    }

    private static void bestShift() {
        MusicHoles x = new MusicHoles();
        due(NO_SUCH, x.bestShift(0, 2));
        x.note(0, 0, 12);
        due(NO_SUCH, x.bestShift(-1, 0));
        due(NO_SUCH, x.bestShift(1, 0));
        due(BAD_VALUE, x.bestShift(0, -1));
        due(BAD_VALUE, x.bestShift(0, 2));
        due(BAD_VALUE, x.bestShift(0, HIGH));
        x.shift(0, 5);
        due(0, x.bestShift(0, 0));
        due(0, x.bestShift(0, 1));
        due(5, x.of(0, 3));
        due(2, x.count(12));
        x.shift(0, 0);
        x.set(MusicHoles.RUN, 1);
        x.set(MusicHoles.WEAK, 2);
        // holes every second step, both from the step 0 on: weak at 0 2 4 6 8 10 12
        x.note(1, 0, 12);
        due(7, x.count(2));
        due(1, x.bestShift(1, 0));
        due(2, x.bestShift(1, 1));
        due(1, x.bestShift(0, 0));
        due(7, x.count(2));
        due(0, x.of(1, 3));
        // RUN 9, BRIDGE 4: both have bridges at 9 10 11, so they meet at ten steps; four more come free with the shift 1
        x.set(MusicHoles.RUN, 9);
        x.set(MusicHoles.BRIDGE, 4);
        due(10, x.count(2));
        due(4, x.bestShift(1, 0));
        due(6, x.bestShift(1, 1));

        // a period of 10, whose last step is a bridge: the lowest shift that brings it to a step
        for (int step = 1; step <= 11; step++) {
            MusicHoles y = new MusicHoles();
            y.set(MusicHoles.RUN, 9);
            y.set(MusicHoles.WEAK, 3);
            y.note(5, 0, 29);
            y.note(4, step, step);
            y.note(3, step, step);
            due((19 - step) % 10, y.bestShift(0, 0));
            due(0, y.bestShift(0, 1));
            y.drop(2);
            due(0, y.bestShift(0, 0));
            // the hole of an accent counts, too
            y.drop(1);
            y.note(3, step, step);
            due(0, y.bestShift(0, 0));
            y.accent(1, true);
            due((19 - step) % 10, y.bestShift(0, 0));
            due(0, y.bestShift(0, 1));
        }
        // all 13 shifts are tried: with 12 alone the steps 10 to 13 are bridges
        MusicHoles z = new MusicHoles();
        z.set(MusicHoles.RUN, 9);
        z.set(MusicHoles.BRIDGE, 4);
        z.set(MusicHoles.WEAK, 2);
        z.note(0, 0, 26);
        z.note(1, 10, 13);
        due(12, z.bestShift(0, 0));
        due(0, z.bestShift(0, 1));
        // two pairs of tracks make the paper weak at every step, whatever the shift of another note is
        MusicHoles w = new MusicHoles();
        w.set(MusicHoles.RUN, 9);
        w.set(MusicHoles.WEAK, 2);
        for (int track = 0; track < 4; track++) {
            w.note(track < 2 ? track : track + 3, 0, 99);
            w.shift(track, track < 2 ? 0 : 5);
        }
        w.note(11, 0, 40);
        due(100, w.count(2));
        due(0, w.bestShift(4, 0));
        due(100, w.bestShift(4, 1));
        due(NONE, w.greatestRun());
    }

    private static void greatestRun() {
        MusicHoles x = new MusicHoles();
        due(9, x.greatestRun());
        x.set(MusicHoles.WEAK, 2);
        x.note(0, 0, 8);
        // a hole of the track 1 at the step 5 meets none of the track 0 if RUN is 5 (bridge at 5) or 2 (2 5) alone
        x.note(1, 5, 5);
        due(5, x.greatestRun());
        due(3, x.count(7));
        due(3, x.count(12));
        x.note(1, 2, 2);
        due(2, x.greatestRun());
        x.undo();
        x.note(1, 7, 7);
        // 7 with 5: 7 % 6 = 1 is a hole; RUN 1: odd steps are bridges
        due(1, x.greatestRun());
        x.note(1, 8, 8);
        // the last step of the track 0 has a hole always
        due(NONE, x.greatestRun());
        x.set(MusicHoles.WEAK, 3);
        due(9, x.greatestRun());
        due(3, x.count(7));
    }

    private static void swallowed() {
        MusicHoles x = new MusicHoles();
        due(NO_SUCH, x.swallowed(-1));
        due(NO_SUCH, x.swallowed(12));
        due(NO_SUCH, x.swallowed(LOW));
        due(0, x.swallowed(0));
        x.note(11, 0, 4);
        x.note(11, 6, 7);
        x.note(11, 8, 8);
        x.note(11, 11, 12);
        x.note(10, 13, 13);
        due(2, x.swallowed(11));
        due(0, x.swallowed(10));
        x.set(MusicHoles.HEAR, 2);
        due(3, x.swallowed(11));
        x.set(MusicHoles.HEAR, 0);
        due(1, x.swallowed(11));
        // a hole of another track's accent swallows too, but not one at the same step
        x.note(10, 10, 10);
        x.accent(3, true);
        due(2, x.swallowed(11));
        x.undo();
        x.undo();
        x.note(10, 11, 11);
        x.accent(4, true);
        due(1, x.swallowed(11));
    }

    private static void freeGoal() {
        MusicHoles x = new MusicHoles();
        due(BAD_VALUE, x.freeGoal(-1, 0));
        due(BAD_VALUE, x.freeGoal(1, 0));
        due(BAD_VALUE, x.freeGoal(0, 100));
        due(BAD_VALUE, x.freeGoal(LOW, HIGH));
        due(NONE, x.freeGoal(0, 99));
        x.note(0, 10, 14);
        due(0, x.freeGoal(10, 14));
        due(NONE, x.freeGoal(11, 99));
        due(NONE, x.freeGoal(0, 13));
        // the note lies 8 steps behind the passage's first one, and may not meet itself
        due(0, x.freeGoal(5, 14));
        due(7, x.freeGoal(2, 20));
        due(0, x.freeGoal(10, 99));
        x.note(0, 0, 0);
        due(1, x.freeGoal(10, 14));
        x.note(0, 5, 5);
        due(15, x.freeGoal(10, 14));
        x.note(0, 15, 94);
        due(95, x.freeGoal(10, 14));
        x.note(0, 99, 99);
        due(NONE, x.freeGoal(10, 14));
        due(5, x.count(0));
        due(5, x.count(12));
        MusicHoles y = full();
        due(NONE, y.freeGoal(0, 0));
        y.drop(39);
        due(NONE, y.freeGoal(0, 0));
        due(NONE, y.freeGoal(17, 18));
        y.drop(38);
        due(38, y.count(0));
        due(1, y.freeGoal(18, 18));
        due(NONE, y.freeGoal(16, 16));
        y.drop(37);
        due(1, y.freeGoal(18, 18));
    }

    private static void put() {
        MusicHoles x = new MusicHoles();
        due(BAD_VALUE, x.put(0));
        due(BAD_VALUE, x.put(32));
        due(BAD_VALUE, x.put(127));
        due(BAD_VALUE, x.put(255));
        due(BAD_VALUE, x.put(0x2000L | 65));
        due(BAD_VALUE, x.put(65L << 8));
        due(BAD_VALUE, x.put(65L << 16 | 65));
        due(BAD_VALUE, x.put(65L << 56 | 65));
        due(BAD_VALUE, x.put(1L << 63 | 65));
        due(BAD_VALUE, x.put(-1));
        due(BAD_VALUE, x.put(Long.MIN_VALUE));
        due(BAD_VALUE, x.put(Long.MAX_VALUE));
        due(BAD_VALUE, x.put(0x7f21212121212121L));
        due(BAD_VALUE, x.put(0x8121212121212121L));
        due(0, x.count(11));
        due(1, x.put(33));
        due(2, x.put(126));
        due(10, x.put(0x7e21212121212121L));
        due(10, x.count(11));
        due(0, x.count(12));
        x.wipe();
        // the highest character is the first one: "1:0-5"
        due(5, x.put(0x313a302d35L));
        due(1, x.read());
        dueNote(x, 0, 1, 0, 5, 0, 0);
        for (int i = 1; i <= 7; i++) {
            due(8 * i, x.put(0x4141414141414141L));
        }
        due(TOO_MANY, x.put(0x4141414141L));
        due(BAD_VALUE, x.put(0x2041414141L));
        due(59, x.put(0x414141));
        due(TOO_MANY, x.put(0x4141));
        due(60, x.put(0x41));
        due(TOO_MANY, x.put(0x41));
        due(60, x.count(11));
    }

    private static void wipe() {
        MusicHoles x = new MusicHoles();
        due(0, x.wipe());
        type(x, "1:2-3;4:5-6!");
        due(12, x.wipe());
        due(0, x.count(11));
        due(0, x.wipe());
        due(0, x.count(12));
        type(x, "7");
        due(1, x.fault());
    }

    private static void fault() {
        String[] whole = {"0:0-0", "11:99-99!", "10:10-9", "9:5-4", "1:1-1;1:1-1!;2:2-2", "2:0-0!;3:0-10"};
        for (String text : whole) {
            due(NONE, faultOf(text));
            for (int end = 0; end < text.length(); end++) {
                String part = text.substring(0, end);
                int lastNote = part.lastIndexOf(';') + 1;
                String note = part.substring(lastNote);
                boolean complete = note.indexOf('-') >= 0 && !note.endsWith("-");
                due(complete ? NONE : end, faultOf(part));
            }
        }
        String[] faulty = {"12:", "00:", "01", "20", "-1", ":", "a", ";", "0-", "11x", "110:",
            "0:00", "0:100", "0:-", "0:1:", "0:01", "0:99;", "0:!",
            "0:1-;", "0:1-!", "0:1-00", "0:1-01", "0:1-100", "0:1-2!!", "0:1-2!3", "0:1-2:", "0:1-2-", "0:1-2;;", "0:1-2;!",
            "0:0-0;12:0-0", "0:0-0!;1:0-990"};
        int[] due = {1, 1, 1, 1, 0, 0, 0, 0, 1, 2, 2,
            3, 4, 2, 3, 3, 4, 2,
            4, 4, 5, 5, 6, 6, 6, 5, 5, 6, 6,
            7, 13};
        for (int i = 0; i < faulty.length; i++) {
            due(due[i], faultOf(faulty[i]));
        }
        due(60, faultOf("0:0-0;1:0-0;2:0-0;3:0-0;4:0-0;5:0-0;6:0-0;7:0-0;8:0-0;9:0-0;"));
        MusicHoles x = new MusicHoles();
        due(0, x.fault());
        type(x, "1:1-1");
        due(NONE, x.fault());
        due(5, x.count(11));
        due(0, x.count(12));
        due(0, x.count(0));
    }

    private static void undo() {
        MusicHoles x = new MusicHoles();
        due(NOT_POSSIBLE, x.undo());
        for (int i = 0; i < 8; i++) {
            x.note(0, i, i);
        }
        due(6, x.count(12));
        for (int i = 5; i >= 0; i--) {
            due(i, x.undo());
            due(i + 2, x.count(0));
        }
        due(NOT_POSSIBLE, x.undo());
        due(2, x.count(0));

        // each kind of change, undone, with shifts, accents and settings; there are the notes 0-0 and 1-1
        due(0, x.shift(1, 3));
        due(0, x.accent(1, true));
        due(1, x.set(MusicHoles.HEAR, 4));
        due(0, x.insert(1, 50));
        due(1, x.cut(0, 1));
        due(0, x.drop(0));
        due(5, x.undo());
        dueNote(x, 0, 0, 50, 50, 3, 1);
        due(4, x.undo());
        due(2, x.count(0));
        dueNote(x, 1, 0, 51, 51, 3, 1);
        due(3, x.undo());
        dueNote(x, 1, 0, 1, 1, 3, 1);
        due(4, x.count(9));
        due(2, x.undo());
        due(1, x.count(9));
        due(1, x.of(1, 4));
        due(1, x.undo());
        dueNote(x, 1, 0, 1, 1, 3, 0);
        due(0, x.undo());
        dueNote(x, 1, 0, 1, 1, 0, 0);

        // changes without a difference are recorded, errors are not
        x.set(MusicHoles.RUN, 3);
        x.shift(0, 0);
        x.accent(0, false);
        x.copy(90, 99, 0);
        x.insert(99, 1);
        due(5, x.count(12));
        x.set(MusicHoles.RUN, 0);
        x.note(0, 0, 0);
        x.drop(9);
        x.shift(0, 13);
        x.accent(9, true);
        x.insert(0, 51);
        x.cut(99, 2);
        x.copy(0, 1, 0);
        x.read();
        x.restore(1);
        due(5, x.count(12));
        x.cut(99, 1);
        due(6, x.count(12));

        // the pad and the slots stay; a state that was undone is gone
        MusicHoles y = new MusicHoles();
        type(y, "1:1-5");
        y.read();
        y.save(0);
        type(y, "2:2");
        due(0, y.undo());
        due(3, y.count(11));
        due(0, y.count(0));
        due(1, y.restore(0));
        due(0, y.undo());
        due(0, y.count(0));
        y.note(0, 0, 0);
        y.note(0, 1, 1);
        y.undo();
        y.note(3, 3, 3);
        due(1, y.undo());
        due(1, y.count(0));
        due(0, y.of(0, 0));
    }

    private static void save() {
        MusicHoles x = new MusicHoles();
        due(BAD_VALUE, x.save(-1));
        due(BAD_VALUE, x.save(2));
        due(BAD_VALUE, x.save(LOW));
        due(BAD_VALUE, x.save(HIGH));
        due(0, x.save(0));
        x.note(4, 5, 6);
        x.shift(0, 7);
        x.accent(0, true);
        x.set(MusicHoles.WEAK, 9);
        due(4, x.count(12));
        due(1, x.save(1));
        due(4, x.count(12));
        type(x, "ab");
        x.drop(0);
        x.set(MusicHoles.WEAK, 2);
        due(1, x.restore(1));
        dueNote(x, 0, 4, 5, 6, 7, 1);
        due(9, x.count(10));
        due(2, x.count(11));
        due(0, x.restore(0));
        due(4, x.count(10));
        x.note(1, 1, 1);
        x.note(1, 2, 2);
        due(2, x.save(0));
        x.cut(0, 100);
        due(2, x.restore(0));
        due(1, x.restore(1));
    }

    private static void restore() {
        MusicHoles x = new MusicHoles();
        due(BAD_VALUE, x.restore(-1));
        due(BAD_VALUE, x.restore(2));
        due(BAD_VALUE, x.restore(LOW));
        due(BAD_VALUE, x.restore(HIGH));
        due(NOT_POSSIBLE, x.restore(0));
        x.save(0);
        due(NOT_POSSIBLE, x.restore(1));
        due(0, x.count(12));
        due(0, x.restore(0));
        due(1, x.count(12));
        x.note(2, 3, 4);
        x.save(1);
        due(2, x.count(12));
        // changes after a restore do not reach the slot
        due(1, x.restore(1));
        x.shift(0, 9);
        x.drop(0);
        due(1, x.restore(1));
        dueNote(x, 0, 2, 3, 4, 0, 0);
        due(5, x.undo());
        due(0, x.count(0));
        due(4, x.undo());
        due(9, x.of(0, 3));
    }
}
