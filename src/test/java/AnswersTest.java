/** The sentences of the promises 11 to 18 at their edges, each by a test of its own. */
public final class AnswersTest extends Check {
    public static void main(String[] args) {
        of();
        at();
        sound();
        count();
        bestShift();
        greatestRun();
        swallowed();
        freeGoal();
        end("AnswersTest");
    }

    /** A track with a hole, so many bridges that nobody else fills, and a hole. */
    private static MusicHoles gap(int bridges, int hear) {
        MusicHoles x = single(5, 50, 51 + bridges);
        x.set(MusicHoles.RUN, 1);
        x.set(MusicHoles.BRIDGE, 4);
        x.set(MusicHoles.HEAR, hear);
        return x;
    }

    // ---- promise 11

    private static void of() {
        test("11: NO_SUCH if there is no such note", AnswersTest::ofNone);
        test("11: BAD_VALUE if what is out of range", AnswersTest::ofWhat);
        test("11: what 0 to 4", AnswersTest::ofPlain);
        test("11: 5 its bridges, how many", AnswersTest::ofBridges);
        test("11: (steps; also where another note makes a hole)", AnswersTest::ofBridgesFilled);
        test("11: 6 the longest row of bridges in it", AnswersTest::ofLongest);
        test("11: 7 whether the tracker hears its track at all of its steps", AnswersTest::ofHeard);
        test("11: heard also by a hole that another note makes", AnswersTest::ofHeardByOthers);
    }

    private static void ofNone() {
        due(NO_SUCH, new MusicHoles().of(0, 0));
        MusicHoles x = full();
        for (int note : new int[] {LOW, -1, 40, HIGH}) {
            due(NO_SUCH, x.of(note, 0));
            due(NO_SUCH, x.of(note, 7));
        }
        due(0, x.of(0, 0));
        due(3, x.of(39, 0));
        x.drop(39);
        due(NO_SUCH, x.of(39, 0));
    }

    private static void ofWhat() {
        MusicHoles x = single(1, 2, 3);
        for (int what : new int[] {LOW, -1, 8, HIGH}) {
            due(BAD_VALUE, x.of(0, what));
        }
        due(1, x.of(0, 0));
        due(1, x.of(0, 7));
    }

    private static void ofPlain() {
        MusicHoles x = single(0, 0, 99);
        dueNote(x, 0, 0, 0, 99, 0, 0);
        x.note(11, 99, 99);
        x.shift(1, 12);
        x.accent(1, true);
        dueNote(x, 1, 11, 99, 99, 12, 1);
    }

    private static void ofBridges() {
        int[] due = {0, 0, 0, 0, 1, 1, 1, 1, 2};
        for (int last = 0; last < due.length; last++) {
            due(due[last], single(0, 0, last).of(0, 5));
        }
        MusicHoles x = single(0, 0, 99);
        due(24, x.of(0, 5));
        x.set(MusicHoles.RUN, 1);
        x.set(MusicHoles.BRIDGE, 4);
        due(79, x.of(0, 5));
        x.set(MusicHoles.RUN, 9);
        x.set(MusicHoles.BRIDGE, 1);
        due(9, x.of(0, 5));
    }

    private static void ofBridgesFilled() {
        MusicHoles x = gap(4, 0);
        x.note(4, 53, 53);
        x.accent(1, true);
        due(32, x.at(53, 0) & 32);
        due(4, x.of(0, 5));
        due(4, x.of(0, 6));
    }

    private static void ofLongest() {
        due(0, single(0, 7, 7).of(0, 6));
        due(0, single(0, 7, 8).of(0, 6));
        due(0, single(0, 7, 9).of(0, 6));
        due(1, single(0, 0, 99).of(0, 6));
        for (int bridge = 1; bridge <= 4; bridge++) {
            MusicHoles x = single(0, 0, 99);
            x.set(MusicHoles.BRIDGE, bridge);
            due(bridge, x.of(0, 6));
            // the last step cuts the row short
            MusicHoles y = single(0, 0, 2 + bridge);
            y.set(MusicHoles.BRIDGE, bridge);
            due(bridge - 1, y.of(0, 6));
            due(bridge - 1, y.of(0, 5));
        }
        // a longer row comes ahead of a shorter one
        MusicHoles z = gap(6, 0);
        due(4, z.of(0, 6));
        due(5, z.of(0, 5));
    }

    private static void ofHeard() {
        for (int hear = 0; hear <= 4; hear++) {
            for (int bridges = 0; bridges <= 4; bridges++) {
                MusicHoles x = gap(bridges, hear);
                due(bridges, x.of(0, 6));
                due(bridges <= hear ? 1 : 0, x.of(0, 7));
            }
        }
        due(1, single(0, 99, 99).of(0, 7));
        due(1, single(0, 0, 0).of(0, 7));
    }

    private static void ofHeardByOthers() {
        MusicHoles x = gap(3, 2);
        due(0, x.of(0, 7));
        x.note(4, 53, 53);
        due(0, x.of(0, 7));
        x.accent(1, true);
        due(1, x.of(0, 7));
        // a hole behind the step that is not heard does not help
        MusicHoles y = gap(4, 2);
        y.note(4, 54, 54);
        y.accent(1, true);
        due(0, y.of(0, 7));
    }

    // ---- promise 12

    private static void at() {
        test("12: step: 0 to 99", AnswersTest::atStep);
        test("12: BAD_VALUE if what is out of range", AnswersTest::atWhat);
        test("12: 2 the tracks that have a note there", AnswersTest::atNotes);
        test("12: 3 the most holes on tracks side by side", AnswersTest::atMost);
        test("12: with nothing there, and with everything full", AnswersTest::atFull);
    }

    private static void atStep() {
        MusicHoles x = single(0, 0, 0);
        x.note(1, 99, 99);
        for (int step : new int[] {LOW, -1, 100, HIGH}) {
            due(BAD_VALUE, x.at(step, 0));
        }
        due(1, x.at(0, 0));
        due(2, x.at(99, 0));
    }

    private static void atWhat() {
        MusicHoles x = single(0, 0, 0);
        for (int what : new int[] {LOW, -1, 5, HIGH}) {
            due(BAD_VALUE, x.at(0, what));
        }
        due(1, x.at(0, 0));
        due(0, x.at(0, 4));
    }

    private static void atNotes() {
        MusicHoles x = single(6, 40, 50);
        x.accent(0, true);
        due(0, x.at(39, 2));
        due(64, x.at(40, 2));
        due(64, x.at(43, 2));
        due(64, x.at(50, 2));
        due(0, x.at(51, 2));
    }

    private static void atMost() {
        due(0, new MusicHoles().at(0, 3));
        for (int tracks = 1; tracks <= 12; tracks++) {
            due(tracks, block(tracks, 0, 0).at(0, 3));
        }
        // the longest row is the first one, or the last one
        MusicHoles x = block(12, 0, 0);
        x.drop(8);
        due(8, x.at(0, 3));
        x.drop(1);
        due(6, x.at(0, 3));
        x.drop(2);
        due(4, x.at(0, 3));
        x.drop(5);
        due(3, x.at(0, 3));
    }

    private static void atFull() {
        int[] nothing = {0, 0, 0, 0, 0};
        int[] everything = {4095, 4095, 4095, 12, 1};
        MusicHoles x = block(12, 0, 99);
        x.set(MusicHoles.WEAK, 12);
        for (int what = 0; what < 5; what++) {
            for (int step : new int[] {0, 50, 99}) {
                due(nothing[what], new MusicHoles().at(step, what));
                due(everything[what], x.at(step, what));
            }
        }
    }

    // ---- promise 13

    private static void sound() {
        test("13: NO_SUCH if there is no such track", AnswersTest::soundTrack);
        test("13: NO_SUCH if there is no such sound", AnswersTest::soundNone);
        test("13: BAD_VALUE if what is out of range", AnswersTest::soundWhat);
        test("13: 0 for the first one, in their order", AnswersTest::soundOrder);
        test("13: 2 how many notes of the track have a step in it", AnswersTest::soundNotes);
    }

    private static void soundTrack() {
        MusicHoles x = block(12, 5, 5);
        for (int track : new int[] {LOW, -1, 12, HIGH}) {
            due(NO_SUCH, x.sound(track, 0, 0));
        }
        due(5, x.sound(0, 0, 0));
        due(5, x.sound(11, 0, 0));
    }

    private static void soundNone() {
        due(NO_SUCH, new MusicHoles().sound(0, 0, 0));
        MusicHoles x = single(4, 5, 5);
        for (int sound : new int[] {LOW, -1, 1, HIGH}) {
            due(NO_SUCH, x.sound(4, sound, 0));
        }
        due(5, x.sound(4, 0, 0));
        due(NO_SUCH, x.sound(3, 0, 0));
        due(NO_SUCH, x.sound(5, 0, 0));
        // 50 sounds on a track, the last one at 98 or at 99
        MusicHoles y = single(4, 0, 98);
        y.set(MusicHoles.RUN, 1);
        y.set(MusicHoles.HEAR, 0);
        due(98, y.sound(4, 49, 0));
        due(98, y.sound(4, 49, 1));
        due(NO_SUCH, y.sound(4, 50, 0));
    }

    private static void soundWhat() {
        MusicHoles x = single(4, 5, 5);
        for (int what : new int[] {LOW, -1, 3, HIGH}) {
            due(BAD_VALUE, x.sound(4, 0, what));
        }
        due(5, x.sound(4, 0, 0));
        due(1, x.sound(4, 0, 2));
    }

    private static void soundOrder() {
        MusicHoles x = single(4, 99, 99);
        x.note(4, 0, 0);
        x.note(4, 50, 50);
        x.set(MusicHoles.HEAR, 4);
        int[][] sounds = {{0, 4}, {50, 54}, {99, 99}};
        for (int sound = 0; sound < 3; sound++) {
            due(sounds[sound][0], x.sound(4, sound, 0));
            due(sounds[sound][1], x.sound(4, sound, 1));
        }
        due(NO_SUCH, x.sound(4, 3, 0));
    }

    private static void soundNotes() {
        // a sound of an accent alone has no note of its track
        MusicHoles x = single(3, 5, 5);
        x.accent(0, true);
        due(0, x.sound(4, 0, 2));
        due(1, x.sound(3, 0, 2));
        // a note whose bridge alone lies in the sound that an accent makes
        MusicHoles y = gap(4, 0);
        y.note(4, 53, 53);
        y.accent(1, true);
        due(53, y.sound(5, 1, 0));
        due(53, y.sound(5, 1, 1));
        due(1, y.sound(5, 1, 2));
        // a whole row of notes in one sound, to which others do not belong
        MusicHoles z = new MusicHoles();
        for (int i = 0; i < 20; i++) {
            z.note(4, 2 * i, 2 * i);
            z.note(5, 2 * i, 2 * i);
        }
        due(20, z.sound(4, 0, 2));
        due(39, z.sound(4, 0, 1));
        z.set(MusicHoles.HEAR, 0);
        due(1, z.sound(4, 19, 2));
        // a note that begins at the last step of a sound, and one that ends at the first one of it
        MusicHoles w = single(4, 10, 12);
        w.note(4, 14, 16);
        w.note(4, 19, 20);
        due(2, w.sound(4, 0, 2));
        due(17, w.sound(4, 0, 1));
        due(1, w.sound(4, 1, 2));
    }

    // ---- promise 14

    private static void count() {
        test("14: BAD_VALUE if what is out of range", AnswersTest::countWhat);
        test("14: with nothing there", AnswersTest::countNothing);
        test("14: with everything full", AnswersTest::countFull);
        test("14: 0 notes", AnswersTest::countNotes);
        test("14: 2 steps at which the paper is weak, 3 the first one of them (NONE)", AnswersTest::countWeak);
        test("14: 4 sounds of all tracks", AnswersTest::countSounds);
        test("14: 5 notes in which the tracker hears a gap", AnswersTest::countGaps);
        test("14: 6 the greatest last step of a note (NONE)", AnswersTest::countGreatest);
        test("14: 11 the length of the pad", AnswersTest::countPad);
        test("14: 12 how many changes can be undone", AnswersTest::countUndone);
    }

    private static void countWhat() {
        MusicHoles x = rich();
        for (int what : new int[] {LOW, -1, 13, 14, HIGH}) {
            due(BAD_VALUE, x.count(what));
        }
        due(4, x.count(0));
        due(6, x.count(12));
    }

    private static void countNothing() {
        int[] nothing = {0, 0, 0, NONE, 0, 0, NONE, 3, 1, 1, 4, 0, 0};
        for (int what = 0; what < nothing.length; what++) {
            due(nothing[what], new MusicHoles().count(what));
        }
    }

    private static void countFull() {
        MusicHoles x = block(12, 0, 99);
        x.set(MusicHoles.RUN, 9);
        x.set(MusicHoles.BRIDGE, 1);
        x.set(MusicHoles.HEAR, 0);
        x.set(MusicHoles.WEAK, 12);
        type(x, TEN_NOTES + ";");
        // each tenth step is a bridge, but for the last one
        int[] everything = {12, 12 * 91, 91, 0, 12 * 10, 12, 99, 9, 1, 0, 12, 60, 6};
        for (int what = 0; what < everything.length; what++) {
            due(everything[what], x.count(what));
        }
        x.accent(0, true);
        due(12 * 91, x.count(1));
    }

    private static void countNotes() {
        MusicHoles x = new MusicHoles();
        for (int i = 0; i < 40; i++) {
            due(i, x.count(0));
            x.note(i % 12, 8 * (i / 12), 8 * (i / 12));
        }
        due(40, x.count(0));
        x.note(0, 99, 99);
        due(40, x.count(0));
    }

    private static void countWeak() {
        MusicHoles x = block(4, 99, 99);
        due(1, x.count(2));
        due(99, x.count(3));
        x.cut(0, 99);
        due(1, x.count(2));
        due(0, x.count(3));
        x.drop(0);
        due(0, x.count(2));
        due(NONE, x.count(3));
        // two rows at one step count once
        MusicHoles y = block(12, 7, 8);
        y.drop(5);
        due(2, y.count(2));
        due(7, y.count(3));
    }

    private static void countSounds() {
        MusicHoles x = block(12, 0, 98);
        x.set(MusicHoles.RUN, 1);
        due(12, x.count(4));
        x.set(MusicHoles.HEAR, 0);
        due(12 * 50, x.count(4));
        due(1, single(0, 0, 0).count(4));
        due(1, single(11, 99, 99).count(4));
        // the sound that the accent makes on a track without notes
        MusicHoles y = single(11, 99, 99);
        y.accent(0, true);
        due(2, y.count(4));
    }

    private static void countGaps() {
        for (int hear = 0; hear <= 4; hear++) {
            for (int bridges = 1; bridges <= 4; bridges++) {
                due(bridges > hear ? 1 : 0, gap(bridges, hear).count(5));
            }
        }
        MusicHoles x = gap(3, 1);
        x.note(5, 20, 21);
        x.note(6, 20, 30);
        due(2, x.count(5));
    }

    private static void countGreatest() {
        MusicHoles x = single(0, 0, 0);
        due(0, x.count(6));
        x.note(1, 0, 99);
        x.note(2, 50, 60);
        due(99, x.count(6));
        x.drop(1);
        due(60, x.count(6));
        x.drop(1);
        x.drop(0);
        due(NONE, x.count(6));
    }

    private static void countPad() {
        MusicHoles x = new MusicHoles();
        for (int length = 0; length <= 60; length++) {
            due(length, x.count(11));
            x.put('a');
        }
        due(60, x.count(11));
    }

    private static void countUndone() {
        MusicHoles x = new MusicHoles();
        for (int changes = 0; changes <= 9; changes++) {
            due(Math.min(6, changes), x.count(12));
            x.set(MusicHoles.RUN, 3);
        }
        for (int left = 5; left >= 0; left--) {
            x.undo();
            due(left, x.count(12));
        }
    }

    // ---- promise 15

    private static void bestShift() {
        test("15: NO_SUCH if there is no such note", AnswersTest::bestShiftNone);
        test("15: BAD_VALUE if what is neither 0 nor 1", AnswersTest::bestShiftWhat);
        test("15: the shift, 0 to 12", AnswersTest::bestShiftRange);
        test("15: of several the lowest one", AnswersTest::bestShiftLowest);
        test("15: at how many steps the paper is weak then", AnswersTest::bestShiftSteps);
        test("15: the shift that the note has does not matter, and stays", AnswersTest::bestShiftOwn);
    }

    private static void bestShiftNone() {
        due(NO_SUCH, new MusicHoles().bestShift(0, 0));
        MusicHoles x = full();
        for (int note : new int[] {LOW, -1, 40, HIGH}) {
            due(NO_SUCH, x.bestShift(note, 0));
            due(NO_SUCH, x.bestShift(note, 1));
        }
        due(0, x.bestShift(39, 0));
        due(10, x.bestShift(39, 1));
    }

    private static void bestShiftWhat() {
        MusicHoles x = single(0, 0, 9);
        for (int what : new int[] {LOW, -1, 2, HIGH}) {
            due(BAD_VALUE, x.bestShift(0, what));
        }
        due(0, x.bestShift(0, 0));
        due(0, x.bestShift(0, 1));
    }

    private static void bestShiftRange() {
        // RUN 9, BRIDGE 4: the steps 9 less the shift .. 12 less the shift are bridges, and 13 later again
        for (int shift = 0; shift <= 12; shift++) {
            int first = shift <= 8 ? 9 - shift : 22 - shift;
            MusicHoles x = single(0, 0, 40);
            x.set(MusicHoles.RUN, 9);
            x.set(MusicHoles.BRIDGE, 4);
            x.set(MusicHoles.WEAK, 2);
            x.note(1, first, first + 3);
            due(shift, x.bestShift(0, 0));
            due(0, x.bestShift(0, 1));
        }
    }

    private static void bestShiftLowest() {
        due(0, single(0, 0, 99).bestShift(0, 0));
        MusicHoles x = single(0, 0, 40);
        x.set(MusicHoles.RUN, 9);
        x.set(MusicHoles.WEAK, 2);
        x.note(1, 15, 15);
        // 4 and no other one, as 14 is beyond the greatest
        due(4, x.bestShift(0, 0));
        x.drop(1);
        x.note(1, 18, 18);
        // 1, and 11 as well
        due(1, x.bestShift(0, 0));
        x.drop(1);
        x.note(1, 40, 40);
        // the last step is a hole with each
        due(0, x.bestShift(0, 0));
        due(1, x.bestShift(0, 1));
    }

    private static void bestShiftSteps() {
        // weak at steps that have nothing to do with the note, at all 100 of them
        MusicHoles x = single(0, 0, 99);
        x.set(MusicHoles.WEAK, 2);
        for (int track = 1; track < 4; track++) {
            x.note(track, 0, 99);
            x.shift(track, track);
        }
        x.note(9, 0, 99);
        due(100, x.bestShift(4, 1));
        due(0, x.bestShift(4, 0));
        due(0, single(0, 0, 99).bestShift(0, 1));
    }

    private static void bestShiftOwn() {
        MusicHoles x = single(0, 0, 40);
        x.set(MusicHoles.RUN, 9);
        x.set(MusicHoles.WEAK, 2);
        x.note(1, 18, 18);
        for (int shift : new int[] {0, 1, 11, 12}) {
            x.shift(0, shift);
            due(1, x.bestShift(0, 0));
            due(0, x.bestShift(0, 1));
            due(shift, x.of(0, 3));
            due(shift == 1 || shift == 11 ? 0 : 1, x.count(2));
        }
    }

    // ---- promise 16

    private static void greatestRun() {
        test("16: the greatest RUN, 1 to 9", AnswersTest::greatestRunEach);
        test("16: NONE if there is none", AnswersTest::greatestRunNone);
        test("16: with which the paper is weak nowhere", AnswersTest::greatestRunNowhere);
        test("16: the RUN that is set does not matter, and stays", AnswersTest::greatestRunOwn);
    }

    private static void greatestRunEach() {
        due(9, new MusicHoles().greatestRun());
        // a hole beside the step that is a bridge with RUN 1 to 9 at the greatest
        for (int run = 1; run <= 9; run++) {
            MusicHoles x = single(0, 0, 99);
            x.set(MusicHoles.WEAK, 2);
            x.note(1, run, run);
            due(run, x.greatestRun());
        }
    }

    private static void greatestRunNone() {
        MusicHoles x = single(0, 0, 99);
        x.set(MusicHoles.WEAK, 2);
        // the step 10 would be a bridge with RUN 10 alone
        x.note(1, 10, 10);
        due(NONE, x.greatestRun());
        MusicHoles y = block(12, 0, 0);
        y.set(MusicHoles.WEAK, 12);
        due(NONE, y.greatestRun());
        y.drop(0);
        due(9, y.greatestRun());
    }

    private static void greatestRunNowhere() {
        MusicHoles x = single(0, 0, 99);
        x.set(MusicHoles.WEAK, 2);
        x.note(1, 9, 9);
        due(9, x.greatestRun());
        // one weak step is too much, at 0 and at 99, too
        x.note(1, 99, 99);
        due(NONE, x.greatestRun());
        x.drop(2);
        x.note(1, 0, 0);
        due(NONE, x.greatestRun());
        // a greater one may hold where a lower one does not
        MusicHoles y = single(0, 0, 99);
        y.set(MusicHoles.WEAK, 2);
        y.note(1, 5, 5);
        y.set(MusicHoles.RUN, 3);
        due(1, y.count(2));
        due(5, y.greatestRun());
    }

    private static void greatestRunOwn() {
        MusicHoles x = single(0, 0, 99);
        x.set(MusicHoles.WEAK, 2);
        x.note(1, 4, 4);
        for (int run : new int[] {1, 4, 9}) {
            x.set(MusicHoles.RUN, run);
            due(4, x.greatestRun());
            due(run, x.count(7));
        }
    }

    // ---- promise 17

    private static void swallowed() {
        test("17: NO_SUCH if there is no such track", AnswersTest::swallowedTrack);
        test("17: whose first step lies in a sound that began ahead of it", AnswersTest::swallowedGap);
        test("17: a note at the step 0, and one without any ahead", AnswersTest::swallowedFirst);
        test("17: an accent's hole begins a sound, too", AnswersTest::swallowedByAccent);
        test("17: how many notes", AnswersTest::swallowedMany);
    }

    private static void swallowedTrack() {
        MusicHoles x = block(12, 5, 5);
        for (int track = 0; track < 12; track++) {
            x.note(track, 6, 6);
        }
        for (int track : new int[] {LOW, -1, 12, HIGH}) {
            due(NO_SUCH, x.swallowed(track));
        }
        due(1, x.swallowed(0));
        due(1, x.swallowed(11));
        due(0, new MusicHoles().swallowed(0));
        due(0, new MusicHoles().swallowed(11));
    }

    private static void swallowedGap() {
        for (int hear = 0; hear <= 4; hear++) {
            for (int gap = 0; gap <= 6; gap++) {
                MusicHoles x = single(6, 10, 20);
                x.set(MusicHoles.HEAR, hear);
                x.note(6, 21 + gap, 99);
                due(gap <= hear ? 1 : 0, x.swallowed(6));
            }
        }
    }

    private static void swallowedFirst() {
        MusicHoles x = single(6, 0, 0);
        x.set(MusicHoles.HEAR, 4);
        due(0, x.swallowed(6));
        due(0, single(6, 99, 99).swallowed(6));
        // its own sound goes on behind it
        due(0, single(6, 0, 99).swallowed(6));
    }

    private static void swallowedByAccent() {
        for (int step = 6; step <= 10; step++) {
            MusicHoles x = single(6, 9, 12);
            x.note(5, step, step);
            int accented = step <= 9 ? 0 : 1;
            due(0, x.swallowed(6));
            x.accent(accented, true);
            // heard at the step and at the next one; at 9 the sound begins with the note
            due(step == 7 || step == 8 ? 1 : 0, x.swallowed(6));
            due(0, x.swallowed(5));
        }
        MusicHoles y = single(10, 9, 9);
        y.note(11, 8, 8);
        due(0, y.swallowed(10));
        y.accent(0, true);
        due(1, y.swallowed(10));
    }

    private static void swallowedMany() {
        MusicHoles x = new MusicHoles();
        for (int step = 0; step < 40; step++) {
            x.note(6, step, step);
        }
        due(39, x.swallowed(6));
        due(0, x.swallowed(5));
        due(0, x.swallowed(7));
        x.set(MusicHoles.HEAR, 0);
        due(39, x.swallowed(6));
        x.drop(20);
        due(37, x.swallowed(6));
        x.set(MusicHoles.HEAR, 1);
        due(38, x.swallowed(6));
    }

    // ---- promise 18

    private static void freeGoal() {
        test("18: from: 0 to 99", AnswersTest::freeGoalFrom);
        test("18: to: from to 99", AnswersTest::freeGoalTo);
        test("18: the least step, 0 to 99", AnswersTest::freeGoalLeast);
        test("18: NONE if there is none", AnswersTest::freeGoalNone);
        test("18: NONE if no note lies wholly between both", AnswersTest::freeGoalNoNote);
        test("18: a copy to the step succeeds, to each lower one it does not", AnswersTest::freeGoalCopies);
    }

    private static void freeGoalFrom() {
        MusicHoles x = single(0, 0, 0);
        x.note(0, 99, 99);
        for (int from : new int[] {LOW, -1, 100, HIGH}) {
            due(BAD_VALUE, x.freeGoal(from, 99));
            due(BAD_VALUE, x.freeGoal(from, from));
        }
        due(1, x.freeGoal(0, 0));
        due(1, x.freeGoal(99, 99));
    }

    private static void freeGoalTo() {
        MusicHoles x = single(0, 50, 50);
        for (int to : new int[] {LOW, -1, 49, 100, HIGH}) {
            due(BAD_VALUE, x.freeGoal(50, to));
        }
        due(0, x.freeGoal(50, 50));
        due(0, x.freeGoal(50, 99));
        due(0, x.freeGoal(49, 50));
    }

    private static void freeGoalLeast() {
        for (int last = 0; last < 99; last++) {
            MusicHoles x = single(0, 0, last);
            x.note(0, 99, 99);
            // the one step between both is free, or there are more
            due(last == 98 ? NONE : last + 1, x.freeGoal(99, 99));
        }
        MusicHoles y = single(0, 0, 97);
        y.note(0, 98, 98);
        due(99, y.freeGoal(98, 98));
        MusicHoles z = single(0, 50, 50);
        due(0, z.freeGoal(50, 50));
    }

    private static void freeGoalNone() {
        due(NONE, single(0, 0, 99).freeGoal(0, 99));
        due(NONE, single(0, 0, 50).freeGoal(0, 99));
        due(50, single(0, 0, 49).freeGoal(0, 99));
        // the note may not end behind 99: it begins 60 steps behind the first one of the passage
        MusicHoles x = single(0, 60, 79);
        due(20, single(0, 0, 19).freeGoal(0, 99));
        due(0, single(0, 20, 39).freeGoal(20, 99));
        due(20, x.freeGoal(0, 99));
        due(NONE, single(0, 60, 80).freeGoal(0, 99));
        // nor may there be more than 40
        MusicHoles y = full();
        due(NONE, y.freeGoal(0, 0));
        y.drop(39);
        y.drop(38);
        y.drop(37);
        due(NONE, y.freeGoal(0, 0));
        y.drop(36);
        due(1, y.freeGoal(0, 0));
    }

    private static void freeGoalNoNote() {
        due(NONE, new MusicHoles().freeGoal(0, 99));
        due(NONE, new MusicHoles().freeGoal(99, 99));
        MusicHoles x = single(0, 10, 19);
        due(NONE, x.freeGoal(11, 99));
        due(NONE, x.freeGoal(0, 18));
        due(0, x.freeGoal(10, 19));
        due(NONE, x.freeGoal(20, 99));
    }

    private static void freeGoalCopies() {
        // at 0 to 4 the first note would be in the way, at 5 (with the steps 5 to 7, and 10) nothing is
        MusicHoles x = single(0, 0, 4);
        x.note(1, 6, 9);
        x.note(0, 20, 22);
        x.note(1, 25, 25);
        due(5, copiedFirst(x, 20, 25));
        // then 8 to 10 are free, but 13 is not, which the other note would take
        x.note(1, 13, 13);
        due(9, copiedFirst(x, 20, 25));
        MusicHoles y = single(0, 0, 5);
        y.note(0, 7, 7);
        y.note(0, 10, 12);
        due(13, copiedFirst(y, 10, 12));
    }

    /** The goal, when a copy to each lower step has failed, and one to it has not. */
    private static int copiedFirst(MusicHoles x, int from, int to) {
        int goal = x.freeGoal(from, to);
        for (int lower = 0; lower < goal; lower++) {
            due(NOT_POSSIBLE, x.copy(from, to, lower));
        }
        due(true, x.copy(from, to, goal) > 0);
        return goal;
    }
}
