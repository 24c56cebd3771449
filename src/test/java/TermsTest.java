/** The sentences of "Terms" at their edges, each by a test of its own. */
public final class TermsTest extends Check {
    public static void main(String[] args) {
        conventions();
        settings();
        rollAndNotes();
        holes();
        weakness();
        hearing();
        texts();
        end("TermsTest");
    }

    // ---- CONVENTIONS

    private static void conventions() {
        test("the error codes, and NONE", TermsTest::codes);
        test("NONE is returned only if no error applies", TermsTest::noneBehindErrors);
        test("NONE is not an error", TermsTest::noneIsNoError);
        test("Everything is numbered from 0", TermsTest::numberedFromZero);
        test("Sets of tracks are bit masks", TermsTest::bitMasks);
    }

    private static void codes() {
        due(-1, NO_SUCH);
        due(-2, BAD_VALUE);
        due(-3, BAD_TEXT);
        due(-4, TOO_MANY);
        due(-5, NOT_POSSIBLE);
        due(-6, NONE);
    }

    private static void noneBehindErrors() {
        MusicHoles x = new MusicHoles();
        due(NONE, x.count(3));
        due(NONE, x.count(6));
        due(BAD_VALUE, x.count(-1));
        due(BAD_VALUE, x.count(13));
        due(NONE, x.freeGoal(0, 99));
        due(BAD_VALUE, x.freeGoal(-1, 99));
        due(BAD_VALUE, x.freeGoal(0, 100));
        due(BAD_VALUE, x.freeGoal(1, 0));
    }

    private static void noneIsNoError() {
        MusicHoles x = withPad("1:2-3");
        due(NONE, x.fault());
        due(1, x.read());
    }

    private static void numberedFromZero() {
        MusicHoles x = new MusicHoles();
        due(3, x.set(0, 3));
        due(BAD_VALUE, x.set(-1, 3));
        due(0, x.note(0, 0, 0));
        due(NO_SUCH, x.note(-1, 0, 0));
        due(BAD_VALUE, x.note(0, -1, 0));
        due(0, x.of(0, 0));
        due(NO_SUCH, x.of(-1, 0));
        due(0, x.sound(0, 0, 0));
        due(NO_SUCH, x.sound(0, -1, 0));
        due(1, x.save(0));
        due(BAD_VALUE, x.save(-1));
        due(0, faultOf("x"));
    }

    private static void bitMasks() {
        for (int track = 0; track < 12; track++) {
            MusicHoles x = single(track, 40, 44);
            due(1 << track, x.at(40, 0));
            due(1 << track, x.at(43, 1));
            due(1 << track, x.at(43, 2));
        }
        MusicHoles x = block(12, 40, 44);
        due(4095, x.at(40, 0));
        due(4095, x.at(43, 1));
        due(4095, x.at(43, 2));
        due(0, x.at(39, 0));
        due(0, x.at(39, 1));
        due(0, x.at(39, 2));
    }

    // ---- Settings

    private static void settings() {
        test("RUN (1 to 9; 3)", () -> setting(MusicHoles.RUN, 1, 9, 3));
        test("BRIDGE (1 to 4; 1)", () -> setting(MusicHoles.BRIDGE, 1, 4, 1));
        test("HEAR (0 to 4; 1)", () -> setting(MusicHoles.HEAR, 0, 4, 1));
        test("WEAK (2 to 12; 4)", () -> setting(MusicHoles.WEAK, 2, 12, 4));
        test("RUN = 0, BRIDGE = 1, HEAR = 2, WEAK = 3", TermsTest::settingNumbers);
    }

    private static void setting(int setting, int least, int greatest, int atFirst) {
        MusicHoles x = new MusicHoles();
        due(atFirst, x.count(7 + setting));
        due(BAD_VALUE, x.set(setting, least - 1));
        due(BAD_VALUE, x.set(setting, greatest + 1));
        due(BAD_VALUE, x.set(setting, LOW));
        due(BAD_VALUE, x.set(setting, HIGH));
        due(atFirst, x.count(7 + setting));
        int previous = atFirst;
        for (int value = least; value <= greatest; value++) {
            due(previous, x.set(setting, value));
            due(value, x.count(7 + setting));
            previous = value;
        }
    }

    private static void settingNumbers() {
        due(0, MusicHoles.RUN);
        due(1, MusicHoles.BRIDGE);
        due(2, MusicHoles.HEAR);
        due(3, MusicHoles.WEAK);
    }

    // ---- Roll, notes

    private static void rollAndNotes() {
        test("There are 12 tracks, 0 to 11", TermsTest::tracks);
        test("There are steps, 0 to 99", TermsTest::steps);
        test("There are up to 40 notes", TermsTest::fortyNotes);
        test("A note has a first and a last step (not less)", TermsTest::lastNotLess);
        test("A note has a shift (0 to 12; 0 at first)", TermsTest::shifts);
        test("A note has an accent, or not", TermsTest::accents);
        test("Two notes of a track have no step in common", TermsTest::noStepInCommon);
        test("Notes are numbered in the order of their first steps", TermsTest::orderOfSteps);
        test("of several in that of their tracks", TermsTest::orderOfTracks);
    }

    private static void tracks() {
        MusicHoles x = new MusicHoles();
        due(NO_SUCH, x.note(-1, 5, 6));
        due(NO_SUCH, x.note(12, 5, 6));
        for (int track = 0; track < 12; track++) {
            due(track, x.note(track, 5, 6));
        }
        due(12, x.count(0));
    }

    private static void steps() {
        MusicHoles x = new MusicHoles();
        due(BAD_VALUE, x.note(0, -1, -1));
        due(BAD_VALUE, x.note(0, -1, 5));
        due(BAD_VALUE, x.note(0, 100, 100));
        due(BAD_VALUE, x.note(0, 5, 100));
        due(0, x.note(0, 0, 99));
        due(1, x.note(1, 0, 0));
        due(2, x.note(1, 99, 99));
        due(BAD_VALUE, x.at(-1, 0));
        due(3, x.at(0, 2));
        due(3, x.at(99, 2));
        due(BAD_VALUE, x.at(100, 0));
    }

    private static void fortyNotes() {
        MusicHoles x = new MusicHoles();
        for (int i = 0; i < 40; i++) {
            due(i, x.note(0, i, i));
        }
        due(TOO_MANY, x.note(1, 50, 50));
        due(40, x.count(0));
        due(39, x.of(39, 1));
        due(NO_SUCH, x.of(40, 1));
    }

    private static void lastNotLess() {
        MusicHoles x = new MusicHoles();
        due(BAD_VALUE, x.note(0, 7, 6));
        due(BAD_VALUE, x.note(0, 99, 0));
        due(0, x.note(0, 7, 7));
        due(1, x.note(0, 8, 9));
    }

    private static void shifts() {
        MusicHoles x = single(0, 0, 30);
        due(0, x.of(0, 3));
        due(BAD_VALUE, x.shift(0, -1));
        due(BAD_VALUE, x.shift(0, 13));
        for (int shift = 0; shift <= 12; shift++) {
            due(Math.max(0, shift - 1), x.shift(0, shift));
            due(shift, x.of(0, 3));
        }
    }

    private static void accents() {
        MusicHoles x = single(0, 0, 30);
        due(0, x.of(0, 4));
        x.accent(0, true);
        due(1, x.of(0, 4));
        x.accent(0, false);
        due(0, x.of(0, 4));
    }

    private static void noStepInCommon() {
        MusicHoles x = single(4, 10, 20);
        due(NOT_POSSIBLE, x.note(4, 10, 20));
        due(NOT_POSSIBLE, x.note(4, 20, 25));
        due(NOT_POSSIBLE, x.note(4, 5, 10));
        due(NOT_POSSIBLE, x.note(4, 15, 15));
        due(NOT_POSSIBLE, x.note(4, 0, 99));
        due(1, x.count(0));
        // side by side there is none in common, and none with another track
        due(1, x.note(4, 21, 25));
        due(0, x.note(4, 5, 9));
        due(1, x.note(3, 10, 20));
        due(3, x.note(5, 10, 20));
    }

    private static void orderOfSteps() {
        MusicHoles x = new MusicHoles();
        due(0, x.note(5, 50, 50));
        due(0, x.note(6, 49, 99));
        due(2, x.note(0, 51, 51));
        due(0, x.note(11, 0, 0));
        due(4, x.note(0, 99, 99));
        due(4, x.drop(3));
        due(99, x.of(3, 1));
    }

    private static void orderOfTracks() {
        MusicHoles x = new MusicHoles();
        due(0, x.note(5, 50, 50));
        due(0, x.note(4, 50, 90));
        due(2, x.note(6, 50, 50));
        due(0, x.note(0, 50, 50));
        due(4, x.note(11, 50, 50));
        for (int note = 0; note < 5; note++) {
            due(new int[] {0, 4, 5, 6, 11}[note], x.of(note, 0));
        }
    }

    // ---- Holes

    private static void holes() {
        test("A note has holes at its first and at its last step", TermsTest::endsAreHoles);
        test("added and left over by RUN + BRIDGE, is less than RUN", TermsTest::pattern);
        test("the pattern with the least and the greatest RUN and BRIDGE", TermsTest::patternEdges);
        test("the pattern with the shift added", TermsTest::patternShifted);
        test("the pattern begins at the first step, wherever that is", TermsTest::patternMoved);
        test("The other steps of a note are bridges", TermsTest::bridges);
        test("A note with an accent has a second hole at its first step", TermsTest::accentAtFirst);
        test("on the track one above its own (of the track 11: on the track 10)", TermsTest::accentTrack);
        test("There is one hole at most at a step of a track", TermsTest::oneHole);
    }

    private static void endsAreHoles() {
        due(".o.", holes(single(0, 1, 1), 0, 0, 2));
        due(".oo.", holes(single(0, 1, 2), 0, 0, 3));
        MusicHoles x = single(2, 0, 99);
        due(4, x.at(0, 0));
        due(4, x.at(99, 0));
        // with the shift 3 the first step, and with the last one 4 steps on it too, would be a bridge
        MusicHoles y = single(0, 10, 14);
        y.shift(0, 3);
        due(".ooooo.", holes(y, 0, 9, 15));
        MusicHoles z = single(0, 10, 13);
        due(".oooo.", holes(z, 0, 9, 14));
        z.set(MusicHoles.RUN, 1);
        z.set(MusicHoles.BRIDGE, 4);
        due(".o..o.", holes(z, 0, 9, 14));
    }

    private static void pattern() {
        due("ooo.ooo.ooo.oo", holes(single(0, 0, 13), 0, 0, 13));
        MusicHoles x = single(0, 0, 20);
        x.set(MusicHoles.RUN, 2);
        x.set(MusicHoles.BRIDGE, 3);
        due("oo...oo...oo...oo...o", holes(x, 0, 0, 20));
    }

    private static void patternEdges() {
        MusicHoles x = single(0, 0, 27);
        x.set(MusicHoles.RUN, 1);
        due("o.o.o.o.o.o.o.o.o.o.o.o.o.oo", holes(x, 0, 0, 27));
        x.set(MusicHoles.BRIDGE, 4);
        due("o....o....o....o....o....o.o", holes(x, 0, 0, 27));
        x.set(MusicHoles.RUN, 9);
        due("ooooooooo....ooooooooo....oo", holes(x, 0, 0, 27));
        x.set(MusicHoles.BRIDGE, 1);
        due("ooooooooo.ooooooooo.oooooooo", holes(x, 0, 0, 27));
    }

    private static void patternShifted() {
        MusicHoles x = single(0, 0, 13);
        String[] rows = {"ooo.ooo.ooo.oo", "oo.ooo.ooo.ooo", "o.ooo.ooo.oooo", "oooo.ooo.ooo.o"};
        for (int shift = 0; shift <= 12; shift++) {
            x.shift(0, shift);
            due(rows[shift % 4], holes(x, 0, 0, 13));
        }
        // the greatest shift is the last step of the longest pattern
        x.set(MusicHoles.RUN, 9);
        x.set(MusicHoles.BRIDGE, 4);
        due("oooooooooo...o", holes(x, 0, 0, 13));
    }

    private static void patternMoved() {
        due("ooo.ooo.oo", holes(single(0, 90, 99), 0, 90, 99));
        due("ooo.ooo.oo", holes(single(0, 37, 46), 0, 37, 46));
        MusicHoles x = single(0, 0, 6);
        x.note(0, 7, 13);
        due("ooo.oooooo.ooo", holes(x, 0, 0, 13));
    }

    private static void bridges() {
        MusicHoles x = single(0, 5, 15);
        due("....ooo.ooo.ooo.", holes(x, 0, 1, 16));
        due(2, x.of(0, 5));
        due(1, x.at(8, 2));
    }

    private static void accentAtFirst() {
        MusicHoles x = single(3, 5, 15);
        due("............", holes(x, 4, 4, 15));
        x.accent(0, true);
        due(".o..........", holes(x, 4, 4, 15));
        due(".ooo.ooo.ooo", holes(x, 3, 4, 15));
        due(0, x.at(5, 2) & 16);
        x.accent(0, false);
        due("............", holes(x, 4, 4, 15));
    }

    private static void accentTrack() {
        for (int track = 0; track < 12; track++) {
            MusicHoles x = single(track, 99, 99);
            x.accent(0, true);
            int beside = track == 11 ? 10 : track + 1;
            due(1 << track | 1 << beside, x.at(99, 0));
            due(1 << track, x.at(99, 2));
        }
    }

    private static void oneHole() {
        MusicHoles x = single(10, 5, 5);
        x.note(11, 5, 5);
        x.accent(0, true);
        x.accent(1, true);
        due(3072, x.at(5, 0));
        due(2, x.count(1));
        x.note(9, 5, 5);
        x.accent(0, true);
        due(3, x.count(1));
        due(3, x.at(5, 3));
    }

    // ---- weak paper

    private static void weakness() {
        test("weak if there are WEAK holes or more", TermsTest::weakOrMore);
        test("on tracks side by side", TermsTest::sideBySide);
        test("holes, not notes, make the paper weak", TermsTest::holesNotNotes);
    }

    private static void weakOrMore() {
        for (int weak = 2; weak <= 12; weak++) {
            for (int tracks = weak - 1; tracks <= Math.min(12, weak + 1); tracks++) {
                MusicHoles x = block(tracks, 99, 99);
                x.set(MusicHoles.WEAK, weak);
                due(tracks, x.at(99, 3));
                due(tracks >= weak ? 1 : 0, x.at(99, 4));
                due(tracks >= weak ? 1 : 0, x.count(2));
            }
        }
    }

    private static void sideBySide() {
        MusicHoles x = new MusicHoles();
        for (int track : new int[] {0, 1, 2, 4, 5, 6, 8, 9, 10, 11}) {
            x.note(track, 0, 0);
        }
        due(4, x.at(0, 3));
        due(1, x.at(0, 4));
        x.drop(9);
        // 0 1 2, 4 5 6 and 8 9 10: nine holes, but three side by side
        due(3, x.at(0, 3));
        due(0, x.at(0, 4));
        x.note(11, 0, 0);
        x.drop(6);
        // 9 10 11 and 0 1 2: the track 11 is not beside the track 0
        due(3, x.at(0, 3));
        due(0, x.at(0, 4));
    }

    private static void holesNotNotes() {
        MusicHoles x = block(4, 0, 8);
        due(1, x.at(2, 4));
        due(0, x.at(3, 4));
        due(0, x.at(3, 3));
        due(1, x.at(4, 4));
        // an accent makes a hole, too
        MusicHoles y = block(3, 0, 8);
        due(0, y.at(0, 4));
        y.accent(2, true);
        due(1, y.at(0, 4));
        due(0, y.at(1, 4));
    }

    // ---- What is heard

    private static void hearing() {
        test("The tracker hears a track at a hole, and at the HEAR steps behind it", TermsTest::hearSteps);
        test("of this track", TermsTest::hearThisTrack);
        test("whoever makes it", TermsTest::hearAnyHole);
        test("A sound is a greatest row of steps at which the track is heard", TermsTest::greatestRows);
        test("It can go on behind the step 99: it ends at 99 then", TermsTest::soundAtTheEnd);
    }

    private static void hearSteps() {
        String[] rows = {"..o.......", "..oo......", "..ooo.....", "..oooo....", "..ooooo..."};
        for (int hear = 0; hear <= 4; hear++) {
            MusicHoles x = single(7, 42, 42);
            x.set(MusicHoles.HEAR, hear);
            due(rows[hear], heard(x, 7, 40, 49));
            MusicHoles y = single(7, 0, 0);
            y.set(MusicHoles.HEAR, hear);
            due(rows[hear].substring(2), heard(y, 7, 0, 7));
        }
    }

    private static void hearThisTrack() {
        MusicHoles x = single(7, 42, 42);
        x.set(MusicHoles.HEAR, 4);
        for (int step = 42; step <= 46; step++) {
            due(128, x.at(step, 1));
        }
        due(0, x.at(41, 1));
        due(0, x.at(47, 1));
    }

    private static void hearAnyHole() {
        MusicHoles x = single(7, 42, 42);
        x.accent(0, true);
        due(384, x.at(42, 1));
        due(384, x.at(43, 1));
        due(0, x.at(44, 1));
        // a hole that another note's accent makes in a long bridge
        MusicHoles y = single(8, 40, 46);
        y.set(MusicHoles.RUN, 1);
        y.set(MusicHoles.BRIDGE, 4);
        due("oo...ooo.", heard(y, 8, 40, 48));
        y.note(7, 42, 42);
        y.accent(1, true);
        due("oooo.ooo.", heard(y, 8, 40, 48));
    }

    private static void greatestRows() {
        for (int hear = 0; hear <= 4; hear++) {
            // the second hole comes at the first step that would not be heard, then one later
            MusicHoles x = single(0, 10, 10);
            x.set(MusicHoles.HEAR, hear);
            x.note(0, 11 + hear, 11 + hear);
            due(1, x.count(4));
            due(10, x.sound(0, 0, 0));
            due(11 + 2 * hear, x.sound(0, 0, 1));
            x.drop(1);
            x.note(0, 12 + hear, 12 + hear);
            due(2, x.count(4));
            due(10 + hear, x.sound(0, 0, 1));
            due(12 + hear, x.sound(0, 1, 0));
            due(12 + 2 * hear, x.sound(0, 1, 1));
        }
    }

    private static void soundAtTheEnd() {
        for (int hear = 0; hear <= 4; hear++) {
            for (int first = 95; first <= 99; first++) {
                MusicHoles x = single(3, first, first);
                x.set(MusicHoles.HEAR, hear);
                due(first, x.sound(3, 0, 0));
                due(Math.min(99, first + hear), x.sound(3, 0, 1));
            }
        }
    }

    // ---- Texts

    private static void texts() {
        test("The pad is a text of at most 60 characters", TermsTest::sixtyCharacters);
        test("a track is a number from 0 to 11", TermsTest::trackNumbers);
        test("a step is a number from 0 to 99", TermsTest::stepNumbers);
        test("without leading zeros", TermsTest::leadingZeros);
        test("'!': it has an accent", TermsTest::exclamation);
        test("text = note { ';' note }", TermsTest::severalNotes);
        test("the first character that cannot stand at its place", TermsTest::wrongCharacters);
        test("a digit by which a number would be too great", TermsTest::tooGreat);
        test("whether the second step is less than the first one does not matter", TermsTest::turnedSteps);
        test("the text ends too early: the length of the text", TermsTest::tooEarly);
        test("also if it is empty", () -> due(0, new MusicHoles().fault()));
    }

    private static void sixtyCharacters() {
        MusicHoles x = withPad(TEN_NOTES);
        due(59, x.count(11));
        due(60, x.put('!'));
        due(TOO_MANY, x.put('!'));
        due(60, x.count(11));
        due(NONE, x.fault());
        due(10, x.read());
    }

    private static void trackNumbers() {
        for (int track = 0; track <= 11; track++) {
            MusicHoles x = withPad(track + ":4-5");
            due(NONE, x.fault());
            due(1, x.read());
            due(track, x.of(0, 0));
        }
        for (int track = 12; track <= 99; track++) {
            due(1, faultOf(track + ":4-5"));
        }
        due(2, faultOf("110:4-5"));
        due(2, faultOf("100:4-5"));
    }

    private static void stepNumbers() {
        for (int step = 0; step <= 99; step++) {
            MusicHoles x = withPad("1:" + step + "-" + step);
            due(NONE, x.fault());
            due(1, x.read());
            dueSteps(x, 0, step, step);
            due(step < 10 ? 4 : 5, faultOf("1:" + step + "-!"));
        }
        for (int step = 100; step <= 999; step += 31) {
            due(4, faultOf("1:" + step + "-5"));
            due(6, faultOf("1:2-" + step));
        }
    }

    private static void leadingZeros() {
        due(1, faultOf("00:4-5"));
        due(1, faultOf("01:4-5"));
        due(3, faultOf("1:00-5"));
        due(3, faultOf("1:04-5"));
        due(5, faultOf("1:4-00"));
        due(5, faultOf("1:4-05"));
        due(NONE, faultOf("0:0-0"));
        due(NONE, faultOf("10:10-10"));
    }

    private static void exclamation() {
        MusicHoles x = withPad("1:4-5!;2:4-5;3:4-5!");
        due(3, x.read());
        due(1, x.of(0, 4));
        due(0, x.of(1, 4));
        due(1, x.of(2, 4));
        due(0, faultOf("!"));
        due(1, faultOf("1!"));
        due(2, faultOf("1:!"));
        due(3, faultOf("1:4!"));
        due(4, faultOf("1:4-!"));
        due(6, faultOf("1:4-5!!"));
        due(6, faultOf("1:4-5;!"));
    }

    private static void severalNotes() {
        MusicHoles x = withPad(TEN_NOTES);
        due(NONE, x.fault());
        due(10, x.read());
        for (int note = 0; note < 10; note++) {
            due(note, x.of(note, 0));
        }
        due(0, faultOf(";"));
        due(0, faultOf(";1:4-5"));
        due(6, faultOf("1:4-5;;1:4-5"));
        due(6, faultOf("1:4-5!1:4-5"));
        due(5, faultOf("1:4-5,1:4-5"));
    }

    private static void wrongCharacters() {
        // each place of a text with every character that the pad can hold
        String text = "1:2-3!;4";
        String[] standing = {"0123456789", "01:", "0123456789", "0123456789-", "0123456789", "0123456789!;", ";", "0123456789"};
        for (int place = 0; place < text.length(); place++) {
            for (char sign = 33; sign <= 126; sign++) {
                int fault = faultOf(text.substring(0, place) + sign + "?");
                due(standing[place].indexOf(sign) >= 0 ? place + 1 : place, fault);
            }
        }
        due(2, faultOf("1:?"));
        due(7, faultOf("1:20-30x"));
    }

    private static void tooGreat() {
        due(1, faultOf("12"));
        due(1, faultOf("20"));
        due(1, faultOf("99"));
        due(2, faultOf("10"));
        due(2, faultOf("11"));
        due(4, faultOf("1:99"));
        due(4, faultOf("1:990"));
        due(4, faultOf("1:100"));
        due(NONE, faultOf("1:2-99"));
        due(6, faultOf("1:2-990"));
        due(6, faultOf("1:2-100"));
    }

    private static void turnedSteps() {
        MusicHoles x = withPad("1:99-0!;1:5-4");
        due(NONE, x.fault());
        due(BAD_VALUE, x.read());
    }

    private static void tooEarly() {
        String text = "11:20-30!;0:5-6";
        boolean[] whole = new boolean[16];
        whole[7] = true;
        whole[8] = true;
        whole[9] = true;
        whole[15] = true;
        for (int length = 0; length <= 15; length++) {
            due(whole[length] ? NONE : length, faultOf(text.substring(0, length)));
        }
        due(60, faultOf(TEN_NOTES + ";"));
    }
}
