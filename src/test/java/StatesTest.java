/** The sentences of the promises 19 to 24 at their edges, each by a test of its own. */
public final class StatesTest extends Check {
    public static void main(String[] args) {
        put();
        wipe();
        fault();
        undo();
        save();
        restore();
        end("StatesTest");
    }

    // ---- promise 19

    private static void put() {
        test("19: the lowest 8 bits are the last character", StatesTest::putOrder);
        test("19: 1 to 8 characters", StatesTest::putMany);
        test("19: BAD_VALUE if there is no character", StatesTest::putNone);
        test("19: BAD_VALUE if a code is not 33 to 126", StatesTest::putCodes);
        test("19: BAD_VALUE if a bit above 8 bits that are 0 is not 0", StatesTest::putBitsAbove);
        test("19: TOO_MANY if the pad would be longer than 60", StatesTest::putTooMany);
        test("19: appends, and returns the length of the pad then", StatesTest::putAppends);
    }

    private static void putOrder() {
        MusicHoles x = new MusicHoles();
        due(6, x.put('1' * 0x10000000000L + ':' * 0x100000000L + '2' * 0x1000000L + '-' * 0x10000L + '3' * 0x100L + '!'));
        due(1, x.read());
        dueNote(x, 0, 1, 2, 3, 0, 1);
        MusicHoles y = new MusicHoles();
        due(8, y.put(packed("11:22-33")));
        due(1, y.read());
        dueNote(y, 0, 11, 22, 33, 0, 0);
    }

    private static void putMany() {
        long characters = 0;
        for (int many = 1; many <= 8; many++) {
            characters = characters << 8 | 'a';
            due(many, new MusicHoles().put(characters));
        }
    }

    private static void putNone() {
        MusicHoles x = new MusicHoles();
        due(BAD_VALUE, x.put(0));
        for (int bit = 8; bit < 64; bit++) {
            due(BAD_VALUE, x.put(1L << bit));
        }
        due(BAD_VALUE, x.put(packed("a") << 8));
        due(0, x.count(11));
    }

    private static void putCodes() {
        MusicHoles x = new MusicHoles();
        for (int code = 1; code <= 255; code++) {
            boolean good = code >= 33 && code <= 126;
            due(good ? 1 : BAD_VALUE, x.put(code));
            x.wipe();
        }
        // at each of the 8 places
        for (int place = 0; place < 8; place++) {
            long others = 0x6161616161616161L & ~(255L << 8 * place);
            for (int code : new int[] {32, 127, 128, 255, 1}) {
                due(BAD_VALUE, new MusicHoles().put(others | (long) code << 8 * place));
            }
            for (int code : new int[] {33, 126}) {
                due(8, new MusicHoles().put(others | (long) code << 8 * place));
            }
        }
        due(BAD_VALUE, new MusicHoles().put(-1L));
        due(BAD_VALUE, new MusicHoles().put(Long.MIN_VALUE));
        due(BAD_VALUE, new MusicHoles().put(Long.MAX_VALUE));
    }

    private static void putBitsAbove() {
        // below the bits that are 0 stand 1 to 6 good characters, above them one bit
        long characters = 0;
        for (int many = 1; many <= 6; many++) {
            characters = characters << 8 | 'a';
            for (int bit = 8 * many + 8; bit < 64; bit++) {
                due(BAD_VALUE, new MusicHoles().put(characters | 1L << bit));
            }
            due(many, new MusicHoles().put(characters));
        }
        // and a whole good character
        due(BAD_VALUE, new MusicHoles().put(packed("a") << 16 | 'a'));
        due(BAD_VALUE, new MusicHoles().put(packed("a") << 56 | 'a'));
    }

    private static void putTooMany() {
        for (int many = 1; many <= 8; many++) {
            String text = "aaaaaaaa".substring(0, many);
            MusicHoles x = withPad("a".repeat(60 - many));
            due(60, x.put(packed(text)));
            MusicHoles y = withPad("a".repeat(61 - many));
            due(TOO_MANY, y.put(packed(text)));
            due(61 - many, y.count(11));
        }
        MusicHoles z = withPad("a".repeat(60));
        due(TOO_MANY, z.put('a'));
        due(60, z.wipe());
        due(1, z.put('a'));
    }

    private static void putAppends() {
        MusicHoles x = new MusicHoles();
        due(2, x.put(packed("1:")));
        due(3, x.put('2'));
        due(5, x.put(packed("-3")));
        due(5, x.count(11));
        due(0, x.count(12));
        due(1, x.read());
        dueNote(x, 0, 1, 2, 3, 0, 0);
    }

    // ---- promise 20

    private static void wipe() {
        test("20: empties the pad, and returns the length that it had", StatesTest::wipeLength);
        test("20: the roll stays", StatesTest::wipeKeeps);
    }

    private static void wipeLength() {
        MusicHoles x = new MusicHoles();
        due(0, x.wipe());
        x.put('a');
        due(1, x.wipe());
        due(0, x.wipe());
        type(x, "a".repeat(60));
        due(60, x.wipe());
        due(0, x.count(11));
        due(0, x.fault());
        due(5, type(x, "1:2-3"));
        due(NONE, x.fault());
    }

    private static void wipeKeeps() {
        MusicHoles x = rich();
        due(12, x.wipe());
        type(x, "5:0-3;6:1-1!");
        due(seen(rich()), seen(x));
    }

    // ---- promise 21

    private static void fault() {
        test("21: the fault of the pad, NONE if there is none", StatesTest::faultOrNone);
        test("21: the pad stays", StatesTest::faultKeeps);
    }

    private static void faultOrNone() {
        due(0, new MusicHoles().fault());
        due(NONE, faultOf("0:0-0"));
        due(NONE, faultOf(TEN_NOTES + "!"));
        due(59, faultOf(TEN_NOTES + "x"));
        due(60, faultOf(TEN_NOTES + ";"));
        due(0, faultOf("x".repeat(60)));
        // a note that was taken out of the pad leaves nothing behind
        MusicHoles x = withPad("0:0-0;1:1-1");
        x.wipe();
        type(x, "2:2");
        due(3, x.fault());
        due(BAD_TEXT, x.read());
    }

    private static void faultKeeps() {
        MusicHoles x = rich();
        due(NONE, x.fault());
        due(NONE, x.fault());
        due(seen(rich()), seen(x));
    }

    // ---- promise 22

    private static void undo() {
        test("22: a history of at most 6 states", StatesTest::undoSix);
        test("22: when one more is recorded, the oldest one is dropped", StatesTest::undoOldest);
        test("22: NOT_POSSIBLE if there is none", StatesTest::undoNone);
        test("22: each method that is a change records", StatesTest::undoEachChange);
        test("22: (also if nothing is different then)", StatesTest::undoNoDifference);
        test("22: no other method records", StatesTest::undoNoOthers);
        test("22: everything is as it was before it", StatesTest::undoEverything);
        test("22: except the pad, the slots and the history", StatesTest::undoExcept);
        test("22: a state that was undone is gone", StatesTest::undoGone);
    }

    private static void undoSix() {
        for (int changes = 0; changes <= 8; changes++) {
            MusicHoles x = new MusicHoles();
            for (int i = 0; i < changes; i++) {
                x.note(0, i, i);
            }
            int kept = Math.min(6, changes);
            due(kept, x.count(12));
            for (int left = kept - 1; left >= 0; left--) {
                due(left, x.undo());
                due(changes - kept + left, x.count(0));
            }
            due(NOT_POSSIBLE, x.undo());
        }
    }

    private static void undoOldest() {
        MusicHoles x = new MusicHoles();
        for (int i = 0; i < 20; i++) {
            x.note(0, i, i);
            // a state taken back makes room, so the oldest one stays
            if (i % 3 == 2) {
                x.undo();
                x.note(1, i, i);
            }
        }
        due(6, x.count(12));
        for (int left = 5; left >= 0; left--) {
            due(left, x.undo());
            due(14 + left, x.count(0));
        }
        due(NOT_POSSIBLE, x.undo());
        due(14, x.count(0));
    }

    private static void undoNone() {
        due(NOT_POSSIBLE, new MusicHoles().undo());
        MusicHoles x = single(0, 0, 0);
        due(0, x.undo());
        due(NOT_POSSIBLE, x.undo());
        due(0, x.count(0));
        due(0, x.note(0, 0, 0));
        due(0, x.undo());
        due(NOT_POSSIBLE, x.undo());
    }

    private static void undoEachChange() {
        for (int kind = 0; kind < 10; kind++) {
            MusicHoles x = start();
            String before = shown(x);
            due(true, change(x, kind) >= 0);
            due(3, x.count(12));
            due(false, before.equals(shown(x)));
            due(2, x.undo());
            due(before, shown(x));
        }
    }

    private static MusicHoles start() {
        MusicHoles x = new MusicHoles();
        x.save(1);
        x.note(4, 5, 9);
        x.note(5, 20, 29);
        type(x, "9:9-9");
        return x;
    }

    private static int change(MusicHoles x, int kind) {
        switch (kind) {
            case 0: return x.set(MusicHoles.BRIDGE, 4);
            case 1: return x.note(0, 0, 99);
            case 2: return x.drop(0);
            case 3: return x.shift(1, 2);
            case 4: return x.accent(0, true);
            case 5: return x.insert(6, 1);
            case 6: return x.cut(0, 1);
            case 7: return x.copy(0, 99, 50);
            case 8: return x.read();
            default: return x.restore(1);
        }
    }

    private static String shown(MusicHoles x) {
        StringBuilder all = new StringBuilder();
        for (int what = 0; what <= 10; what++) {
            all.append(x.count(what)).append(' ');
        }
        for (int note = 0; note < x.count(0); note++) {
            for (int what = 0; what <= 7; what++) {
                all.append(x.of(note, what)).append(' ');
            }
        }
        return all.toString();
    }

    private static void undoNoDifference() {
        MusicHoles x = new MusicHoles();
        due(0, x.insert(0, 1));
        due(0, x.cut(0, 100));
        due(0, x.copy(0, 99, 0));
        due(3, x.set(MusicHoles.RUN, 3));
        due(4, x.count(12));
        x.save(0);
        due(0, x.restore(0));
        due(5, x.count(12));
        MusicHoles y = single(0, 0, 0);
        due(0, y.shift(0, 0));
        due(0, y.accent(0, false));
        due(3, y.count(12));
        for (int left = 2; left >= 0; left--) {
            due(left, y.undo());
        }
        due(0, y.count(0));
    }

    private static void undoNoOthers() {
        MusicHoles x = single(0, 0, 9);
        type(x, "0:");
        x.wipe();
        x.put('1');
        x.fault();
        x.of(0, 7);
        x.at(0, 4);
        x.sound(0, 0, 2);
        x.count(5);
        x.bestShift(0, 1);
        x.greatestRun();
        x.swallowed(0);
        x.freeGoal(0, 9);
        x.save(0);
        x.save(1);
        due(1, x.count(12));
        due(0, x.undo());
        due(0, x.count(12));
    }

    private static void undoEverything() {
        MusicHoles x = rich();
        String before = shown(x);
        x.set(MusicHoles.RUN, 9);
        x.set(MusicHoles.BRIDGE, 4);
        x.set(MusicHoles.HEAR, 0);
        x.set(MusicHoles.WEAK, 12);
        x.cut(0, 100);
        x.note(7, 7, 7);
        for (int left = 5; left >= 0; left--) {
            due(left, x.undo());
        }
        due(before, shown(x));
        // 40 notes
        MusicHoles y = full();
        y.shift(39, 12);
        y.accent(39, true);
        y.cut(0, 100);
        due(5, y.undo());
        due(40, y.count(0));
        dueNote(y, 0, 0, 0, 0, 0, 0);
        dueNote(y, 39, 3, 18, 18, 12, 1);
        due(TOO_MANY, y.note(9, 9, 9));
    }

    private static void undoExcept() {
        MusicHoles x = withPad("1:1-1");
        due(1, x.read());
        due(0, x.undo());
        due(0, x.count(11));
        x.note(0, 0, 0);
        x.note(0, 1, 1);
        x.save(0);
        type(x, "7:7");
        due(1, x.undo());
        due(3, x.count(11));
        due(2, x.restore(0));
        due(1, x.undo());
        due(1, x.count(0));
        due(0, x.undo());
        due(0, x.count(0));
    }

    private static void undoGone() {
        MusicHoles x = single(0, 0, 0);
        x.note(0, 1, 1);
        x.undo();
        due(1, x.note(0, 5, 5));
        due(2, x.count(12));
        due(1, x.undo());
        due(1, x.count(0));
        due(0, x.undo());
        due(0, x.count(0));
    }

    // ---- promise 23

    private static void save() {
        test("23: slot: 0 or 1", StatesTest::saveSlot);
        test("23: overwrites what was saved there", StatesTest::saveOverwrites);
        test("23: returns how many notes there are", StatesTest::saveReturns);
        test("23: is no change", StatesTest::saveNoChange);
        test("23: what is saved stays, whatever is called", StatesTest::saveStays);
    }

    private static void saveSlot() {
        MusicHoles x = new MusicHoles();
        for (int slot : new int[] {LOW, -1, 2, HIGH}) {
            due(BAD_VALUE, x.save(slot));
        }
        due(NOT_POSSIBLE, x.restore(0));
        due(NOT_POSSIBLE, x.restore(1));
        due(0, x.save(0));
        due(NOT_POSSIBLE, x.restore(1));
        due(0, x.restore(0));
        due(0, x.save(1));
        due(0, x.restore(1));
    }

    private static void saveOverwrites() {
        MusicHoles x = block(3, 4, 15);
        x.save(0);
        x.save(1);
        x.cut(0, 100);
        x.set(MusicHoles.WEAK, 12);
        due(0, x.save(0));
        due(3, x.restore(1));
        due(4, x.count(10));
        due(0, x.restore(0));
        due(12, x.count(10));
        // and more notes over fewer ones
        x.restore(1);
        x.save(0);
        x.cut(0, 100);
        due(3, x.restore(0));
        dueNote(x, 2, 2, 4, 15, 0, 0);
    }

    private static void saveReturns() {
        due(0, new MusicHoles().save(0));
        MusicHoles x = full();
        x.shift(39, 12);
        x.accent(39, true);
        due(40, x.save(1));
        x.cut(0, 100);
        due(40, x.restore(1));
        dueNote(x, 39, 3, 18, 18, 12, 1);
        dueNote(x, 0, 0, 0, 0, 0, 0);
    }

    private static void saveNoChange() {
        MusicHoles x = single(0, 0, 9);
        due(1, x.save(0));
        due(1, x.count(12));
        due(0, x.undo());
        due(0, x.count(0));
        // the same state in the slot where it stands already
        MusicHoles y = rich();
        y.save(1);
        y.save(1);
        due(6, y.count(12));
        due(12, y.count(11));
    }

    private static void saveStays() {
        MusicHoles x = rich();
        String before = shown(x);
        x.save(0);
        callOthers(x);
        due(4, x.restore(0));
        due(before, shown(x));
        MusicHoles y = rich();
        callOthers(y);
        due(NOT_POSSIBLE, y.restore(1));
    }

    /** Every method but save and restore. */
    private static void callOthers(MusicHoles x) {
        for (int kind = 0; kind <= 8; kind++) {
            change(x, kind);
        }
        for (int what = 0; what <= 7; what++) {
            x.of(0, what);
            x.at(50, what);
        }
        x.sound(0, 0, 0);
        x.count(2);
        x.bestShift(0, 0);
        x.greatestRun();
        x.swallowed(1);
        x.freeGoal(0, 99);
        type(x, "1:2");
        x.fault();
        x.wipe();
        x.undo();
    }

    // ---- promise 24

    private static void restore() {
        test("24: slot: 0 or 1", StatesTest::restoreSlot);
        test("24: NOT_POSSIBLE if nothing was saved in it", StatesTest::restoreNothing);
        test("24: what was saved last in a slot, which keeps it", StatesTest::restoreKeeps);
        test("24: returns how many notes there are then", StatesTest::restoreReturns);
        test("24: everything except the pad, the history and the slots", StatesTest::restoreExcept);
        test("24: this is a change", StatesTest::restoreIsChange);
    }

    private static void restoreSlot() {
        MusicHoles x = single(0, 0, 0);
        x.save(0);
        x.save(1);
        for (int slot : new int[] {LOW, -1, 2, HIGH}) {
            due(BAD_VALUE, x.restore(slot));
        }
        due(1, x.restore(0));
        due(1, x.restore(1));
    }

    private static void restoreNothing() {
        for (int slot = 0; slot < 2; slot++) {
            MusicHoles x = single(0, 0, 0);
            due(NOT_POSSIBLE, x.restore(slot));
            x.save(1 - slot);
            due(NOT_POSSIBLE, x.restore(slot));
            due(1, x.count(0));
            due(1, x.count(12));
            x.save(slot);
            due(1, x.restore(slot));
        }
    }

    private static void restoreKeeps() {
        MusicHoles x = single(0, 0, 9);
        x.save(0);
        for (int i = 0; i < 3; i++) {
            x.shift(0, 12);
            x.accent(0, true);
            x.insert(5, 5);
            x.note(1, 1, 1);
            x.set(MusicHoles.RUN, 9);
            due(1, x.restore(0));
            dueNote(x, 0, 0, 0, 9, 0, 0);
            due(3, x.count(7));
        }
        x.drop(0);
        due(0, x.save(0));
        due(0, x.restore(0));
    }

    private static void restoreReturns() {
        MusicHoles x = full();
        x.save(0);
        x.cut(0, 100);
        x.save(1);
        due(40, x.restore(0));
        due(40, x.count(0));
        due(0, x.restore(1));
        due(0, x.count(0));
    }

    private static void restoreExcept() {
        MusicHoles x = withPad("1:1");
        x.note(0, 0, 0);
        x.set(MusicHoles.HEAR, 4);
        x.save(0);
        x.wipe();
        type(x, "2:2-2");
        x.undo();
        x.undo();
        due(0, x.count(12));
        due(1, x.restore(0));
        due(4, x.count(9));
        due(5, x.count(11));
        due(1, x.count(12));
        due(NOT_POSSIBLE, x.restore(1));
        due(2, x.read());
    }

    private static void restoreIsChange() {
        MusicHoles x = single(0, 0, 0);
        x.save(0);
        x.note(5, 5, 5);
        due(1, x.restore(0));
        due(3, x.count(12));
        due(2, x.undo());
        due(2, x.count(0));
        // the seventh change drops the oldest state
        for (int i = 0; i < 6; i++) {
            x.restore(0);
        }
        due(6, x.count(12));
        for (int left = 5; left >= 0; left--) {
            due(left, x.undo());
        }
        due(2, x.count(0));
    }
}
