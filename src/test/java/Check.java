import java.util.function.Supplier;
import java.util.function.ToIntFunction;

/** What the tests by hand have in common: counted answers, texts for the pad, and all that can be seen of an object. */
abstract class Check {
    static final int LOW = Integer.MIN_VALUE;
    static final int HIGH = Integer.MAX_VALUE;
    static final int NO_SUCH = MusicHoles.NO_SUCH;
    static final int BAD_VALUE = MusicHoles.BAD_VALUE;
    static final int BAD_TEXT = MusicHoles.BAD_TEXT;
    static final int TOO_MANY = MusicHoles.TOO_MANY;
    static final int NOT_POSSIBLE = MusicHoles.NOT_POSSIBLE;
    static final int NONE = MusicHoles.NONE;
    /** Ten notes in 59 characters: one more character has room. */
    static final String TEN_NOTES = "0:0-0;1:0-0;2:0-0;3:0-0;4:0-0;5:0-0;6:0-0;7:0-0;8:0-0;9:0-0";

    private static int wrong = 0;
    private static int tests = 0;
    private static String about = "";

    /** Runs the test of one sentence. */
    static void test(String sentence, Runnable body) {
        about = sentence;
        tests++;
        try {
            body.run();
        } catch (RuntimeException thrown) {
            wrong++;
            System.out.println(about + ": " + thrown + " (line " + line(thrown) + ")");
        }
    }

    static void due(Object want, Object got) {
        if (!want.equals(got)) {
            wrong++;
            System.out.println(about + ": answered " + got + ", due is " + want + " (line " + line(new Throwable()) + ")");
        }
    }

    private static int line(Throwable thrown) {
        for (StackTraceElement element : thrown.getStackTrace()) {
            if (element.getClassName().endsWith("Test")) {
                return element.getLineNumber();
            }
        }
        return 0;
    }

    static void end(String name) {
        System.out.println(name + ": " + tests + " tests, " + (wrong == 0 ? "all as due" : wrong + " answers not as due"));
        if (wrong != 0) {
            System.exit(1);
        }
    }

    static int type(MusicHoles x, String text) {
        int length = x.count(11);
        for (int i = 0; i < text.length(); i += 8) {
            length = x.put(packed(text.substring(i, Math.min(i + 8, text.length()))));
        }
        return length;
    }

    static long packed(String text) {
        long characters = 0;
        for (int i = 0; i < text.length(); i++) {
            characters = characters << 8 | text.charAt(i);
        }
        return characters;
    }

    static MusicHoles withPad(String text) {
        MusicHoles x = new MusicHoles();
        type(x, text);
        return x;
    }

    static int faultOf(String text) {
        return withPad(text).fault();
    }

    /** One note on each of so many tracks, from the track 0 on, all with the same steps. */
    static MusicHoles block(int tracks, int first, int last) {
        MusicHoles x = new MusicHoles();
        for (int track = 0; track < tracks; track++) {
            x.note(track, first, last);
        }
        return x;
    }

    static MusicHoles single(int track, int first, int last) {
        MusicHoles x = new MusicHoles();
        x.note(track, first, last);
        return x;
    }

    /** 40 notes of one step: tracks 0 to 3, steps 0, 2, .. 18. */
    static MusicHoles full() {
        MusicHoles x = new MusicHoles();
        for (int i = 0; i < 40; i++) {
            x.note(i / 10, 2 * (i % 10), 2 * (i % 10));
        }
        return x;
    }

    /** A roll in which each part holds something: notes, settings, six states, a slot and a pad that can be read. */
    static MusicHoles rich() {
        MusicHoles x = new MusicHoles();
        x.note(1, 50, 60);
        x.save(0);
        x.note(0, 10, 20);
        x.set(MusicHoles.BRIDGE, 2);
        x.set(MusicHoles.WEAK, 3);
        x.note(1, 12, 30);
        x.note(11, 90, 99);
        x.shift(1, 5);
        x.accent(3, true);
        type(x, "5:0-3;6:1-1!");
        return x;
    }

    static void dueNote(MusicHoles x, int note, int track, int first, int last, int shift, int accent) {
        due(track, x.of(note, 0));
        due(first, x.of(note, 1));
        due(last, x.of(note, 2));
        due(shift, x.of(note, 3));
        due(accent, x.of(note, 4));
    }

    static void dueSteps(MusicHoles x, int note, int first, int last) {
        due(first, x.of(note, 1));
        due(last, x.of(note, 2));
    }

    /** The holes of a track, a sign a step: 'o' a hole, '.' none. */
    static String holes(MusicHoles x, int track, int from, int to) {
        return row(x, 0, track, from, to);
    }

    static String heard(MusicHoles x, int track, int from, int to) {
        return row(x, 1, track, from, to);
    }

    private static String row(MusicHoles x, int what, int track, int from, int to) {
        StringBuilder row = new StringBuilder();
        for (int step = from; step <= to; step++) {
            row.append((x.at(step, what) >> track & 1) == 1 ? 'o' : '.');
        }
        return row.toString();
    }

    private static void numbers(StringBuilder all, MusicHoles x) {
        for (int what = 0; what <= 12; what++) {
            all.append(x.count(what)).append(' ');
        }
    }

    private static void notes(StringBuilder all, MusicHoles x) {
        for (int note = 0; note < x.count(0); note++) {
            all.append('[');
            for (int what = 0; what <= 4; what++) {
                all.append(x.of(note, what)).append(' ');
            }
            all.append(']');
        }
    }

    /** All that can be seen of an object, which is used up by that; few notes are told whole in each state. */
    static String seen(MusicHoles x) {
        StringBuilder all = new StringBuilder();
        numbers(all, x);
        notes(all, x);
        all.append(" fault ").append(x.fault());
        int left = 0;
        for (int i = 0; i < 8 && left >= 0; i++) {
            left = x.undo();
            all.append("\n undone, left ").append(left).append(": ");
            state(all, x);
        }
        for (int slot = 0; slot < 2; slot++) {
            all.append("\n slot ").append(slot).append(": ").append(x.restore(slot)).append(", ");
            state(all, x);
        }
        x.cut(0, 100);
        all.append("\n read ").append(x.read()).append(": ");
        state(all, x);
        return all.toString();
    }

    private static void state(StringBuilder all, MusicHoles x) {
        numbers(all, x);
        if (x.count(0) < 8) {
            notes(all, x);
        }
    }

    /** The call is answered as it is due, and nothing is different then from an object without the call. */
    static void dueUnchanged(int want, Supplier<MusicHoles> maker, ToIntFunction<MusicHoles> call) {
        MusicHoles x = maker.get();
        due(want, call.applyAsInt(x));
        due(seen(maker.get()), seen(x));
    }
}
