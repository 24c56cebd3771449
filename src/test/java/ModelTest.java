import java.util.Random;

/** Runs of calls, drawn from fixed seeds, on the program and on the model beside each other. */
public final class ModelTest {
    private static final int CALLS = 512;
    private static final int[] ODD = {-1, Integer.MIN_VALUE, Integer.MAX_VALUE, 100, 12, 40, 13};
    private static final String SIGNS = "0123456789:-;!0121:-;x";

    private final Random random;
    private final MusicHoles x = new MusicHoles();
    private final Model model = new Model();
    private final boolean busy;
    private String call = "";

    private ModelTest(int seed) {
        random = new Random(seed);
        busy = seed % 2 == 0;
    }

    public static void main(String[] args) {
        int runs = args.length > 0 ? Integer.parseInt(args[0]) : 100;
        int wrong = 0;
        for (int seed = 0; seed < runs && wrong < 10; seed++) {
            if (!new ModelTest(seed).runOnce(seed)) {
                wrong++;
            }
        }
        System.out.println(wrong == 0 ? "ModelTest: all as due" : "ModelTest: runs that are not as due: " + wrong);
        if (wrong != 0) {
            System.exit(1);
        }
    }

    private boolean runOnce(int seed) {
        for (int i = 0; i < CALLS; i++) {
            int[] answers = next();
            if (answers[0] != answers[1]) {
                System.out.println("seed " + seed + ", call " + i + ": " + call + " answered " + answers[0]
                        + ", due is " + answers[1]);
                return false;
            }
        }
        return true;
    }

    private int upTo(int bound) {
        return random.nextInt(40) == 0 ? ODD[random.nextInt(ODD.length)] : random.nextInt(bound);
    }

    private int[] next() {
        int kind = random.nextInt(100);
        if (kind < 45) {
            return change(kind);
        }
        return kind < 80 ? look() : textOrState(kind);
    }

    private int[] named(String name, int got, int want) {
        call = name;
        return new int[] {got, want};
    }

    private int[] change(int kind) {
        int a = upTo(12);
        int b = upTo(100);
        int c = random.nextInt(3) == 0 ? upTo(100) : Math.min(99, b + random.nextInt(busy ? 8 : 30));
        int note = upTo(Math.max(1, model.count(0)));
        if (kind < 22) {
            return named("note(" + a + ", " + b + ", " + c + ")", x.note(a, b, c), model.note(a, b, c));
        }
        if (kind < 25) {
            int setting = upTo(4);
            int value = upTo(13);
            return named("set(" + setting + ", " + value + ")", x.set(setting, value), model.set(setting, value));
        }
        if (kind < 27) {
            return named("drop(" + note + ")", x.drop(note), model.drop(note));
        }
        if (kind < 31) {
            int shift = upTo(14);
            return named("shift(" + note + ", " + shift + ")", x.shift(note, shift), model.shift(note, shift));
        }
        if (kind < 35) {
            boolean has = random.nextInt(4) > 0;
            return named("accent(" + note + ", " + has + ")", x.accent(note, has), model.accent(note, has));
        }
        if (kind < 38) {
            int many = random.nextInt(3) == 0 ? upTo(60) : 1 + random.nextInt(5);
            return named("insert(" + b + ", " + many + ")", x.insert(b, many), model.insert(b, many));
        }
        if (kind < 41) {
            int many = random.nextInt(6) == 0 ? upTo(110) : 1 + random.nextInt(8);
            return named("cut(" + b + ", " + many + ")", x.cut(b, many), model.cut(b, many));
        }
        int goal = upTo(100);
        return named("copy(" + b + ", " + c + ", " + goal + ")", x.copy(b, c, goal), model.copy(b, c, goal));
    }

    private int[] look() {
        int note = upTo(Math.max(1, model.count(0)));
        int track = upTo(12);
        int step = upTo(100);
        int what = upTo(9);
        switch (random.nextInt(10)) {
            case 0: case 1:
                return named("of(" + note + ", " + what + ")", x.of(note, what), model.of(note, what));
            case 2: case 3:
                what = upTo(6);
                return named("at(" + step + ", " + what + ")", x.at(step, what), model.at(step, what));
            case 4:
                int sound = upTo(5);
                what = upTo(4);
                return named("sound(" + track + ", " + sound + ", " + what + ")",
                        x.sound(track, sound, what), model.sound(track, sound, what));
            case 5: case 6:
                what = upTo(14);
                return named("count(" + what + ")", x.count(what), model.count(what));
            case 7:
                what = upTo(3);
                return named("bestShift(" + note + ", " + what + ")", x.bestShift(note, what), model.bestShift(note, what));
            case 8:
                return random.nextInt(2) == 0
                        ? named("greatestRun()", x.greatestRun(), model.greatestRun())
                        : named("swallowed(" + track + ")", x.swallowed(track), model.swallowed(track));
            default:
                int to = Math.min(99, Math.max(step, 0)) + random.nextInt(20);
                return named("freeGoal(" + step + ", " + to + ")", x.freeGoal(step, to), model.freeGoal(step, to));
        }
    }

    private int[] textOrState(int kind) {
        int slot = upTo(3);
        if (kind < 88) {
            long characters = random.nextInt(3) == 0 ? noise() : piece();
            return named("put(" + characters + ")", x.put(characters), model.put(characters));
        }
        if (kind < 90) {
            return named("fault()", x.fault(), model.fault());
        }
        if (kind < 93) {
            return named("read()", x.read(), model.read());
        }
        if (kind < 94) {
            return named("wipe()", x.wipe(), model.wipe());
        }
        if (kind < 97) {
            return named("undo()", x.undo(), model.undo());
        }
        if (kind < 98) {
            return named("save(" + slot + ")", x.save(slot), model.save(slot));
        }
        return named("restore(" + slot + ")", x.restore(slot), model.restore(slot));
    }

    /** A note that the text can go on with, so that whole texts come about often. */
    private long piece() {
        StringBuilder text = new StringBuilder(model.count(11) > 0 ? ";" : "");
        int first = random.nextInt(100);
        text.append(random.nextInt(12)).append(':').append(first).append('-');
        text.append(Math.min(99, first + random.nextInt(4)) - (random.nextInt(12) == 0 ? first / 2 : 0));
        if (text.length() < 8 && random.nextInt(3) == 0) {
            text.append('!');
        }
        return packed(text.substring(0, Math.min(8, text.length())));
    }

    private long noise() {
        if (random.nextInt(8) == 0) {
            return random.nextLong() >> random.nextInt(64);
        }
        StringBuilder text = new StringBuilder();
        for (int i = random.nextInt(3); i >= 0; i--) {
            text.append(SIGNS.charAt(random.nextInt(SIGNS.length())));
        }
        return packed(text.toString());
    }

    private static long packed(String text) {
        long characters = 0;
        for (int i = 0; i < text.length(); i++) {
            characters = characters << 8 | text.charAt(i);
        }
        return characters;
    }
}
