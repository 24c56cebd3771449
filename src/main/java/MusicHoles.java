import java.util.Arrays;

/** Perforated music rolls that are edited by their length. */
public final class MusicHoles {
    public static final int NO_SUCH = -1, BAD_VALUE = -2, BAD_TEXT = -3, TOO_MANY = -4, NOT_POSSIBLE = -5, NONE = -6;
    public static final int RUN = 0, BRIDGE = 1, HEAR = 2, WEAK = 3;

    private static final int TRACKS = 12, STEPS = 100, MOST_NOTES = 40, MOST_SHIFT = 12, MOST_INSERTED = 50;
    private static final int MOST_CHARACTERS = 60, MOST_STATES = 6, SLOTS = 2, SETTINGS = 4;
    private static final int[] LEAST = {1, 1, 0, 2};
    private static final int[] GREATEST = {9, 4, 4, 12};
    private static final int[] AT_FIRST = {3, 1, 1, 4};

    private final Roll roll;
    /** A roll to try things on: a call that fails then leaves the roll itself as it is. */
    private final Roll trial;
    private final Paper paper;
    private final Pad pad;
    private final History history;
    private final Roll[] slots;
    private final boolean[] saved;

    public MusicHoles() {
        roll = new Roll();
        trial = new Roll();
        paper = new Paper();
        pad = new Pad();
        history = new History();
        slots = new Roll[SLOTS];
        saved = new boolean[SLOTS];
        for (int slot = 0; slot < SLOTS; slot++) {
            slots[slot] = new Roll();
        }
    }

    // ---- changes

    public int set(int setting, int value) {
        if (!isIn(setting, 0, SETTINGS - 1) || !isIn(value, LEAST[setting], GREATEST[setting])) {
            return BAD_VALUE;
        }
        int previous = roll.settingOf(setting);
        history.record(roll);
        roll.giveSetting(setting, value);
        return previous;
    }

    public int note(int track, int first, int last) {
        if (!isTrack(track)) {
            return NO_SUCH;
        }
        if (!isStep(first) || !isStep(last) || last < first) {
            return BAD_VALUE;
        }
        if (roll.size() >= MOST_NOTES) {
            return TOO_MANY;
        }
        if (roll.isTaken(track, first, last)) {
            return NOT_POSSIBLE;
        }
        history.record(roll);
        return roll.add(track, first, last, 0, false);
    }

    public int drop(int note) {
        if (!roll.has(note)) {
            return NO_SUCH;
        }
        history.record(roll);
        roll.remove(note);
        return roll.size();
    }

    public int shift(int note, int shift) {
        if (!roll.has(note)) {
            return NO_SUCH;
        }
        if (!isIn(shift, 0, MOST_SHIFT)) {
            return BAD_VALUE;
        }
        int previous = roll.shiftOf(note);
        history.record(roll);
        roll.giveShift(note, shift);
        return previous;
    }

    public int accent(int note, boolean has) {
        if (!roll.has(note)) {
            return NO_SUCH;
        }
        boolean previous = roll.hasAccent(note);
        history.record(roll);
        roll.giveAccent(note, has);
        return asNumber(previous);
    }

    public int insert(int step, int many) {
        if (!isStep(step) || !isIn(many, 1, MOST_INSERTED)) {
            return BAD_VALUE;
        }
        int greatest = roll.greatestLast();
        if (greatest >= step && greatest + many >= STEPS) {
            return NOT_POSSIBLE;
        }
        history.record(roll);
        return roll.lengthen(step, many);
    }

    public int cut(int step, int many) {
        if (!isStep(step) || !isIn(many, 1, STEPS - step)) {
            return BAD_VALUE;
        }
        int before = roll.size();
        history.record(roll);
        trial.takeSettings(roll);
        trial.takeCut(roll, step, many);
        roll.become(trial);
        return before - roll.size();
    }

    public int copy(int from, int to, int goal) {
        if (!isPassage(from, to) || !isStep(goal)) {
            return BAD_VALUE;
        }
        int many = roll.within(from, to);
        if (roll.size() + many > MOST_NOTES) {
            return TOO_MANY;
        }
        if (!isFreeAt(from, to, goal)) {
            return NOT_POSSIBLE;
        }
        history.record(roll);
        trial.become(roll);
        trial.addPassage(roll, from, to, goal);
        roll.become(trial);
        return many;
    }

    public int read() {
        if (!pad.scan()) {
            return BAD_TEXT;
        }
        if (pad.hasTurnedNote()) {
            return BAD_VALUE;
        }
        if (roll.size() + pad.found() > MOST_NOTES) {
            return TOO_MANY;
        }
        trial.become(roll);
        if (!addFoundNotes()) {
            return NOT_POSSIBLE;
        }
        history.record(roll);
        roll.become(trial);
        pad.clear();
        return roll.size();
    }

    // ---- what there is

    public int of(int note, int what) {
        if (!roll.has(note)) {
            return NO_SUCH;
        }
        switch (what) {
            case 0: return roll.trackOf(note);
            case 1: return roll.firstOf(note);
            case 2: return roll.lastOf(note);
            case 3: return roll.shiftOf(note);
            case 4: return asNumber(roll.hasAccent(note));
            case 5: return roll.bridges(note);
            case 6: return roll.longestBridge(note);
            case 7:
                paper.perforate(roll);
                return asNumber(isHeardWhole(note));
            default: return BAD_VALUE;
        }
    }

    public int at(int step, int what) {
        if (!isStep(step)) {
            return BAD_VALUE;
        }
        paper.perforate(roll);
        switch (what) {
            case 0: return paper.holesAt(step);
            case 1: return paper.heardAt(step);
            case 2: return roll.tracksAt(step);
            case 3: return paper.sideBySide(step);
            case 4: return asNumber(paper.isWeak(step));
            default: return BAD_VALUE;
        }
    }

    public int sound(int track, int sound, int what) {
        if (!isTrack(track)) {
            return NO_SUCH;
        }
        paper.perforate(roll);
        int start = paper.soundStart(track, sound);
        if (start < 0) {
            return NO_SUCH;
        }
        int end = paper.soundEnd(track, start);
        switch (what) {
            case 0: return start;
            case 1: return end;
            case 2: return roll.touching(track, start, end);
            default: return BAD_VALUE;
        }
    }

    public int count(int what) {
        paper.perforate(roll);
        switch (what) {
            case 0: return roll.size();
            case 1: return paper.allHoles();
            case 2: return paper.weakSteps();
            case 3: return noneIfMissing(paper.firstWeakStep());
            case 4: return allSounds();
            case 5: return notesWithGap();
            case 6: return noneIfMissing(roll.greatestLast());
            case 7: return roll.settingOf(RUN);
            case 8: return roll.settingOf(BRIDGE);
            case 9: return roll.settingOf(HEAR);
            case 10: return roll.settingOf(WEAK);
            case 11: return pad.length();
            case 12: return history.size();
            default: return BAD_VALUE;
        }
    }

    // ---- what if; nothing changes

    public int bestShift(int note, int what) {
        if (!roll.has(note)) {
            return NO_SUCH;
        }
        if (!isIn(what, 0, 1)) {
            return BAD_VALUE;
        }
        trial.become(roll);
        int best = 0;
        int fewest = STEPS + 1;
        for (int shift = 0; shift <= MOST_SHIFT; shift++) {
            trial.giveShift(note, shift);
            paper.perforate(trial);
            int weak = paper.weakSteps();
            if (weak < fewest) {
                fewest = weak;
                best = shift;
            }
        }
        return what == 0 ? best : fewest;
    }

    public int greatestRun() {
        trial.become(roll);
        for (int run = GREATEST[RUN]; run >= LEAST[RUN]; run--) {
            trial.giveSetting(RUN, run);
            paper.perforate(trial);
            if (paper.weakSteps() == 0) {
                return run;
            }
        }
        return NONE;
    }

    public int swallowed(int track) {
        if (!isTrack(track)) {
            return NO_SUCH;
        }
        paper.perforate(roll);
        int many = 0;
        for (int note = 0; note < roll.size(); note++) {
            // the first step has a hole: its sound began ahead of it if the step before it is heard too
            if (roll.trackOf(note) == track && paper.isHeard(track, roll.firstOf(note) - 1)) {
                many++;
            }
        }
        return many;
    }

    public int freeGoal(int from, int to) {
        if (!isPassage(from, to)) {
            return BAD_VALUE;
        }
        int many = roll.within(from, to);
        if (many == 0 || roll.size() + many > MOST_NOTES) {
            return NONE;
        }
        for (int goal = 0; goal < STEPS; goal++) {
            if (isFreeAt(from, to, goal)) {
                return goal;
            }
        }
        return NONE;
    }

    // ---- texts

    public int put(long characters) {
        int many = charactersIn(characters);
        if (many == 0) {
            return BAD_VALUE;
        }
        if (pad.length() + many > MOST_CHARACTERS) {
            return TOO_MANY;
        }
        for (int i = many - 1; i >= 0; i--) {
            pad.append((char) codeIn(characters, i));
        }
        return pad.length();
    }

    public int wipe() {
        int length = pad.length();
        pad.clear();
        return length;
    }

    public int fault() {
        return pad.scan() ? NONE : pad.position();
    }

    // ---- undo, saving

    public int undo() {
        if (history.size() == 0) {
            return NOT_POSSIBLE;
        }
        history.takeBack(roll);
        return history.size();
    }

    public int save(int slot) {
        if (!isIn(slot, 0, SLOTS - 1)) {
            return BAD_VALUE;
        }
        slots[slot].become(roll);
        saved[slot] = true;
        return roll.size();
    }

    public int restore(int slot) {
        if (!isIn(slot, 0, SLOTS - 1)) {
            return BAD_VALUE;
        }
        if (!saved[slot]) {
            return NOT_POSSIBLE;
        }
        history.record(roll);
        roll.become(slots[slot]);
        return roll.size();
    }

    // ---- helpers

    private static boolean isIn(int value, int least, int greatest) {
        return value >= least && value <= greatest;
    }

    private static boolean isTrack(int track) {
        return isIn(track, 0, TRACKS - 1);
    }

    private static boolean isStep(int step) {
        return isIn(step, 0, STEPS - 1);
    }

    private static boolean isPassage(int from, int to) {
        return isStep(from) && isStep(to) && from <= to;
    }

    private static int asNumber(boolean yes) {
        return yes ? 1 : 0;
    }

    private static int noneIfMissing(int step) {
        return step < 0 ? NONE : step;
    }

    private static int codeIn(long characters, int place) {
        return isIn(place, 0, 7) ? (int) (characters >>> (8 * place)) & 255 : 0;
    }

    /** How many characters the number holds, and 0 if it is none that may be put. */
    private static int charactersIn(long characters) {
        for (int place = 0; place < 8; place++) {
            int code = codeIn(characters, place);
            if (code == 0) {
                return characters >>> (8 * place) == 0 ? place : 0;
            }
            if (!isIn(code, 33, 126)) {
                return 0;
            }
        }
        return 8;
    }

    /** Whether no copied note would leave the roll or meet another; the passage itself stays, so it counts too. */
    private boolean isFreeAt(int from, int to, int goal) {
        for (int note = 0; note < roll.size(); note++) {
            if (roll.liesWithin(note, from, to)) {
                int first = roll.firstOf(note) - from + goal;
                int last = roll.lastOf(note) - from + goal;
                if (last >= STEPS || roll.isTaken(roll.trackOf(note), first, last)) {
                    return false;
                }
            }
        }
        return true;
    }

    private boolean addFoundNotes() {
        for (int i = 0; i < pad.found(); i++) {
            if (trial.isTaken(pad.foundTrack(i), pad.foundFirst(i), pad.foundLast(i))) {
                return false;
            }
            trial.add(pad.foundTrack(i), pad.foundFirst(i), pad.foundLast(i), 0, pad.foundAccent(i));
        }
        return true;
    }

    private boolean isHeardWhole(int note) {
        for (int step = roll.firstOf(note); step <= roll.lastOf(note); step++) {
            if (!paper.isHeard(roll.trackOf(note), step)) {
                return false;
            }
        }
        return true;
    }

    private int notesWithGap() {
        int many = 0;
        for (int note = 0; note < roll.size(); note++) {
            if (!isHeardWhole(note)) {
                many++;
            }
        }
        return many;
    }

    private int allSounds() {
        int many = 0;
        for (int track = 0; track < TRACKS; track++) {
            many += paper.sounds(track);
        }
        return many;
    }

    /** The settings and the notes: all that undo and the slots keep. */
    private static final class Roll {
        private final int[] settings = new int[SETTINGS];
        private final int[] tracks = new int[MOST_NOTES];
        private final int[] firsts = new int[MOST_NOTES];
        private final int[] lasts = new int[MOST_NOTES];
        private final int[] shifts = new int[MOST_NOTES];
        private final boolean[] accents = new boolean[MOST_NOTES];
        private int notes;

        Roll() {
            System.arraycopy(AT_FIRST, 0, settings, 0, SETTINGS);
        }

        void takeSettings(Roll other) {
            System.arraycopy(other.settings, 0, settings, 0, SETTINGS);
        }

        void become(Roll other) {
            takeSettings(other);
            notes = other.notes;
            for (int note = 0; note < MOST_NOTES; note++) {
                tracks[note] = other.tracks[note];
                firsts[note] = other.firsts[note];
                lasts[note] = other.lasts[note];
                shifts[note] = other.shifts[note];
                accents[note] = other.accents[note];
            }
        }

        int settingOf(int setting) {
            return isIn(setting, 0, SETTINGS - 1) ? settings[setting] : 0;
        }

        void giveSetting(int setting, int value) {
            if (isIn(setting, 0, SETTINGS - 1)) {
                settings[setting] = value;
            }
        }

        int size() {
            return notes;
        }

        boolean has(int note) {
            return note >= 0 && note < notes && note < MOST_NOTES;
        }

        int trackOf(int note) {
            return has(note) ? tracks[note] : 0;
        }

        int firstOf(int note) {
            return has(note) ? firsts[note] : 0;
        }

        int lastOf(int note) {
            return has(note) ? lasts[note] : 0;
        }

        int shiftOf(int note) {
            return has(note) ? shifts[note] : 0;
        }

        boolean hasAccent(int note) {
            return has(note) && accents[note];
        }

        void giveShift(int note, int shift) {
            if (has(note)) {
                shifts[note] = shift;
            }
        }

        void giveAccent(int note, boolean accent) {
            if (has(note)) {
                accents[note] = accent;
            }
        }

        /** Puts a note at its place in the order, and returns this place; the caller has seen that it fits. */
        int add(int track, int first, int last, int shift, boolean accent) {
            if (notes >= MOST_NOTES) {
                return TOO_MANY;
            }
            int place = placeFor(track, first);
            for (int note = notes; note > place; note--) {
                move(note - 1, note);
            }
            if (isIn(place, 0, MOST_NOTES - 1)) {
                tracks[place] = track;
                firsts[place] = first;
                lasts[place] = last;
                shifts[place] = shift;
                accents[place] = accent;
            }
            notes++;
            return place;
        }

        private int placeFor(int track, int first) {
            int place = 0;
            for (int note = 0; note < notes; note++) {
                if (firstOf(note) < first || firstOf(note) == first && trackOf(note) < track) {
                    place++;
                }
            }
            return place;
        }

        private void move(int from, int to) {
            if (isIn(from, 0, MOST_NOTES - 1) && isIn(to, 0, MOST_NOTES - 1)) {
                tracks[to] = tracks[from];
                firsts[to] = firsts[from];
                lasts[to] = lasts[from];
                shifts[to] = shifts[from];
                accents[to] = accents[from];
            }
        }

        void remove(int note) {
            if (has(note)) {
                for (int i = note + 1; i < notes; i++) {
                    move(i, i - 1);
                }
                notes--;
            }
        }

        boolean isTaken(int track, int first, int last) {
            return touching(track, first, last) > 0;
        }

        /** How many notes of a track have a step from a first one to a last one. */
        int touching(int track, int first, int last) {
            int many = 0;
            for (int note = 0; note < notes; note++) {
                if (trackOf(note) == track && firstOf(note) <= last && lastOf(note) >= first) {
                    many++;
                }
            }
            return many;
        }

        int tracksAt(int step) {
            int set = 0;
            for (int note = 0; note < notes; note++) {
                if (firstOf(note) <= step && lastOf(note) >= step) {
                    set |= 1 << trackOf(note);
                }
            }
            return set;
        }

        /** The greatest last step of a note, -1 if there is no note. */
        int greatestLast() {
            int greatest = -1;
            for (int note = 0; note < notes; note++) {
                greatest = Math.max(greatest, lastOf(note));
            }
            return greatest;
        }

        /** Puts steps in; the order stays, as all first steps from the step on move alike. Returns the longer notes. */
        int lengthen(int step, int many) {
            int longer = 0;
            for (int note = 0; note < notes && note < MOST_NOTES; note++) {
                if (firsts[note] >= step) {
                    firsts[note] += many;
                    lasts[note] += many;
                } else if (lasts[note] >= step) {
                    lasts[note] += many;
                    longer++;
                }
            }
            return longer;
        }

        /** Takes over what a cut leaves; adds anew, as notes that come to begin together may change their order. */
        void takeCut(Roll other, int step, int many) {
            int behind = step + many;
            notes = 0;
            for (int note = 0; note < other.size(); note++) {
                int first = other.firstOf(note);
                int last = other.lastOf(note);
                if (first < step || last >= behind) {
                    int newFirst = first < step ? first : Math.max(first, behind) - many;
                    int newLast = last < behind ? Math.min(last, step - 1) : last - many;
                    add(other.trackOf(note), newFirst, newLast, other.shiftOf(note), other.hasAccent(note));
                }
            }
        }

        boolean liesWithin(int note, int from, int to) {
            return has(note) && firstOf(note) >= from && lastOf(note) <= to;
        }

        int within(int from, int to) {
            int many = 0;
            for (int note = 0; note < notes; note++) {
                if (liesWithin(note, from, to)) {
                    many++;
                }
            }
            return many;
        }

        /** Adds the notes of another roll's passage; from the same roll the new notes would be copied again. */
        void addPassage(Roll other, int from, int to, int goal) {
            for (int note = 0; note < other.size(); note++) {
                if (other.liesWithin(note, from, to)) {
                    int first = other.firstOf(note) - from + goal;
                    int last = other.lastOf(note) - from + goal;
                    add(other.trackOf(note), first, last, other.shiftOf(note), other.hasAccent(note));
                }
            }
        }

        boolean isHole(int note, int step) {
            if (step == firstOf(note) || step == lastOf(note)) {
                return true;
            }
            int period = settings[RUN] + settings[BRIDGE];
            int place = step - firstOf(note) + shiftOf(note);
            return period > 0 && place % period < settings[RUN];
        }

        int bridges(int note) {
            int many = 0;
            for (int step = firstOf(note); step <= lastOf(note); step++) {
                if (!isHole(note, step)) {
                    many++;
                }
            }
            return many;
        }

        int longestBridge(int note) {
            int longest = 0;
            int row = 0;
            for (int step = firstOf(note); step <= lastOf(note); step++) {
                row = isHole(note, step) ? 0 : row + 1;
                longest = Math.max(longest, row);
            }
            return longest;
        }
    }

    /** The holes of a roll and what the tracker hears of them, as sets of tracks for each step. */
    private static final class Paper {
        private final int[] holes = new int[STEPS];
        private final int[] heard = new int[STEPS];
        private int weak;

        void perforate(Roll roll) {
            weak = roll.settingOf(WEAK);
            Arrays.fill(holes, 0);
            for (int note = 0; note < roll.size(); note++) {
                int track = roll.trackOf(note);
                int first = roll.firstOf(note);
                for (int step = first; step <= roll.lastOf(note); step++) {
                    if (roll.isHole(note, step)) {
                        punch(track, step);
                    }
                }
                if (roll.hasAccent(note)) {
                    punch(track == TRACKS - 1 ? track - 1 : track + 1, first);
                }
            }
            listen(roll.settingOf(HEAR));
        }

        private void punch(int track, int step) {
            if (isTrack(track) && isStep(step)) {
                holes[step] |= 1 << track;
            }
        }

        private void listen(int hear) {
            for (int step = 0; step < STEPS; step++) {
                int set = 0;
                for (int ahead = Math.max(0, step - hear); ahead <= step; ahead++) {
                    set |= holesAt(ahead);
                }
                heard[step] = set;
            }
        }

        int holesAt(int step) {
            return isStep(step) ? holes[step] : 0;
        }

        int heardAt(int step) {
            return isStep(step) ? heard[step] : 0;
        }

        boolean isHeard(int track, int step) {
            return isTrack(track) && (heardAt(step) >> track & 1) == 1;
        }

        /** The most holes on tracks side by side. */
        int sideBySide(int step) {
            int set = holesAt(step);
            int most = 0;
            int row = 0;
            for (int track = 0; track < TRACKS; track++) {
                row = (set >> track & 1) == 1 ? row + 1 : 0;
                most = Math.max(most, row);
            }
            return most;
        }

        boolean isWeak(int step) {
            return sideBySide(step) >= weak;
        }

        int weakSteps() {
            int many = 0;
            for (int step = 0; step < STEPS; step++) {
                if (isWeak(step)) {
                    many++;
                }
            }
            return many;
        }

        /** The first step at which the paper is weak, -1 if there is none. */
        int firstWeakStep() {
            for (int step = 0; step < STEPS; step++) {
                if (isWeak(step)) {
                    return step;
                }
            }
            return -1;
        }

        int allHoles() {
            int many = 0;
            for (int step = 0; step < STEPS; step++) {
                many += Integer.bitCount(holesAt(step));
            }
            return many;
        }

        private boolean startsSound(int track, int step) {
            return isHeard(track, step) && !isHeard(track, step - 1);
        }

        int sounds(int track) {
            int many = 0;
            for (int step = 0; step < STEPS; step++) {
                if (startsSound(track, step)) {
                    many++;
                }
            }
            return many;
        }

        /** The first step of a sound, -1 if there is no such sound. */
        int soundStart(int track, int sound) {
            int many = 0;
            for (int step = 0; step < STEPS; step++) {
                if (startsSound(track, step)) {
                    if (many == sound) {
                        return step;
                    }
                    many++;
                }
            }
            return -1;
        }

        int soundEnd(int track, int start) {
            int end = start;
            for (int step = start; step < STEPS && isHeard(track, step); step++) {
                end = step;
            }
            return end;
        }
    }

    /** The text, and the notes that the latest scan found in it. */
    private static final class Pad {
        private static final int SHORTEST_NOTE = 5;
        // every note but the last one has a ";" behind it
        private static final int MOST_FOUND = (MOST_CHARACTERS + 1) / (SHORTEST_NOTE + 1);

        private final char[] text = new char[MOST_CHARACTERS];
        private int length;
        private int position;
        private final int[] tracks = new int[MOST_FOUND];
        private final int[] firsts = new int[MOST_FOUND];
        private final int[] lasts = new int[MOST_FOUND];
        private final boolean[] accents = new boolean[MOST_FOUND];
        private int found;

        int length() {
            return length;
        }

        /** Where the latest scan stopped: at the fault, if it found one. */
        int position() {
            return position;
        }

        void clear() {
            length = 0;
        }

        void append(char character) {
            if (length < MOST_CHARACTERS) {
                text[length] = character;
                length++;
            }
        }

        int found() {
            return found;
        }

        private boolean isFound(int i) {
            return i >= 0 && i < found && i < MOST_FOUND;
        }

        int foundTrack(int i) {
            return isFound(i) ? tracks[i] : 0;
        }

        int foundFirst(int i) {
            return isFound(i) ? firsts[i] : 0;
        }

        int foundLast(int i) {
            return isFound(i) ? lasts[i] : 0;
        }

        boolean foundAccent(int i) {
            return isFound(i) && accents[i];
        }

        boolean hasTurnedNote() {
            for (int i = 0; i < found; i++) {
                if (foundLast(i) < foundFirst(i)) {
                    return true;
                }
            }
            return false;
        }

        /** Reads the text up to its end or its fault, and tells whether it has none. */
        boolean scan() {
            position = 0;
            found = 0;
            for (int i = 0; i < MOST_FOUND; i++) {
                if (!scanNote()) {
                    return false;
                }
                if (!accept(';')) {
                    return position == length;
                }
            }
            return false;
        }

        private boolean scanNote() {
            int track = scanNumber(TRACKS - 1);
            if (track < 0 || !accept(':')) {
                return false;
            }
            int first = scanNumber(STEPS - 1);
            if (first < 0 || !accept('-')) {
                return false;
            }
            int last = scanNumber(STEPS - 1);
            if (last < 0) {
                return false;
            }
            keep(track, first, last, accept('!'));
            return true;
        }

        private void keep(int track, int first, int last, boolean accent) {
            if (found < MOST_FOUND) {
                tracks[found] = track;
                firsts[found] = first;
                lasts[found] = last;
                accents[found] = accent;
                found++;
            }
        }

        private boolean accept(char character) {
            boolean stands = position < length && current() == character;
            if (stands) {
                position++;
            }
            return stands;
        }

        /** A digit that does not fit is left: it is what cannot stand where the next sign is due. -1 without a digit. */
        private int scanNumber(int greatest) {
            int value = digit();
            if (value < 0) {
                return -1;
            }
            position++;
            // behind a 0 no digit fits, as there are no leading zeros
            while (position < length && value > 0 && digit() >= 0 && 10 * value + digit() <= greatest) {
                value = 10 * value + digit();
                position++;
            }
            return value;
        }

        private int digit() {
            char character = current();
            return character >= '0' && character <= '9' ? character - '0' : -1;
        }

        private char current() {
            return position >= 0 && position < length && position < MOST_CHARACTERS ? text[position] : 0;
        }
    }

    /** The states ahead of the latest changes, in a ring, as the oldest one goes when it is full. */
    private static final class History {
        private final Roll[] states = new Roll[MOST_STATES];
        private int oldest;
        private int size;

        History() {
            for (int i = 0; i < MOST_STATES; i++) {
                states[i] = new Roll();
            }
        }

        int size() {
            return size;
        }

        void record(Roll roll) {
            states[placeOf(size)].become(roll);
            if (size < MOST_STATES) {
                size++;
            } else {
                oldest = placeOf(1);
            }
        }

        void takeBack(Roll roll) {
            if (size > 0) {
                size--;
                roll.become(states[placeOf(size)]);
            }
        }

        private int placeOf(int age) {
            return Math.floorMod(oldest + age, MOST_STATES);
        }
    }
}
