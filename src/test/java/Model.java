import java.util.ArrayDeque;
import java.util.ArrayList;
import java.util.Comparator;
import java.util.Deque;
import java.util.List;
import java.util.regex.Matcher;
import java.util.regex.Pattern;

/** The document a second time, as plainly as it can be said, with the Java library: what ModelTest compares with. */
final class Model {
    record Note(int track, int first, int last, int shift, boolean accent) {
        boolean covers(int step) {
            return first <= step && step <= last;
        }

        boolean meets(Note other) {
            for (int step = 0; step < 100; step++) {
                if (track == other.track && covers(step) && other.covers(step)) {
                    return true;
                }
            }
            return false;
        }
    }

    record State(int run, int bridge, int hear, int weak, List<Note> notes) {
    }

    private static final Comparator<Note> ORDER = Comparator.comparingInt(Note::first).thenComparingInt(Note::track);
    private static final String STEP = "(0|[1-9][0-9]?)";
    private static final String NOTE = "(0|[1-9]|1[01]):" + STEP + "-" + STEP + "(!?)";
    private static final Pattern TEXT = Pattern.compile(NOTE + "(;" + NOTE + ")*");

    private State now = new State(3, 1, 1, 4, List.of());
    private final Deque<State> history = new ArrayDeque<>();
    private final State[] slots = new State[2];
    private String pad = "";

    // ---- helpers

    private void change(State then) {
        List<Note> sorted = new ArrayList<>(then.notes);
        sorted.sort(ORDER);
        history.addLast(now);
        if (history.size() > 6) {
            history.removeFirst();
        }
        now = new State(then.run, then.bridge, then.hear, then.weak, List.copyOf(sorted));
    }

    private void changeNotes(List<Note> notes) {
        change(new State(now.run, now.bridge, now.hear, now.weak, notes));
    }

    private boolean isNote(int note) {
        return note >= 0 && note < now.notes.size();
    }

    private static boolean in(long value, long least, long greatest) {
        return least <= value && value <= greatest;
    }

    private static boolean collides(List<Note> notes, Note added) {
        return notes.stream().anyMatch(added::meets);
    }

    private static boolean bridge(State state, Note note, int step) {
        if (!note.covers(step) || step == note.first || step == note.last) {
            return false;
        }
        int left = step - note.first + note.shift;
        while (left >= state.run + state.bridge) {
            left -= state.run + state.bridge;
        }
        return !(left < state.run);
    }

    private static boolean hole(State state, int track, int step) {
        for (Note note : state.notes) {
            if (note.track == track && note.covers(step) && !bridge(state, note, step)) {
                return true;
            }
            int beside = note.track == 11 ? 10 : note.track + 1;
            if (note.accent && beside == track && note.first == step) {
                return true;
            }
        }
        return false;
    }

    private static boolean heard(State state, int track, int step) {
        for (int back = 0; back <= state.hear; back++) {
            if (step - back >= 0 && hole(state, track, step - back)) {
                return true;
            }
        }
        return false;
    }

    private static int side(State state, int step) {
        int most = 0;
        for (int from = 0; from < 12; from++) {
            int to = from;
            while (to < 12 && hole(state, to, step)) {
                to++;
            }
            most = Math.max(most, to - from);
        }
        return most;
    }

    private static List<Integer> weakSteps(State state) {
        List<Integer> steps = new ArrayList<>();
        for (int step = 0; step < 100; step++) {
            if (side(state, step) >= state.weak) {
                steps.add(step);
            }
        }
        return steps;
    }

    private static List<int[]> sounds(State state, int track) {
        List<int[]> sounds = new ArrayList<>();
        int[] open = null;
        for (int step = 0; step < 100; step++) {
            if (!heard(state, track, step)) {
                open = null;
            } else if (open == null) {
                open = new int[] {step, step};
                sounds.add(open);
            } else {
                open[1] = step;
            }
        }
        return sounds;
    }

    private static boolean gap(State state, Note note) {
        for (int step = note.first; step <= note.last; step++) {
            if (!heard(state, note.track, step)) {
                return true;
            }
        }
        return false;
    }

    // ---- changes

    int set(int setting, int value) {
        int[] least = {1, 1, 0, 2};
        int[] greatest = {9, 4, 4, 12};
        if (!in(setting, 0, 3) || !in(value, least[setting], greatest[setting])) {
            return -2;
        }
        int[] values = {now.run, now.bridge, now.hear, now.weak};
        int previous = values[setting];
        values[setting] = value;
        change(new State(values[0], values[1], values[2], values[3], now.notes));
        return previous;
    }

    int note(int track, int first, int last) {
        if (!in(track, 0, 11)) {
            return -1;
        }
        if (!in(first, 0, 99) || !in(last, 0, 99) || last < first) {
            return -2;
        }
        if (now.notes.size() == 40) {
            return -4;
        }
        Note added = new Note(track, first, last, 0, false);
        if (collides(now.notes, added)) {
            return -5;
        }
        List<Note> notes = new ArrayList<>(now.notes);
        notes.add(added);
        changeNotes(notes);
        return now.notes.indexOf(added);
    }

    int drop(int note) {
        if (!isNote(note)) {
            return -1;
        }
        List<Note> notes = new ArrayList<>(now.notes);
        notes.remove(note);
        changeNotes(notes);
        return now.notes.size();
    }

    int shift(int note, int shift) {
        if (!isNote(note)) {
            return -1;
        }
        if (!in(shift, 0, 12)) {
            return -2;
        }
        Note old = now.notes.get(note);
        changeNotes(shifted(now.notes, note, shift));
        return old.shift;
    }

    private static List<Note> shifted(List<Note> from, int note, int shift) {
        List<Note> notes = new ArrayList<>(from);
        Note old = notes.get(note);
        notes.set(note, new Note(old.track, old.first, old.last, shift, old.accent));
        return notes;
    }

    int accent(int note, boolean has) {
        if (!isNote(note)) {
            return -1;
        }
        List<Note> notes = new ArrayList<>(now.notes);
        Note old = notes.get(note);
        notes.set(note, new Note(old.track, old.first, old.last, old.shift, has));
        changeNotes(notes);
        return old.accent ? 1 : 0;
    }

    int insert(int step, int many) {
        if (!in(step, 0, 99) || !in(many, 1, 50)) {
            return -2;
        }
        List<Note> notes = new ArrayList<>();
        int longer = 0;
        for (Note note : now.notes) {
            int first = note.first >= step ? note.first + many : note.first;
            int last = note.last >= step ? note.last + many : note.last;
            longer += last - first > note.last - note.first ? 1 : 0;
            notes.add(new Note(note.track, first, last, note.shift, note.accent));
        }
        if (notes.stream().anyMatch(note -> note.last > 99)) {
            return -5;
        }
        changeNotes(notes);
        return longer;
    }

    int cut(int step, int many) {
        if (!in(step, 0, 99) || !in(many, 1, 100) || many > 100 - step) {
            return -2;
        }
        List<Note> notes = new ArrayList<>();
        for (Note note : now.notes) {
            List<Integer> left = new ArrayList<>();
            for (int i = note.first; i <= note.last; i++) {
                if (i < step) {
                    left.add(i);
                } else if (i >= step + many) {
                    left.add(i - many);
                }
            }
            if (!left.isEmpty()) {
                notes.add(new Note(note.track, left.get(0), left.get(left.size() - 1), note.shift, note.accent));
            }
        }
        int gone = now.notes.size() - notes.size();
        changeNotes(notes);
        return gone;
    }

    private List<Note> passage(int from, int to, int goal) {
        List<Note> copies = new ArrayList<>();
        for (Note note : now.notes) {
            if (from <= note.first && note.last <= to) {
                int by = goal - from;
                copies.add(new Note(note.track, note.first + by, note.last + by, note.shift, note.accent));
            }
        }
        return copies;
    }

    private int copyError(int from, int to, int goal) {
        if (!in(from, 0, 99) || !in(to, from, 99) || !in(goal, 0, 99)) {
            return -2;
        }
        List<Note> copies = passage(from, to, goal);
        if (now.notes.size() + copies.size() > 40) {
            return -4;
        }
        return copies.stream().anyMatch(note -> note.last > 99 || collides(now.notes, note)) ? -5 : 0;
    }

    int copy(int from, int to, int goal) {
        int error = copyError(from, to, goal);
        if (error < 0) {
            return error;
        }
        List<Note> copies = passage(from, to, goal);
        List<Note> notes = new ArrayList<>(now.notes);
        notes.addAll(copies);
        changeNotes(notes);
        return copies.size();
    }

    int read() {
        if (!TEXT.matcher(pad).matches()) {
            return -3;
        }
        List<Note> found = new ArrayList<>();
        for (String part : pad.split(";")) {
            Matcher matcher = Pattern.compile(NOTE).matcher(part);
            matcher.matches();
            found.add(new Note(Integer.parseInt(matcher.group(1)), Integer.parseInt(matcher.group(2)),
                    Integer.parseInt(matcher.group(3)), 0, !matcher.group(4).isEmpty()));
        }
        if (found.stream().anyMatch(note -> note.last < note.first)) {
            return -2;
        }
        if (now.notes.size() + found.size() > 40) {
            return -4;
        }
        List<Note> notes = new ArrayList<>(now.notes);
        for (Note note : found) {
            if (collides(notes, note)) {
                return -5;
            }
            notes.add(note);
        }
        changeNotes(notes);
        pad = "";
        return notes.size();
    }

    // ---- what there is

    int of(int note, int what) {
        if (!isNote(note)) {
            return -1;
        }
        Note it = now.notes.get(note);
        StringBuilder pattern = new StringBuilder();
        for (int step = it.first; step <= it.last; step++) {
            pattern.append(bridge(now, it, step) ? '-' : 'o');
        }
        return switch (what) {
            case 0 -> it.track;
            case 1 -> it.first;
            case 2 -> it.last;
            case 3 -> it.shift;
            case 4 -> it.accent ? 1 : 0;
            case 5 -> (int) pattern.chars().filter(sign -> sign == '-').count();
            case 6 -> List.of(pattern.toString().split("o")).stream().mapToInt(String::length).max().orElse(0);
            case 7 -> gap(now, it) ? 0 : 1;
            default -> -2;
        };
    }

    int at(int step, int what) {
        if (!in(step, 0, 99) || !in(what, 0, 4)) {
            return -2;
        }
        int holes = 0;
        int heard = 0;
        int noted = 0;
        for (int track = 0; track < 12; track++) {
            final int it = track;
            holes += hole(now, track, step) ? 1 << track : 0;
            heard += heard(now, track, step) ? 1 << track : 0;
            noted += now.notes.stream().anyMatch(note -> note.track == it && note.covers(step)) ? 1 << track : 0;
        }
        int[] answers = {holes, heard, noted, side(now, step), side(now, step) >= now.weak ? 1 : 0};
        return answers[what];
    }

    int sound(int track, int sound, int what) {
        if (!in(track, 0, 11)) {
            return -1;
        }
        List<int[]> sounds = sounds(now, track);
        if (!in(sound, 0, sounds.size() - 1)) {
            return -1;
        }
        int[] it = sounds.get(sound);
        Note row = new Note(track, it[0], it[1], 0, false);
        return switch (what) {
            case 0 -> it[0];
            case 1 -> it[1];
            case 2 -> (int) now.notes.stream().filter(row::meets).count();
            default -> -2;
        };
    }

    int count(int what) {
        int holes = 0;
        int sounds = 0;
        for (int track = 0; track < 12; track++) {
            sounds += sounds(now, track).size();
            for (int step = 0; step < 100; step++) {
                holes += hole(now, track, step) ? 1 : 0;
            }
        }
        List<Integer> weak = weakSteps(now);
        return switch (what) {
            case 0 -> now.notes.size();
            case 1 -> holes;
            case 2 -> weak.size();
            case 3 -> weak.isEmpty() ? -6 : weak.get(0);
            case 4 -> sounds;
            case 5 -> (int) now.notes.stream().filter(note -> gap(now, note)).count();
            case 6 -> now.notes.stream().mapToInt(Note::last).max().orElse(-6);
            case 7 -> now.run;
            case 8 -> now.bridge;
            case 9 -> now.hear;
            case 10 -> now.weak;
            case 11 -> pad.length();
            case 12 -> history.size();
            default -> -2;
        };
    }

    // ---- what if

    int bestShift(int note, int what) {
        if (!isNote(note)) {
            return -1;
        }
        if (!in(what, 0, 1)) {
            return -2;
        }
        int[] best = null;
        for (int shift = 0; shift <= 12; shift++) {
            List<Note> notes = shifted(now.notes, note, shift);
            int weak = weakSteps(new State(now.run, now.bridge, now.hear, now.weak, notes)).size();
            if (best == null || weak < best[1]) {
                best = new int[] {shift, weak};
            }
        }
        return best[what];
    }

    int greatestRun() {
        int greatest = -6;
        for (int run = 1; run <= 9; run++) {
            if (weakSteps(new State(run, now.bridge, now.hear, now.weak, now.notes)).isEmpty()) {
                greatest = run;
            }
        }
        return greatest;
    }

    int swallowed(int track) {
        if (!in(track, 0, 11)) {
            return -1;
        }
        List<int[]> sounds = sounds(now, track);
        return (int) now.notes.stream().filter(note -> note.track == track && sounds.stream()
                .anyMatch(sound -> sound[0] < note.first && note.first <= sound[1])).count();
    }

    int freeGoal(int from, int to) {
        if (!in(from, 0, 99) || !in(to, from, 99)) {
            return -2;
        }
        for (int goal = 0; goal < 100 && !passage(from, to, 0).isEmpty(); goal++) {
            if (copyError(from, to, goal) == 0) {
                return goal;
            }
        }
        return -6;
    }

    // ---- texts

    int put(long characters) {
        StringBuilder added = new StringBuilder();
        String bytes = Long.toHexString(characters);
        if (bytes.length() % 2 == 1) {
            bytes = "0" + bytes;
        }
        for (int i = 0; i < bytes.length(); i += 2) {
            int code = Integer.parseInt(bytes.substring(i, i + 2), 16);
            if (!in(code, 33, 126)) {
                return -2;
            }
            added.append((char) code);
        }
        if (pad.length() + added.length() > 60) {
            return -4;
        }
        pad += added;
        return pad.length();
    }

    int wipe() {
        int length = pad.length();
        pad = "";
        return length;
    }

    int fault() {
        for (int end = 0; end <= pad.length(); end++) {
            Matcher matcher = TEXT.matcher(pad.substring(0, end));
            boolean whole = matcher.matches();
            if (!whole && !matcher.hitEnd()) {
                return end - 1;
            }
            if (end == pad.length()) {
                return whole ? -6 : end;
            }
        }
        return -6;
    }

    // ---- undo, saving

    int undo() {
        if (history.isEmpty()) {
            return -5;
        }
        now = history.removeLast();
        return history.size();
    }

    int save(int slot) {
        if (!in(slot, 0, 1)) {
            return -2;
        }
        slots[slot] = now;
        return now.notes.size();
    }

    int restore(int slot) {
        if (!in(slot, 0, 1)) {
            return -2;
        }
        if (slots[slot] == null) {
            return -5;
        }
        change(slots[slot]);
        return now.notes.size();
    }
}
