import java.util.ArrayList;
import java.util.Comparator;
import java.util.List;

/**
 * The document's terms a second time, written another way (by descent through the grammar, lists and
 * trying everything out), to hold the class against.
 */
final class Oracle {
    /** What is wrong, at the place where reading stops. */
    private static final class Wrong extends RuntimeException {
        private static final long serialVersionUID = 1L;
        final int code;
        final int place;

        Wrong(int code, int place) {
            super(null, null, false, false);
            this.code = code;
            this.place = place;
        }
    }

    static final class Note {
        char letter;
        int octave;
        Integer accidental;
        int pitch;
    }

    static final class Item {
        final List<Note> notes = new ArrayList<>();
        boolean tie;
        int ticks;
    }

    static final class Bar {
        final List<Item> items = new ArrayList<>();
        String before = "";
        String behind = "";
        int ending;
        int ticks;
    }

    /** One note of one item that is played. */
    static final class Part {
        int onset;
        int ticks;
        int pitch;
        Part tiedTo;
        boolean claimed;

        int duration() {
            return ticks + (tiedTo == null ? 0 : tiedTo.duration());
        }
    }

    final List<Bar> bars = new ArrayList<>();
    final List<Part> played = new ArrayList<>();
    int answer;
    int place;
    private final String text;
    private final int fullBar;
    private final int unit;
    private final int key;
    private int at;
    private int lineAt;
    private int itemCount;
    private int tripletLeft;
    private String latestLine = "";

    Oracle(String text, int n, int d, int unit, int key) {
        this.text = text;
        this.fullBar = 384 * n / d;
        this.unit = unit;
        this.key = key;
        try {
            tune();
            play();
            if (played.size() > 64) {
                throw new Wrong(TuneSetter.LONG, text.length());
            }
            answer = played.size();
            place = TuneSetter.BAD;
        } catch (Wrong wrong) {
            answer = wrong.code;
            place = wrong.place;
            bars.clear();
            played.clear();
        }
    }

    private char look(int ahead) {
        return at + ahead < text.length() ? text.charAt(at + ahead) : '\0';
    }

    private boolean isOneOf(String some) {
        return look(0) != '\0' && some.indexOf(look(0)) >= 0;
    }

    private void need(String some) {
        if (!isOneOf(some)) {
            throw new Wrong(TuneSetter.SYNTAX, at);
        }
    }

    private void spaces() {
        while (look(0) == ' ') {
            at++;
        }
    }

    private void tune() {
        spaces();
        if (isOneOf("|:")) {
            line();
        }
        do {
            spaces();
            bar();
            line();
            bars.get(bars.size() - 1).behind = latestLine;
            spaces();
        } while (at < text.length());
    }

    private void line() {
        lineAt = at;
        String[] long2 = {"||", "|:", ":|", "::"};
        for (String line : long2) {
            if (text.startsWith(line, at)) {
                latestLine = line;
                at += 2;
                return;
            }
        }
        latestLine = "|";
        at++;
        if (text.charAt(at - 1) == ':') {
            throw new Wrong(TuneSetter.SYNTAX, at);
        }
    }

    private void bar() {
        need("([z^_=ABCDEFGabcdefg");
        if (bars.size() > 1 && bars.get(bars.size() - 1).ticks < fullBar) {
            throw new Wrong(TuneSetter.BARS, lineAt);
        }
        if (bars.size() == 8) {
            throw new Wrong(TuneSetter.MANY, at);
        }
        Bar bar = new Bar();
        bar.before = latestLine;
        if (!bars.isEmpty() && latestLine.equals("|")) {
            bar.ending = bars.get(bars.size() - 1).ending;
        }
        bars.add(bar);
        if (look(0) == '[' && (look(1) == '1' || look(1) == '2')) {
            bar.ending = look(1) - '0';
            at += 2;
            spaces();
        }
        tripletLeft = 0;
        do {
            item(bar);
            spaces();
        } while (!isOneOf("|:"));
        if (bar.ticks > fullBar || tripletLeft > 0) {
            throw new Wrong(TuneSetter.BARS, at);
        }
    }

    private void item(Bar bar) {
        need(tripletLeft > 0 ? "[z^_=ABCDEFGabcdefg" : "([z^_=ABCDEFGabcdefg");
        if (++itemCount > 48) {
            throw new Wrong(TuneSetter.MANY, at);
        }
        Item item = new Item();
        bar.items.add(item);
        if (look(0) == '(') {
            at++;
            need("3");
            at++;
            tripletLeft = 3;
            need("[z^_=ABCDEFGabcdefg");
        }
        if (look(0) == 'z') {
            at++;
        } else if (look(0) == '[') {
            at++;
            do {
                need("^_=ABCDEFGabcdefg");
                if (item.notes.size() == 4) {
                    throw new Wrong(TuneSetter.MANY, at);
                }
                note(bar, item);
            } while (look(0) != ']');
            at++;
        } else {
            note(bar, item);
        }
        item.ticks = length();
        bar.ticks += item.ticks;
        tripletLeft = Math.max(0, tripletLeft - 1);
        if (look(0) == '-' && !item.notes.isEmpty()) {
            item.tie = true;
            at++;
        }
    }

    private void note(Bar bar, Item item) {
        Note note = new Note();
        String[] signs = {"^^", "__", "^", "_", "="};
        int[] values = {2, -2, 1, -1, 0};
        for (int i = 0; i < signs.length && note.accidental == null; i++) {
            if (text.startsWith(signs[i], at)) {
                note.accidental = values[i];
                at += signs[i].length();
            }
        }
        need("ABCDEFGabcdefg");
        note.letter = Character.toUpperCase(look(0));
        note.octave = note.letter == look(0) ? 0 : 1;
        at++;
        char mark = look(0);
        while ((mark == '\'' || mark == ',') && look(0) == mark) {
            note.octave += mark == ',' ? -1 : 1;
            at++;
        }
        int natural = 60 + 12 * note.octave + "C.D.EF.G.A.B".indexOf(note.letter);
        note.pitch = natural + alteration(bar, note);
        if (note.pitch < 0 || note.pitch > 127) {
            throw new Wrong(TuneSetter.PITCH, at);
        }
        item.notes.add(note);
    }

    private int alteration(Bar bar, Note note) {
        if (note.accidental != null) {
            return note.accidental;
        }
        for (int i = bar.items.size() - 1; i >= 0; i--) {
            List<Note> notes = bar.items.get(i).notes;
            for (int j = notes.size() - 1; j >= 0; j--) {
                Note other = notes.get(j);
                if (other.accidental != null && other.letter == note.letter && other.octave == note.octave) {
                    return other.accidental;
                }
            }
        }
        if (key > 0) {
            return "FCGDAEB".substring(0, key).indexOf(note.letter) >= 0 ? 1 : 0;
        }
        return "BEADGCF".substring(0, -key).indexOf(note.letter) >= 0 ? -1 : 0;
    }

    private int number(int ifNone) {
        int from = at;
        while (look(0) >= '0' && look(0) <= '9') {
            if (at - from == 3) {
                throw new Wrong(TuneSetter.SYNTAX, at);
            }
            at++;
        }
        return from == at ? ifNone : Integer.parseInt(text.substring(from, at));
    }

    private int length() {
        long above = number(1);
        long below = 1;
        if (look(0) == '/') {
            at++;
            below = number(2);
        }
        if (tripletLeft > 0) {
            above *= 2;
            below *= 3;
        }
        for (int ticks = 1; ticks <= 1536; ticks++) {
            if (below != 0 && ticks * below * unit == above * 384) {
                return ticks;
            }
        }
        throw new Wrong(TuneSetter.LENGTH, at);
    }

    private void play() {
        List<Item> items = new ArrayList<>();
        int p = 0;
        int start = 0;
        int pass = 1;
        while (p < bars.size()) {
            Bar bar = bars.get(p);
            if ((bar.before.equals("|:") || bar.before.equals("::")) && p != start) {
                start = p;
                pass = 1;
            }
            boolean leftOut = bar.ending == 1 && pass == 2;
            if (!leftOut) {
                items.addAll(bar.items);
            }
            boolean goesBack = !leftOut && (bar.behind.equals(":|") || bar.behind.equals("::"));
            if (goesBack && pass == 1) {
                pass = 2;
                p = start;
                continue;
            }
            p++;
            if (goesBack) {
                start = p;
                pass = 1;
            }
        }
        sound(items);
    }

    private void sound(List<Item> items) {
        List<List<Part>> all = new ArrayList<>();
        int now = 0;
        for (Item item : items) {
            List<Part> parts = new ArrayList<>();
            for (Note note : item.notes) {
                Part part = new Part();
                part.onset = now;
                part.ticks = item.ticks;
                part.pitch = note.pitch;
                parts.add(part);
            }
            all.add(parts);
            now += item.ticks;
        }
        for (int i = 0; i + 1 < items.size(); i++) {
            if (items.get(i).tie) {
                all.get(i).forEach(new Tying(all.get(i + 1))::tie);
            }
        }
        for (List<Part> parts : all) {
            for (Part part : parts) {
                if (!part.claimed) {
                    played.add(part);
                }
            }
        }
    }

    private record Tying(List<Part> next) {
        void tie(Part part) {
            for (Part other : next) {
                if (!other.claimed && other.pitch == part.pitch) {
                    other.claimed = true;
                    part.tiedTo = other;
                    return;
                }
            }
        }
    }

    List<Integer> file() {
        List<int[]> events = new ArrayList<>();
        for (Part part : played) {
            events.add(new int[] {part.onset, 144, part.pitch});
            events.add(new int[] {part.onset + part.duration(), 128, part.pitch});
        }
        events.sort(Comparator.<int[]>comparingInt(e -> e[0]).thenComparingInt(e -> e[1])
            .thenComparingInt(e -> e[2]));
        List<Integer> track = new ArrayList<>();
        int before = 0;
        for (int[] event : events) {
            String bits = Integer.toBinaryString(event[0] - before);
            bits = "0".repeat((7 - bits.length() % 7) % 7) + bits;
            for (int i = 0; i < bits.length(); i += 7) {
                track.add(Integer.parseInt(bits.substring(i, i + 7), 2) + (i + 7 < bits.length() ? 128 : 0));
            }
            track.addAll(List.of(event[1], event[2], 64));
            before = event[0];
        }
        track.addAll(List.of(0, 255, 47, 0));
        List<Integer> bytes = new ArrayList<>(
            List.of(77, 84, 104, 100, 0, 0, 0, 6, 0, 0, 0, 1, 0, 96, 77, 84, 114, 107));
        bytes.addAll(List.of(0, 0, track.size() / 256, track.size() % 256));
        bytes.addAll(track);
        return bytes;
    }

    int width(int which) {
        int width = 2;
        for (Item item : bars.get(which).items) {
            width += 3;
            for (Note note : item.notes) {
                width += note.accidental == null ? 0 : 1;
            }
            for (int ticks = 48; ticks <= item.ticks; ticks *= 2) {
                width++;
            }
        }
        return width;
    }

    /** The least badness and the fewest lines, of all the ways there are; and the most lines. */
    int[] breaking(int lineWidth) {
        int[] best = {TuneSetter.BAD, TuneSetter.BAD, TuneSetter.BAD};
        int count = bars.size();
        for (int breaks = 0; count > 0 && breaks < 1 << count - 1; breaks++) {
            int badness = 0;
            int lines = 1;
            int width = 0;
            boolean fits = true;
            for (int bar = 0; bar < count; bar++) {
                width += width(bar);
                fits &= width <= lineWidth;
                if ((breaks >> bar & 1) != 0) {
                    badness += (lineWidth - width) * (lineWidth - width);
                    width = 0;
                    lines++;
                }
            }
            if (fits && (best[0] < 0 || badness < best[0])) {
                best = new int[] {badness, lines, lines};
            } else if (fits && badness == best[0]) {
                best[1] = Math.min(best[1], lines);
                best[2] = Math.max(best[2], lines);
            }
        }
        return best;
    }
}
