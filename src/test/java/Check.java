/** Counts the answers that are not as due, and says which they are. */
final class Check {
    private final String name;
    private int asked;
    private int wrong;
    private String sentence = "";

    Check(String name) {
        this.name = name;
    }

    static TuneSetter typed(String text) {
        TuneSetter setter = new TuneSetter();
        typeInto(setter, text);
        return setter;
    }

    /** In another metre, and with another unit than at first. */
    static TuneSetter typedIn(int n, int d, int unit, String text) {
        TuneSetter setter = typed(text);
        if (!setter.metre(n, d) || !setter.unit(unit)) {
            throw new IllegalArgumentException("can't be set: " + n + "/" + d + ", unit " + unit);
        }
        return setter;
    }

    static void typeInto(TuneSetter setter, String text) {
        for (int i = 0; i < text.length(); i++) {
            if (!setter.type(text.charAt(i))) {
                throw new IllegalArgumentException("can't be typed: " + text);
            }
        }
    }

    /** The answers asked from here on are due by these words of the document. */
    void sentence(String words) {
        sentence = words;
    }

    void due(String what, long got, long want) {
        asked++;
        if (got != want) {
            tellWrong(what, Long.toString(got), Long.toString(want));
        }
    }

    void due(String what, boolean got, boolean want) {
        due(what, got ? 1 : 0, want ? 1 : 0);
    }

    void due(String what, String got, String want) {
        asked++;
        if (!got.equals(want)) {
            tellWrong(what, got, want);
        }
    }

    private void tellWrong(String what, String got, String want) {
        wrong++;
        System.out.println(name + ": " + what + " answered " + got + ", due is " + want
            + (sentence.isEmpty() ? "" : ", for: " + sentence));
    }

    /** The text is read by an object that stands at its first settings. */
    TuneSetter reads(String text, int notes) {
        return readsWith(typed(text), text, notes);
    }

    TuneSetter readsWith(TuneSetter setter, String text, int notes) {
        due("read() of \"" + text + "\"", setter.read(), notes);
        due("place() behind \"" + text + "\"", setter.place(), TuneSetter.BAD);
        due("notes() behind \"" + text + "\"", setter.notes(), notes);
        return setter;
    }

    void refuses(String text, int fault, int place) {
        refusesWith(typed(text), text, fault, place);
    }

    void refusesWith(TuneSetter setter, String text, int fault, int place) {
        due("read() of \"" + text + "\"", setter.read(), fault);
        due("place() behind \"" + text + "\"", setter.place(), place);
        due("bars() behind \"" + text + "\"", setter.bars(), 0);
        due("notes() behind \"" + text + "\"", setter.notes(), 0);
    }

    /** The place counts only where the answer says that something is wrong. */
    void answers(TuneSetter setter, String text, int answer, int place) {
        if (answer < 0) {
            refusesWith(setter, text, answer, place);
        } else {
            readsWith(setter, text, answer);
        }
    }

    /** All notes as "onset+duration:pitch". */
    static String notesOf(TuneSetter setter) {
        StringBuilder got = new StringBuilder();
        for (int i = 0; i < setter.notes(); i++) {
            got.append(i == 0 ? "" : " ").append(setter.note(i, 0)).append('+')
                .append(setter.note(i, 1)).append(':').append(setter.note(i, 2));
        }
        return got.toString();
    }

    void plays(TuneSetter setter, String what, String want) {
        due("the notes of \"" + what + "\"", notesOf(setter), want);
    }

    void plays(String text, String want) {
        TuneSetter setter = typed(text);
        setter.read();
        plays(setter, text, want);
    }

    /** All bytes that were made last. */
    static String bytesOf(TuneSetter setter) {
        StringBuilder got = new StringBuilder();
        int next = setter.byteAt(0);
        for (int i = 1; next != TuneSetter.BAD; i++) {
            got.append(i == 1 ? "" : " ").append(next);
            next = setter.byteAt(i);
        }
        return got.toString();
    }

    /** The pitches of all notes. */
    void pitches(TuneSetter setter, String what, String want) {
        StringBuilder got = new StringBuilder();
        for (int i = 0; i < setter.notes(); i++) {
            got.append(i == 0 ? "" : " ").append(setter.note(i, 2));
        }
        due("the pitches of \"" + what + "\"", got.toString(), want);
    }

    void pitches(String text, String want) {
        TuneSetter setter = typed(text);
        setter.read();
        pitches(setter, text, want);
    }

    void end() {
        System.out.println(name + ": " + asked + " answers, " + wrong + " of them not as due");
        if (wrong != 0) {
            System.exit(1);
        }
    }
}
