/** Counts the answers that are not as due, and says which they are. */
final class Check {
    private final String name;
    private int asked;
    private int wrong;

    Check(String name) {
        this.name = name;
    }

    static TuneSetter typed(String text) {
        TuneSetter setter = new TuneSetter();
        typeInto(setter, text);
        return setter;
    }

    static void typeInto(TuneSetter setter, String text) {
        for (int i = 0; i < text.length(); i++) {
            if (!setter.type(text.charAt(i))) {
                throw new IllegalArgumentException("can't be typed: " + text);
            }
        }
    }

    void due(String what, long got, long want) {
        asked++;
        if (got != want) {
            wrong++;
            System.out.println(name + ": " + what + " answered " + got + ", due is " + want);
        }
    }

    void due(String what, boolean got, boolean want) {
        due(what, got ? 1 : 0, want ? 1 : 0);
    }

    void due(String what, String got, String want) {
        asked++;
        if (!got.equals(want)) {
            wrong++;
            System.out.println(name + ": " + what + " answered " + got + ", due is " + want);
        }
    }

    /** The text is read by an object that stands at its first settings. */
    TuneSetter reads(String text, int notes) {
        return readsWith(typed(text), text, notes);
    }

    TuneSetter readsWith(TuneSetter setter, String text, int notes) {
        due("read() of \"" + text + "\"", setter.read(), notes);
        due("place() behind \"" + text + "\"", setter.place(), TuneSetter.BAD);
        due("notes() behind \"" + text + "\"", setter.notes(), notes);
        return setter;
    }

    void refuses(String text, int fault, int place) {
        refusesWith(typed(text), text, fault, place);
    }

    void refusesWith(TuneSetter setter, String text, int fault, int place) {
        due("read() of \"" + text + "\"", setter.read(), fault);
        due("place() behind \"" + text + "\"", setter.place(), place);
        due("bars() behind \"" + text + "\"", setter.bars(), 0);
        due("notes() behind \"" + text + "\"", setter.notes(), 0);
    }

    /** All notes as "onset+duration:pitch". */
    void plays(TuneSetter setter, String what, String want) {
        StringBuilder got = new StringBuilder();
        for (int i = 0; i < setter.notes(); i++) {
            got.append(i == 0 ? "" : " ").append(setter.note(i, 0)).append('+')
                .append(setter.note(i, 1)).append(':').append(setter.note(i, 2));
        }
        due("the notes of \"" + what + "\"", got.toString(), want);
    }

    /** The pitches of all notes. */
    void pitches(TuneSetter setter, String what, String want) {
        StringBuilder got = new StringBuilder();
        for (int i = 0; i < setter.notes(); i++) {
            got.append(i == 0 ? "" : " ").append(setter.note(i, 2));
        }
        due("the pitches of \"" + what + "\"", got.toString(), want);
    }

    void pitches(String text, String want) {
        TuneSetter setter = typed(text);
        setter.read();
        pitches(setter, text, want);
    }

    void end() {
        System.out.println(name + ": " + asked + " answers, " + wrong + " of them not as due");
        if (wrong != 0) {
            System.exit(1);
        }
    }
}
