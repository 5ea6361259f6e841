import java.util.LinkedHashMap;
import java.util.Map;
import java.util.function.Consumer;
import java.util.function.Predicate;

/** A call that is refused changes nothing: behind it an object answers like its twin that was not asked. */
public final class RefusalTest {
    private static final Check CHECK = new Check("RefusalTest");
    private static final int BAD = TuneSetter.BAD;
    /** Its second bar is full in 3/4 with unit 16, and its third one has every letter. */
    private static final String TUNE = "F|B12|CDEFGAB|";
    /** The same for 4/4 with unit 8. */
    private static final String TUNE_AT_FIRST = "F|B8|CDEFGAB|";
    private static final int[] EXTREMES = {Integer.MIN_VALUE, Integer.MIN_VALUE + 4, Integer.MAX_VALUE - 3,
        Integer.MAX_VALUE};

    private final Map<String, Consumer<TuneSetter>> states = new LinkedHashMap<>();
    private final Map<String, Predicate<TuneSetter>> refused = new LinkedHashMap<>();

    public static void main(String[] args) {
        new RefusalTest().settings();
        new RefusalTest().characters();
        new RefusalTest().fullText();
        new RefusalTest().askedForWhatIsNot();
        new RefusalTest().nothingToWrite();
        CHECK.end();
    }

    private RefusalTest() {
        states.put("a new object", setter -> { });
        states.put("settings", RefusalTest::set);
        states.put("a text", setter -> {
            set(setter);
            Check.typeInto(setter, TUNE);
        });
        states.put("a tune", RefusalTest::readATune);
        states.put("a tune without its text", setter -> {
            readATune(setter);
            setter.clear();
        });
        states.put("a tune refused", RefusalTest::readWhatIsWrong);
        states.put("a tune LONG", setter -> {
            readATune(setter);
            setter.clear();
            Check.typeInto(setter, "[CDEF][CDEF][CDEF][CDEF][CDEF][CDEF][CDEF][CDEF]:|C|");
            setter.read();
        });
    }

    private static void set(TuneSetter setter) {
        setter.metre(3, 4);
        setter.unit(16);
        setter.key(-2);
    }

    private static void readATune(TuneSetter setter) {
        set(setter);
        Check.typeInto(setter, TUNE);
        setter.read();
        setter.write();
    }

    private static void readWhatIsWrong(TuneSetter setter) {
        readATune(setter);
        setter.type('x');
        setter.read();
    }

    private void settings() {
        CHECK.sentence("metre: False, changing nothing, when n is not 1 .. 12 or d not 2, 4 or 8");
        int[] tops = {0, -1, 13, 14, 255};
        for (int n : tops) {
            refused.put("metre(" + n + ", 4)", setter -> setter.metre(n, 4));
        }
        int[] bottoms = {-8, -4, -2, -1, 0, 1, 3, 5, 6, 7, 9, 10, 12, 16, 32};
        for (int d : bottoms) {
            refused.put("metre(5, " + d + ")", setter -> setter.metre(5, d));
        }
        for (int extreme : EXTREMES) {
            refused.put("metre(" + extreme + ", 2)", setter -> setter.metre(extreme, 2));
            refused.put("metre(3, " + extreme + ")", setter -> setter.metre(3, extreme));
            refused.put("metre(" + extreme + ", " + extreme + ")", setter -> setter.metre(extreme, extreme));
        }
        refusedEverywhere();
        CHECK.sentence("unit: False, changing nothing, when u is not 4, 8 or 16");
        int[] units = {-16, -8, -4, -1, 0, 1, 2, 3, 5, 6, 7, 9, 12, 15, 17, 32};
        for (int u : units) {
            refused.put("unit(" + u + ")", setter -> setter.unit(u));
        }
        for (int extreme : EXTREMES) {
            refused.put("unit(" + extreme + ")", setter -> setter.unit(extreme));
        }
        refusedEverywhere();
        CHECK.sentence("key: False, changing nothing, when k is not -7 .. 7");
        int[] keys = {-100, -9, -8, 8, 9, 100};
        for (int k : keys) {
            refused.put("key(" + k + ")", setter -> setter.key(k));
        }
        for (int extreme : EXTREMES) {
            refused.put("key(" + extreme + ")", setter -> setter.key(extreme));
        }
        refusedEverywhere();
    }

    private void characters() {
        CHECK.sentence("type: False, changing nothing, when c is not 32 .. 126");
        int[] codes = {0, 1, 9, 10, 30, 31, 127, 128, 160, 255, 256, 256 + 'C', 0x8000, 0xff00 + 'C', 0xffff};
        for (int code : codes) {
            refused.put("type((char) " + code + ")", setter -> setter.type((char) code));
        }
        refusedEverywhere();
    }

    private void fullText() {
        CHECK.sentence("type: False, changing nothing, when there are 120");
        states.clear();
        states.put("a full text", setter -> Check.typeInto(setter, TUNE_AT_FIRST + " ".repeat(107)));
        states.put("a full text that was read", setter -> {
            Check.typeInto(setter, TUNE_AT_FIRST + " ".repeat(107));
            setter.read();
            setter.write();
        });
        states.put("a full text that is wrong at its end", setter -> {
            Check.typeInto(setter, TUNE_AT_FIRST + " ".repeat(106) + "C");
            setter.read();
        });
        int[] codes = {31, 32, 'C', '|', 'x', 126, 127};
        for (int code : codes) {
            refused.put("type((char) " + code + ")", setter -> setter.type((char) code));
        }
        refusedEverywhere();
    }

    private void askedForWhatIsNot() {
        CHECK.sentence("note, width, byteAt, breaking, lines: BAD when there is none such");
        int[] none = {-1, 64, 1001, Integer.MIN_VALUE, Integer.MAX_VALUE};
        for (int i : none) {
            refused.put("note(" + i + ", 0)", setter -> setter.note(i, 0) != BAD);
            refused.put("note(0, " + i + ")", setter -> setter.note(0, i) != BAD);
            refused.put("width(" + i + ")", setter -> setter.width(i) != BAD);
        }
        int[] noByte = {-1, 1001, Integer.MIN_VALUE, Integer.MAX_VALUE};
        for (int i : noByte) {
            refused.put("byteAt(" + i + ")", setter -> setter.byteAt(i) != BAD);
        }
        int[] noWidth = {-1, 0, 1, 4, 1001, Integer.MIN_VALUE, Integer.MAX_VALUE};
        for (int l : noWidth) {
            refused.put("breaking(" + l + ")", setter -> setter.breaking(l) != BAD);
            refused.put("lines(" + l + ")", setter -> setter.lines(l) != BAD);
        }
        refusedEverywhere();
    }

    private void nothingToWrite() {
        CHECK.sentence("byteAt: a write() that answers BAD makes none and leaves them");
        states.remove("a tune");
        states.remove("a tune without its text");
        refused.put("write()", setter -> setter.write() != BAD);
        refusedEverywhere();
    }

    private void refusedEverywhere() {
        states.forEach((state, deed) -> {
            String due = twin(deed);
            refused.forEach((call, ask) -> {
                TuneSetter setter = new TuneSetter();
                deed.accept(setter);
                CHECK.due(call + " behind " + state, ask.test(setter), false);
                CHECK.due("all behind " + call + " behind " + state, answersOf(setter), due);
            });
        });
        refused.clear();
    }

    private static String twin(Consumer<TuneSetter> deed) {
        TuneSetter setter = new TuneSetter();
        deed.accept(setter);
        return answersOf(setter);
    }

    /** What it holds, and what it makes of its text and of others. */
    private static String answersOf(TuneSetter setter) {
        StringBuilder said = new StringBuilder();
        said.append(tuneOf(setter)).append(" file ").append(Check.bytesOf(setter));
        said.append("; its text ").append(setter.read()).append(tuneOf(setter));
        said.append("; cleared ").append(setter.clear());
        Check.typeInto(setter, TUNE);
        said.append("; another ").append(setter.read()).append(tuneOf(setter)).append(setter.clear());
        Check.typeInto(setter, TUNE_AT_FIRST);
        said.append("; a third ").append(setter.read()).append(tuneOf(setter)).append(setter.clear());
        return said.toString();
    }

    private static String tuneOf(TuneSetter setter) {
        StringBuilder said = new StringBuilder();
        said.append(" place ").append(setter.place()).append(" bars ").append(setter.bars());
        said.append(" notes ").append(setter.notes()).append(' ').append(Check.notesOf(setter));
        for (int bar = 0; bar <= 3; bar++) {
            said.append(" width ").append(setter.width(bar));
        }
        said.append(" breaking ").append(setter.breaking(40)).append(" lines ").append(setter.lines(40));
        return said.toString();
    }
}
