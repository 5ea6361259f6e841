/** Promises 7 to 11 as calls: what stays, what goes, and what there is none of. */
public final class CallTest {
    private static final Check CHECK = new Check("CallTest");
    private static final int BAD = TuneSetter.BAD;
    private static final String GOOD = "C4 [EG]4|D8:|";
    private static final String LONG = "[CDEF][CDEF][CDEF][CDEF][CDEF][CDEF][CDEF][CDEF]:|C|";
    /** A text for each thing that can be wrong, in the order of the constants from SYNTAX on. */
    private static final String[] WRONG = {"C8|x", "C8|D/7|", "C8|C''''''|", "C8|C9|", "[CDEFG]8|", LONG};
    private static final int[] PLACES = {3, 6, 10, 5, 5, 52};

    public static void main(String[] args) {
        calls512();
        textStays();
        tuneWithoutNotes();
        noTuneAnyMore();
        nothingButReadChangesTheTune();
        placeOfTheLatestRead();
        placeOfLong();
        bars();
        notes();
        note();
        CHECK.end();
    }

    private static void calls512() {
        CHECK.sentence("An object is used for at most 512 calls after it has been made");
        TuneSetter setter = new TuneSetter();
        int calls = 0;
        for (int round = 0; round < 4; round++) {
            CHECK.due("clear() in round " + round, setter.clear(), round == 0 ? 0 : 120);
            String text = "C8|".repeat(8) + " ".repeat(96);
            for (int i = 0; i < 120; i++) {
                CHECK.due("type() in round " + round, setter.type(text.charAt(i)), true);
            }
            calls += 121;
        }
        CHECK.due("read() as call " + ++calls, setter.read(), 8);
        CHECK.due("write() as call " + ++calls, setter.write(), 98);
        for (int bar = 0; calls < 510; bar++, calls++) {
            CHECK.due("width() as call " + calls, setter.width(bar % 8), 9);
        }
        CHECK.due("breaking() as the 511th", setter.breaking(18), 0);
        CHECK.due("lines() as the 512th", setter.lines(18), 4);
    }

    private static void textStays() {
        CHECK.sentence("read: Reads the text (which stays)");
        TuneSetter setter = CHECK.reads(GOOD, 8);
        CHECK.readsWith(setter, GOOD + " again", 8);
        Check.typeInto(setter, "E|");
        CHECK.readsWith(setter, GOOD + "E|", 9);
        CHECK.due("clear() behind it", setter.clear(), GOOD.length() + 2);
        for (int i = 0; i < WRONG.length; i++) {
            setter = Check.typed(WRONG[i]);
            CHECK.refusesWith(setter, WRONG[i], TuneSetter.SYNTAX - i, PLACES[i]);
            CHECK.refusesWith(setter, WRONG[i] + " again", TuneSetter.SYNTAX - i, PLACES[i]);
            CHECK.due("clear() behind " + WRONG[i], setter.clear(), WRONG[i].length());
        }
    }

    private static void tuneWithoutNotes() {
        CHECK.sentence("read: how many notes are played, and it is the tune");
        TuneSetter setter = CHECK.reads("z|", 0);
        CHECK.due("bars() of rests", setter.bars(), 1);
        CHECK.due("width(0) of rests", setter.width(0), 6);
        CHECK.due("breaking(6) of rests", setter.breaking(6), 0);
        CHECK.due("write() of rests", setter.write(), 26);
    }

    private static void noTuneAnyMore() {
        CHECK.sentence("read: or what is wrong, and there is no tune (any more)");
        for (int i = 0; i < WRONG.length; i++) {
            TuneSetter setter = Check.typed(WRONG[i]);
            CHECK.refusesWith(setter, WRONG[i], TuneSetter.SYNTAX - i, PLACES[i]);
            hasNoTune(setter, WRONG[i]);
            setter = CHECK.reads(GOOD, 8);
            setter.clear();
            Check.typeInto(setter, WRONG[i]);
            CHECK.refusesWith(setter, WRONG[i], TuneSetter.SYNTAX - i, PLACES[i]);
            hasNoTune(setter, WRONG[i] + " behind a tune");
            setter.clear();
            Check.typeInto(setter, GOOD);
            CHECK.readsWith(setter, GOOD + " behind " + WRONG[i], 8);
            CHECK.due("bars() behind that", setter.bars(), 2);
        }
        TuneSetter setter = CHECK.reads(GOOD, 8);
        setter.clear();
        CHECK.refusesWith(setter, "", TuneSetter.SYNTAX, 0);
        hasNoTune(setter, "no text");
    }

    private static void hasNoTune(TuneSetter setter, String what) {
        CHECK.due("note(0, 0) behind " + what, setter.note(0, 0), BAD);
        CHECK.due("width(0) behind " + what, setter.width(0), BAD);
        CHECK.due("write() behind " + what, setter.write(), BAD);
        CHECK.due("breaking(100) behind " + what, setter.breaking(100), BAD);
        CHECK.due("lines(100) behind " + what, setter.lines(100), BAD);
    }

    private static void nothingButReadChangesTheTune() {
        CHECK.sentence("metre: (Metre, unit and key count when a tune is read; later changes leave it.)");
        TuneSetter setter = CHECK.reads(GOOD, 8);
        String notes = Check.notesOf(setter);
        setter.metre(1, 8);
        staysAsRead(setter, "metre", notes);
        setter.unit(4);
        staysAsRead(setter, "unit", notes);
        setter.key(7);
        staysAsRead(setter, "key", notes);
        setter.type('x');
        staysAsRead(setter, "type", notes);
        setter.clear();
        staysAsRead(setter, "clear", notes);
        setter.write();
        staysAsRead(setter, "write", notes);
        Check.typeInto(setter, "C/|");
        setter.read();
        CHECK.plays(setter, "C/| in 1/8, unit 4, 7 sharps", "0+48:61");
    }

    private static void staysAsRead(TuneSetter setter, String call, String notes) {
        CHECK.due("notes behind " + call, Check.notesOf(setter), notes);
        CHECK.due("bars() behind " + call, setter.bars(), 2);
        CHECK.due("width(0) behind " + call, setter.width(0), 14);
        CHECK.due("breaking(22) behind " + call, setter.breaking(22), 64);
        CHECK.due("lines(22) behind " + call, setter.lines(22), 2);
    }

    private static void placeOfTheLatestRead() {
        CHECK.sentence("place: BAD when it said nothing of the kind, or there was none");
        TuneSetter setter = new TuneSetter();
        CHECK.due("place() of a new object", setter.place(), BAD);
        Check.typeInto(setter, "C8|x");
        CHECK.due("place() before read()", setter.place(), BAD);
        setter.read();
        CHECK.due("place() behind read()", setter.place(), 3);
        CHECK.due("place() again", setter.place(), 3);
        setter.metre(1, 8);
        setter.unit(4);
        setter.key(7);
        setter.type('y');
        setter.write();
        CHECK.due("place() behind other calls", setter.place(), 3);
        setter.clear();
        CHECK.due("place() behind clear()", setter.place(), 3);
        CHECK.sentence("place: The place of what the latest read() said to be wrong");
        Check.typeInto(setter, "xC8|");
        setter.read();
        CHECK.due("place() at 0", setter.place(), 0);
        setter.clear();
        Check.typeInto(setter, "C/|");
        CHECK.readsWith(setter, "C/| behind what is wrong", 1);
        setter.type('x');
        CHECK.due("place() before it is read", setter.place(), BAD);
        setter.read();
        CHECK.due("place() when it is read", setter.place(), 3);
    }

    private static void placeOfLong() {
        CHECK.sentence("place: (of LONG the text's length)");
        CHECK.refuses(LONG, TuneSetter.LONG, 52);
        CHECK.refuses(LONG + " ", TuneSetter.LONG, 53);
        CHECK.refuses(LONG + " ".repeat(68), TuneSetter.LONG, 120);
        TuneSetter setter = Check.typed(LONG);
        setter.read();
        setter.type(' ');
        CHECK.due("place() of LONG behind type()", setter.place(), 52);
    }

    private static void bars() {
        CHECK.sentence("bars: How many bars the tune has as written; 0 when there is none");
        CHECK.due("bars() of a new object", new TuneSetter().bars(), 0);
        TuneSetter setter = Check.typed("C8|");
        CHECK.due("bars() before read()", setter.bars(), 0);
        for (int count = 1; count <= 8; count++) {
            CHECK.due("bars() of " + count, CHECK.reads("z8:|".repeat(count), 0).bars(), count);
        }
    }

    private static void notes() {
        CHECK.sentence("notes: How many notes are played; 0 when there is no tune");
        CHECK.due("notes() of a new object", new TuneSetter().notes(), 0);
        TuneSetter setter = Check.typed("C8|");
        CHECK.due("notes() before read()", setter.notes(), 0);
        CHECK.reads("C8|", 1);
        CHECK.reads("C8:|", 2);
        CHECK.reads("C8-:|", 1);
        CHECK.reads(LONG.substring(0, 50), 64);
    }

    private static void note() {
        CHECK.sentence("note: Of note i the onset (what = 0), duration (1), pitch (2). BAD when there is none such.");
        TuneSetter setter = CHECK.reads("z ^C3D|", 2);
        int[][] due = {{48, 144, 61}, {192, 48, 62}};
        int[] some = {Integer.MIN_VALUE, -65, -2, -1, 0, 1, 2, 3, 63, 64, 65, Integer.MAX_VALUE};
        for (int i : some) {
            for (int what : some) {
                boolean there = i >= 0 && i < 2 && what >= 0 && what < 3;
                CHECK.due("note(" + i + ", " + what + ")", setter.note(i, what), there ? due[i][what] : BAD);
            }
        }
        TuneSetter most = CHECK.reads(LONG.substring(0, 50), 64);
        CHECK.due("note(63, 0) of 64", most.note(63, 0), 720);
        CHECK.due("note(63, 2) of 64", most.note(63, 2), 65);
        CHECK.due("note(64, 0) of 64", most.note(64, 0), BAD);
        CHECK.due("note(0, 0) of rests", CHECK.reads("z|", 0).note(0, 0), BAD);
        CHECK.due("note(0, 0) of a new object", new TuneSetter().note(0, 0), BAD);
    }
}
