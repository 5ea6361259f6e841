/** Promises 13 and 14, and the terms of the file: its bytes, on both sides of each boundary. */
public final class FileTest {
    private static final Check CHECK = new Check("FileTest");
    private static final String HEAD = "77 84 104 100 0 0 0 6 0 0 0 1 0 96 77 84 114 107 ";
    private static final String TAIL = "0 255 47 0";

    public static void main(String[] args) {
        howManyFollow();
        bothEventsOfANote();
        orderOfEvents();
        ticksFromNothingOn();
        sevenBitsAByte();
        theEnd();
        write();
        noTuneToWrite();
        byteAt();
        madeLast();
        CHECK.end();
    }

    private static void makes(String text, String events) {
        TuneSetter setter = Check.typed(text);
        setter.read();
        makesWith(setter, text, events);
    }

    private static void makesWith(TuneSetter setter, String what, String events) {
        String want = HEAD + events + TAIL;
        CHECK.due("write() of " + what, setter.write(), want.split(" ").length);
        CHECK.due("the bytes of " + what, Check.bytesOf(setter), want);
    }

    private static void makesWide(String text, String events) {
        TuneSetter setter = Check.typedIn(12, 2, 4, text);
        setter.read();
        makesWith(setter, text + " in 12/2", events);
    }

    private static void howManyFollow() {
        CHECK.sentence("four bytes that say how many follow (the highest first)");
        makes("z8|", "0 0 0 4 ");
        makes("C|", "0 0 0 12 0 144 60 64 48 128 60 64 ");
        counts("C".repeat(29) + "C4C4|", 31, 254, 0);
        counts("C".repeat(28) + "C4C4C4|", 31, 255, 0);
        counts("C".repeat(27) + "C4C4C4C4|", 31, 0, 1);
        counts("C".repeat(26) + "C4C4C4C4C4|", 31, 1, 1);
        counts("[CDEF]".repeat(16) + "|", 64, 4, 2);
    }

    private static void counts(String text, int notes, int low, int high) {
        TuneSetter setter = CHECK.readsWith(Check.typedIn(12, 2, 8, text), text + " in 12/2", notes);
        CHECK.due("write() of " + text, setter.write(), 22 + 256 * high + low);
        CHECK.due("byteAt(18)", setter.byteAt(18), 0);
        CHECK.due("byteAt(19)", setter.byteAt(19), 0);
        CHECK.due("byteAt(20)", setter.byteAt(20), high);
        CHECK.due("byteAt(21)", setter.byteAt(21), low);
        CHECK.due("the last byte but one", setter.byteAt(20 + 256 * high + low), 47);
        CHECK.due("the last byte", setter.byteAt(21 + 256 * high + low), 0);
        CHECK.due("one byte more", setter.byteAt(22 + 256 * high + low), TuneSetter.BAD);
    }

    private static void bothEventsOfANote() {
        CHECK.sentence("for each note 144, its pitch and 64 at its onset, and 128, its pitch and 64 at its end");
        makes("C8|", "0 0 0 13 0 144 60 64 131 0 128 60 64 ");
        makes("C4-C4|", "0 0 0 13 0 144 60 64 131 0 128 60 64 ");
        makes("C,,,,,|", "0 0 0 12 0 144 0 64 48 128 0 64 ");
        makes("G'''''|", "0 0 0 12 0 144 127 64 48 128 127 64 ");
    }

    private static void orderOfEvents() {
        CHECK.sentence("by time, at one time those with 128 first, then by pitch");
        makes("D2C2|", "0 0 0 20 0 144 62 64 96 128 62 64 0 144 60 64 96 128 60 64 ");
        makes("C2D2|", "0 0 0 20 0 144 60 64 96 128 60 64 0 144 62 64 96 128 62 64 ");
        makes("C2C2|", "0 0 0 20 0 144 60 64 96 128 60 64 0 144 60 64 96 128 60 64 ");
        makes("[EC]|", "0 0 0 20 0 144 60 64 0 144 64 64 48 128 60 64 0 128 64 64 ");
        makes("[CC]|", "0 0 0 20 0 144 60 64 0 144 60 64 48 128 60 64 0 128 60 64 ");
        makes("[CE]-[AC]|",
            "0 0 0 28 0 144 60 64 0 144 64 64 48 128 64 64 0 144 69 64 48 128 60 64 0 128 69 64 ");
        makes("G'''''C,,,,,|", "0 0 0 20 0 144 127 64 48 128 127 64 0 144 0 64 48 128 0 64 ");
    }

    private static void ticksFromNothingOn() {
        CHECK.sentence("before each the ticks since the one before it (from 0 on)");
        makes("zC|", "0 0 0 12 48 144 60 64 48 128 60 64 ");
        makes("z/48Cz2D|", "0 0 0 20 1 144 60 64 48 128 60 64 96 144 62 64 48 128 62 64 ");
    }

    private static void sevenBitsAByte() {
        CHECK.sentence("as a number in seven bits a byte, the highest first, 128 more in all but the last byte, "
            + "as few as can be");
        makes("C/48|", "0 0 0 12 0 144 60 64 1 128 60 64 ");
        makes("C127/48|", "0 0 0 12 0 144 60 64 127 128 60 64 ");
        makes("C128/48|", "0 0 0 13 0 144 60 64 129 0 128 60 64 ");
        makes("C129/48|", "0 0 0 13 0 144 60 64 129 1 128 60 64 ");
        makes("C255/48|", "0 0 0 13 0 144 60 64 129 127 128 60 64 ");
        makes("C256/48|", "0 0 0 13 0 144 60 64 130 0 128 60 64 ");
        makesWide("z16z8|".repeat(7) + "z255/96C|", "0 0 0 13 255 127 144 60 64 96 128 60 64 ");
        makesWide("z16z8|".repeat(7) + "z256/96C|", "0 0 0 14 129 128 0 144 60 64 96 128 60 64 ");
        makesWide("z16z8|".repeat(7) + "z257/96C|", "0 0 0 14 129 128 1 144 60 64 96 128 60 64 ");
        makesWide("C16-C8-|".repeat(7) + "C255/96|", "0 0 0 13 0 144 60 64 255 127 128 60 64 ");
        makesWide("C16-C8-|".repeat(8), "0 0 0 14 0 144 60 64 129 144 0 128 60 64 ");
        makesWide("C16-C8-|".repeat(7) + "C255/96-:|", "0 0 0 14 0 144 60 64 129 255 126 128 60 64 ");
        makesWide("C16-C8-|".repeat(7) + "C256/96-:|", "0 0 0 14 0 144 60 64 130 128 0 128 60 64 ");
        makesWide("C16-C8-|".repeat(7) + "C16-C8-:|", "0 0 0 14 0 144 60 64 130 160 0 128 60 64 ");
    }

    private static void theEnd() {
        CHECK.sentence("at the end 0 255 47 0");
        makes("Cz4|", "0 0 0 12 0 144 60 64 48 128 60 64 ");
        makes("C|z8|z8|", "0 0 0 12 0 144 60 64 48 128 60 64 ");
    }

    private static void write() {
        CHECK.sentence("write: Makes the bytes of the file (of a tune without notes too): how many");
        TuneSetter setter = Check.typed("z|");
        CHECK.due("read() of a rest", setter.read(), 0);
        CHECK.due("write() without notes", setter.write(), 26);
        CHECK.due("write() again", setter.write(), 26);
        CHECK.due("its bytes", Check.bytesOf(setter), HEAD + "0 0 0 4 " + TAIL);
    }

    private static void noTuneToWrite() {
        CHECK.sentence("write: BAD when there is no tune");
        TuneSetter setter = new TuneSetter();
        CHECK.due("write() of a new object", setter.write(), TuneSetter.BAD);
        Check.typeInto(setter, "C8|");
        CHECK.due("write() before read()", setter.write(), TuneSetter.BAD);
        setter.read();
        CHECK.due("write() behind read()", setter.write(), 35);
        setter.type('x');
        CHECK.due("write() with more text, not read", setter.write(), 35);
        setter.read();
        CHECK.due("write() behind a read() of what is wrong", setter.write(), TuneSetter.BAD);
    }

    private static void byteAt() {
        CHECK.sentence("byteAt: Byte i that was made last; BAD when there is none");
        TuneSetter setter = Check.typed("C8|");
        CHECK.due("byteAt(0) of a new object", setter.byteAt(0), TuneSetter.BAD);
        setter.read();
        CHECK.due("byteAt(0) behind read()", setter.byteAt(0), TuneSetter.BAD);
        setter.write();
        CHECK.due("byteAt(0)", setter.byteAt(0), 77);
        CHECK.due("byteAt(33)", setter.byteAt(33), 47);
        CHECK.due("byteAt(34)", setter.byteAt(34), 0);
        int[] none = {-1, -2, 35, 36, 255, 256, 793, 794, 795, 10000, Integer.MIN_VALUE, Integer.MAX_VALUE};
        for (int i : none) {
            CHECK.due("byteAt(" + i + ")", setter.byteAt(i), TuneSetter.BAD);
        }
    }

    private static void madeLast() {
        CHECK.sentence("byteAt: (whatever was read since; a write() that answers BAD makes none and leaves them)");
        TuneSetter setter = Check.typed("C8|");
        setter.read();
        setter.write();
        String first = Check.bytesOf(setter);
        Check.typeInto(setter, "D8|");
        CHECK.due("read() of another tune", setter.read(), 2);
        CHECK.due("bytes behind it", Check.bytesOf(setter), first);
        setter.type('x');
        CHECK.due("read() of what is wrong", setter.read(), TuneSetter.SYNTAX);
        CHECK.due("bytes behind it", Check.bytesOf(setter), first);
        CHECK.due("write() of none", setter.write(), TuneSetter.BAD);
        CHECK.due("bytes behind it", Check.bytesOf(setter), first);
        setter.clear();
        CHECK.due("bytes behind clear()", Check.bytesOf(setter), first);
        Check.typeInto(setter, "z|");
        CHECK.due("read() of a rest", setter.read(), 0);
        makesWith(setter, "a shorter file", "0 0 0 4 ");
    }
}
