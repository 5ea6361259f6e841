/** Promises 13 and 14: the bytes of the file. */
public final class FileTest {
    private static final Check CHECK = new Check("FileTest");
    private static final String HEAD = "77 84 104 100 0 0 0 6 0 0 0 1 0 96 77 84 114 107 ";
    private static final String TAIL = "0 255 47 0";

    public static void main(String[] args) {
        files();
        longTimes();
        whichBytes();
        largest();
        CHECK.end();
    }

    private static void files() {
        makes("C8|", "0 0 0 13 0 144 60 64 131 0 128 60 64 ");
        makes("z8|", "0 0 0 4 ");
        makes("C4-C4|", "0 0 0 13 0 144 60 64 131 0 128 60 64 ");
        makes("D2C2|", "0 0 0 20 0 144 62 64 96 128 62 64 0 144 60 64 96 128 60 64 ");
        makes("[EC]|", "0 0 0 20 0 144 60 64 0 144 64 64 48 128 60 64 0 128 64 64 ");
        makes("[CC]|", "0 0 0 20 0 144 60 64 0 144 60 64 48 128 60 64 0 128 60 64 ");
        makes("zC z2|", "0 0 0 12 48 144 60 64 48 128 60 64 ");
        makes("[CE]-[AC]|", "0 0 0 28 0 144 60 64 0 144 64 64 48 128 64 64 0 144 69 64 48 128 60 64 0 128 69 64 ");
        makes("C127/48D128/48|", "0 0 0 21 0 144 60 64 127 128 60 64 0 144 62 64 129 0 128 62 64 ");
        makes("C,,,,,8|", "0 0 0 13 0 144 0 64 131 0 128 0 64 ");
        makes("G'''''8|", "0 0 0 13 0 144 127 64 131 0 128 127 64 ");
    }

    private static void makes(String text, String events) {
        TuneSetter setter = Check.typed(text);
        setter.read();
        makesWith(setter, text, events);
    }

    private static void makesWith(TuneSetter setter, String what, String events) {
        String want = HEAD + events + TAIL;
        CHECK.due("write() of " + what, setter.write(), want.split(" ").length);
        CHECK.due("bytes of " + what, bytes(setter), want);
    }

    private static String bytes(TuneSetter setter) {
        StringBuilder got = new StringBuilder();
        for (int i = 0; setter.byteAt(i) != TuneSetter.BAD; i++) {
            got.append(i == 0 ? "" : " ").append(setter.byteAt(i));
        }
        return got.toString();
    }

    private static void longTimes() {
        TuneSetter setter = wide("z16z8|".repeat(7) + "z255/96C|");
        CHECK.due("a delta of 16383", setter.read(), 1);
        makesWith(setter, "a delta of 16383", "0 0 0 13 255 127 144 60 64 96 128 60 64 ");
        setter.clear();
        Check.typeInto(setter, "z16z8|".repeat(7) + "z256/96C|");
        CHECK.due("a delta of 16384", setter.read(), 1);
        makesWith(setter, "a delta of 16384", "0 0 0 14 129 128 0 144 60 64 96 128 60 64 ");
        setter.clear();
        Check.typeInto(setter, "C16-C8-|".repeat(8));
        CHECK.due("the longest line of ties", setter.read(), 1);
        makesWith(setter, "a note of 18432", "0 0 0 14 0 144 60 64 129 144 0 128 60 64 ");
        setter.clear();
        Check.typeInto(setter, "C16-C8-|".repeat(7) + "C16-C8-:|");
        CHECK.due("the longest line of ties, twice", setter.read(), 1);
        CHECK.due("its duration", setter.note(0, 1), 36864);
        makesWith(setter, "a note of 36864", "0 0 0 14 0 144 60 64 130 160 0 128 60 64 ");
    }

    private static TuneSetter wide(String text) {
        TuneSetter setter = Check.typed(text);
        setter.metre(12, 2);
        setter.unit(4);
        return setter;
    }

    private static void whichBytes() {
        TuneSetter setter = Check.typed("C8|");
        CHECK.due("write() before read()", setter.write(), TuneSetter.BAD);
        CHECK.due("byteAt(0) before", setter.byteAt(0), TuneSetter.BAD);
        setter.read();
        CHECK.due("byteAt(0) behind read()", setter.byteAt(0), TuneSetter.BAD);
        setter.write();
        String first = bytes(setter);
        int[] bad = {-1, 35, 36, 794, 10000, Integer.MIN_VALUE, Integer.MAX_VALUE};
        for (int i : bad) {
            CHECK.due("byteAt(" + i + ")", setter.byteAt(i), TuneSetter.BAD);
        }
        CHECK.due("the last byte", setter.byteAt(34), 0);
        Check.typeInto(setter, "D8|");
        CHECK.due("read() behind write()", setter.read(), 2);
        CHECK.due("bytes behind read()", bytes(setter), first);
        Check.typeInto(setter, "x");
        CHECK.due("read() of what is wrong", setter.read(), TuneSetter.SYNTAX);
        CHECK.due("write() of none", setter.write(), TuneSetter.BAD);
        CHECK.due("bytes behind that", bytes(setter), first);
        setter.clear();
        Check.typeInto(setter, "z|");
        CHECK.due("read() of a rest", setter.read(), 0);
        makesWith(setter, "a shorter file", "0 0 0 4 ");
    }

    private static void largest() {
        TuneSetter setter = Check.typed("|:" + "C4D4|".repeat(7) + "E4F4:|");
        CHECK.due("read() of 32", setter.read(), 32);
        CHECK.due("write() of 32", setter.write(), 26 + 32 * 9);
        setter.clear();
        Check.typeInto(setter, "|:" + "[CDEF]".repeat(8) + ":|");
        CHECK.due("read() of 64", setter.read(), 64);
        CHECK.due("write() of 64", setter.write(), 26 + 128 * 4);
        CHECK.due("the count's third byte", setter.byteAt(20), 2);
        CHECK.due("the count's fourth byte", setter.byteAt(21), 4);
        CHECK.due("the last byte but one", setter.byteAt(26 + 128 * 4 - 2), 47);
    }
}
