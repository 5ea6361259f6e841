/** Promises 1 to 6: a new object, metre, unit, key, type and clear. */
public final class SettingsTest {
    private static final Check CHECK = new Check("SettingsTest");

    public static void main(String[] args) {
        newObject();
        metre();
        unit();
        key();
        laterChangesLeaveTheTune();
        type();
        clear();
        CHECK.end();
    }

    private static void newObject() {
        TuneSetter setter = new TuneSetter();
        CHECK.due("new: place()", setter.place(), TuneSetter.BAD);
        CHECK.due("new: bars()", setter.bars(), 0);
        CHECK.due("new: notes()", setter.notes(), 0);
        CHECK.due("new: note(0, 0)", setter.note(0, 0), TuneSetter.BAD);
        CHECK.due("new: width(0)", setter.width(0), TuneSetter.BAD);
        CHECK.due("new: write()", setter.write(), TuneSetter.BAD);
        CHECK.due("new: byteAt(0)", setter.byteAt(0), TuneSetter.BAD);
        CHECK.due("new: breaking(100)", setter.breaking(100), TuneSetter.BAD);
        CHECK.due("new: lines(100)", setter.lines(100), TuneSetter.BAD);
        CHECK.due("new: clear()", setter.clear(), 0);
    }

    private static void metre() {
        int[] badTops = {0, -1, 13, Integer.MIN_VALUE, Integer.MAX_VALUE};
        for (int n : badTops) {
            CHECK.due("metre(" + n + ", 4)", new TuneSetter().metre(n, 4), false);
        }
        int[] badBottoms = {0, 1, 3, 5, 6, 7, 9, 16, -4, Integer.MIN_VALUE, Integer.MAX_VALUE};
        for (int d : badBottoms) {
            CHECK.due("metre(4, " + d + ")", new TuneSetter().metre(4, d), false);
        }
        int[] bottoms = {2, 4, 8};
        for (int d : bottoms) {
            for (int n = 1; n <= 12; n++) {
                fullBarIs(n, d);
            }
        }
        TuneSetter kept = Check.typed("C6|D6|E6|");
        CHECK.due("metre(3, 4)", kept.metre(3, 4), true);
        CHECK.due("metre(0, 2)", kept.metre(0, 2), false);
        CHECK.due("metre(2, 3)", kept.metre(2, 3), false);
        CHECK.readsWith(kept, "C6|D6|E6| in 3/4", 3);
    }

    private static void fullBarIs(int n, int d) {
        String metre = n + "/" + d;
        String full = sixteenths(16 * n / d);
        TuneSetter setter = Check.typed("z|" + full + "|z|");
        CHECK.due("metre " + metre, setter.metre(n, d), true);
        setter.unit(16);
        CHECK.readsWith(setter, "a full bar of " + metre, 0);
        setter.clear();
        Check.typeInto(setter, "z|" + full + "z/24|z|");
        CHECK.refusesWith(setter, "a tick more than " + metre, TuneSetter.BARS, 6 + full.length());
        setter.clear();
        Check.typeInto(setter, "z|" + sixteenths(16 * n / d - 1) + "z23/24|z|");
        CHECK.due("a tick less than " + metre, setter.read(), TuneSetter.BARS);
    }

    /** Rests of so many sixteenths, in two of them where one would be too long. */
    private static String sixteenths(int count) {
        if (count == 0) {
            return "";
        }
        return count > 64 ? "z64z" + (count - 64) : "z" + count;
    }

    private static void unit() {
        int[] bad = {0, 1, 2, 3, 5, 7, 9, 15, 17, 32, -4, -8, Integer.MIN_VALUE, Integer.MAX_VALUE};
        for (int u : bad) {
            CHECK.due("unit(" + u + ")", new TuneSetter().unit(u), false);
        }
        int[] units = {4, 8, 16};
        for (int u : units) {
            TuneSetter setter = Check.typed("C|");
            CHECK.due("unit(" + u + ")", setter.unit(u), true);
            CHECK.due("unit(12) behind it", setter.unit(12), false);
            setter.read();
            CHECK.plays(setter, "C| with unit " + u, "0+" + 384 / u + ":60");
        }
        CHECK.plays(CHECK.reads("C|", 1), "C|", "0+48:60");
    }

    private static void key() {
        int[] bad = {-8, 8, 100, -100, Integer.MIN_VALUE, Integer.MAX_VALUE};
        for (int k : bad) {
            CHECK.due("key(" + k + ")", new TuneSetter().key(k), false);
        }
        String[] scales = {
            "59 61 63 64 66 68 70", "59 61 63 65 66 68 70", "60 61 63 65 66 68 70", "60 61 63 65 67 68 70",
            "60 62 63 65 67 68 70", "60 62 63 65 67 69 70", "60 62 64 65 67 69 70", "60 62 64 65 67 69 71",
            "60 62 64 66 67 69 71", "61 62 64 66 67 69 71", "61 62 64 66 68 69 71", "61 63 64 66 68 69 71",
            "61 63 64 66 68 70 71", "61 63 65 66 68 70 71", "61 63 65 66 68 70 72",
        };
        for (int k = -7; k <= 7; k++) {
            TuneSetter setter = Check.typed("CDEFGAB|");
            CHECK.due("key(" + k + ")", setter.key(k), true);
            CHECK.due("key(9) behind it", setter.key(9), false);
            setter.read();
            CHECK.pitches(setter, "CDEFGAB| in key " + k, scales[k + 7]);
        }
        CHECK.pitches("CDEFGAB|", scales[7]);
    }

    private static void laterChangesLeaveTheTune() {
        TuneSetter setter = CHECK.reads("F8|", 1);
        setter.metre(2, 4);
        setter.unit(16);
        setter.key(1);
        setter.clear();
        CHECK.plays(setter, "F8| behind changes", "0+384:65");
        CHECK.due("bars()", setter.bars(), 1);
        CHECK.due("width(0)", setter.width(0), 9);
        Check.typeInto(setter, "F8|");
        CHECK.readsWith(setter, "F8| anew", 1);
        CHECK.plays(setter, "F8| anew", "0+192:66");
        setter.metre(1, 4);
        CHECK.refusesWith(setter, "F8| in 1/4", TuneSetter.BARS, 2);
    }

    private static void type() {
        TuneSetter setter = new TuneSetter();
        int[] bad = {0, 9, 10, 31, 127, 128, 255, 256, 65535};
        for (int c : bad) {
            CHECK.due("type((char) " + c + ")", setter.type((char) c), false);
        }
        CHECK.due("clear() behind bad ones", setter.clear(), 0);
        for (int c = 32; c <= 126; c++) {
            CHECK.due("type((char) " + c + ")", setter.type((char) c), true);
        }
        CHECK.due("clear() behind all", setter.clear(), 95);
        String most = "C8|" + " ".repeat(117);
        Check.typeInto(setter, most);
        CHECK.due("the 121st", setter.type(' '), false);
        CHECK.due("the 121st again", setter.type('x'), false);
        CHECK.readsWith(setter, most, 1);
        CHECK.due("clear() of 120", setter.clear(), 120);
        CHECK.due("type behind clear()", setter.type(' '), true);
    }

    private static void clear() {
        TuneSetter setter = CHECK.reads("C8|", 1);
        CHECK.due("clear()", setter.clear(), 3);
        CHECK.due("clear() again", setter.clear(), 0);
        CHECK.due("notes() behind clear()", setter.notes(), 1);
        CHECK.due("bars() behind clear()", setter.bars(), 1);
        CHECK.due("place() behind clear()", setter.place(), TuneSetter.BAD);
        CHECK.refusesWith(setter, "", TuneSetter.SYNTAX, 0);
        Check.typeInto(setter, "D|x");
        CHECK.refusesWith(setter, "D|x", TuneSetter.SYNTAX, 2);
        setter.clear();
        CHECK.due("place() stays", setter.place(), 2);
    }
}
