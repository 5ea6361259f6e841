/** Promises 1 to 6: a new object, metre, unit, key, type and clear. */
public final class SettingsTest {
    private static final Check CHECK = new Check("SettingsTest");
    private static final int[] EXTREMES = {Integer.MIN_VALUE, Integer.MIN_VALUE + 4, Integer.MAX_VALUE - 3,
        Integer.MAX_VALUE};

    public static void main(String[] args) {
        newObject();
        metre();
        fullBars();
        unit();
        key();
        laterChangesLeaveTheTune();
        codes();
        mostCharacters();
        clear();
        CHECK.end();
    }

    private static void newObject() {
        CHECK.sentence("TuneSetter(): No text, no tune.");
        TuneSetter setter = new TuneSetter();
        CHECK.due("new: place()", setter.place(), TuneSetter.BAD);
        CHECK.due("new: bars()", setter.bars(), 0);
        CHECK.due("new: notes()", setter.notes(), 0);
        CHECK.due("new: note(0, 0)", setter.note(0, 0), TuneSetter.BAD);
        CHECK.due("new: width(0)", setter.width(0), TuneSetter.BAD);
        CHECK.due("new: write()", setter.write(), TuneSetter.BAD);
        CHECK.due("new: byteAt(0)", setter.byteAt(0), TuneSetter.BAD);
        CHECK.due("new: breaking(100)", setter.breaking(100), TuneSetter.BAD);
        CHECK.due("new: lines(100)", setter.lines(100), TuneSetter.BAD);
        CHECK.due("new: clear()", setter.clear(), 0);
        CHECK.refusesWith(setter, "", TuneSetter.SYNTAX, 0);
    }

    private static void metre() {
        CHECK.sentence("metre: False, changing nothing, when n is not 1 .. 12 or d not 2, 4 or 8.");
        for (int n = -3; n <= 16; n++) {
            for (int d = -9; d <= 17; d++) {
                boolean right = n >= 1 && n <= 12 && (d == 2 || d == 4 || d == 8);
                CHECK.due("metre(" + n + ", " + d + ")", new TuneSetter().metre(n, d), right);
            }
        }
        for (int extreme : EXTREMES) {
            CHECK.due("metre(" + extreme + ", 4)", new TuneSetter().metre(extreme, 4), false);
            CHECK.due("metre(4, " + extreme + ")", new TuneSetter().metre(4, extreme), false);
        }
        TuneSetter kept = Check.typed("C6|D6|E6|");
        CHECK.due("metre(3, 4)", kept.metre(3, 4), true);
        CHECK.due("metre(0, 2)", kept.metre(0, 2), false);
        CHECK.due("metre(2, 3)", kept.metre(2, 3), false);
        CHECK.readsWith(kept, "C6|D6|E6| in 3/4", 3);
    }

    private static void fullBars() {
        CHECK.sentence("metre: The metre.");
        int[] bottoms = {2, 4, 8};
        for (int d : bottoms) {
            for (int n = 1; n <= 12; n++) {
                fullBarIs(n, d);
            }
        }
    }

    private static void fullBarIs(int n, int d) {
        String metre = n + "/" + d;
        String full = sixteenths(16 * n / d);
        String text = "z|" + full + "|z|";
        CHECK.readsWith(Check.typedIn(n, d, 16, text), "a full bar of " + metre, 0);
        text = "z|" + full + "z/24|z|";
        CHECK.refusesWith(Check.typedIn(n, d, 16, text), "a tick more than " + metre, TuneSetter.BARS,
            text.length() - 3);
        text = "z|" + sixteenths(16 * n / d - 1) + "z23/24|z|";
        CHECK.refusesWith(Check.typedIn(n, d, 16, text), "a tick less than " + metre, TuneSetter.BARS,
            text.length() - 3);
    }

    /** Rests of so many sixteenths, in two of them where one would be too long. */
    private static String sixteenths(int count) {
        return count > 64 ? "z64z" + (count - 64) : "z" + count;
    }

    private static void unit() {
        CHECK.sentence("unit: False, changing nothing, when u is not 4, 8 or 16.");
        for (int u = -17; u <= 33; u++) {
            CHECK.due("unit(" + u + ")", new TuneSetter().unit(u), u == 4 || u == 8 || u == 16);
        }
        for (int extreme : EXTREMES) {
            CHECK.due("unit(" + extreme + ")", new TuneSetter().unit(extreme), false);
        }
        CHECK.sentence("unit: The unit.");
        int[] units = {4, 8, 16};
        for (int u : units) {
            TuneSetter setter = Check.typed("C|");
            CHECK.due("unit(" + u + ")", setter.unit(u), true);
            CHECK.due("unit(12) behind it", setter.unit(12), false);
            setter.read();
            CHECK.plays(setter, "C| with unit " + u, "0+" + 384 / u + ":60");
        }
    }

    private static void key() {
        CHECK.sentence("key: False, changing nothing, when k is not -7 .. 7.");
        for (int k = -20; k <= 20; k++) {
            CHECK.due("key(" + k + ")", new TuneSetter().key(k), k >= -7 && k <= 7);
        }
        for (int extreme : EXTREMES) {
            CHECK.due("key(" + extreme + ")", new TuneSetter().key(extreme), false);
        }
        CHECK.sentence("key: The key.");
        String[] scales = {
            "59 61 63 64 66 68 70", "59 61 63 65 66 68 70", "60 61 63 65 66 68 70", "60 61 63 65 67 68 70",
            "60 62 63 65 67 68 70", "60 62 63 65 67 69 70", "60 62 64 65 67 69 70", "60 62 64 65 67 69 71",
            "60 62 64 66 67 69 71", "61 62 64 66 67 69 71", "61 62 64 66 68 69 71", "61 63 64 66 68 69 71",
            "61 63 64 66 68 70 71", "61 63 65 66 68 70 71", "61 63 65 66 68 70 72",
        };
        for (int k = -7; k <= 7; k++) {
            TuneSetter setter = Check.typed("CDEFGAB|");
            CHECK.due("key(" + k + ")", setter.key(k), true);
            CHECK.due("key(9) behind it", setter.key(9), false);
            setter.read();
            CHECK.pitches(setter, "CDEFGAB| in key " + k, scales[k + 7]);
        }
    }

    private static void laterChangesLeaveTheTune() {
        CHECK.sentence("metre: (Metre, unit and key count when a tune is read; later changes leave it.)");
        TuneSetter setter = CHECK.reads("F8|", 1);
        setter.metre(2, 4);
        setter.unit(16);
        setter.key(1);
        CHECK.plays(setter, "F8| behind changes", "0+384:65");
        CHECK.due("bars()", setter.bars(), 1);
        CHECK.due("width(0)", setter.width(0), 9);
        CHECK.readsWith(setter, "F8| anew", 1);
        CHECK.plays(setter, "F8| anew", "0+192:66");
        setter.metre(1, 4);
        CHECK.refusesWith(setter, "F8| in 1/4", TuneSetter.BARS, 2);
    }

    private static void codes() {
        CHECK.sentence("type: False, changing nothing, when c is not 32 .. 126");
        for (int from = 0; from < 65536; from += 64) {
            TuneSetter setter = new TuneSetter();
            int typed = 0;
            for (int c = from; c < from + 64; c++) {
                boolean right = c >= 32 && c <= 126;
                CHECK.due("type((char) " + c + ")", setter.type((char) c), right);
                typed += right ? 1 : 0;
            }
            CHECK.due("clear() behind 64 codes from " + from, setter.clear(), typed);
        }
    }

    private static void mostCharacters() {
        CHECK.sentence("type: A character comes behind the text. False, changing nothing, when there are 120.");
        TuneSetter setter = Check.typed("C8|" + " ".repeat(116));
        CHECK.due("type() as the 120th", setter.type(' '), true);
        CHECK.due("type() as the 121st", setter.type('x'), false);
        CHECK.due("type() as the 121st again", setter.type(' '), false);
        CHECK.readsWith(setter, "C8| and 117 spaces", 1);
        CHECK.due("type() behind read()", setter.type(' '), false);
        CHECK.due("clear() of 120", setter.clear(), 120);
        for (int i = 0; i < 120; i++) {
            CHECK.due("type() behind clear()", setter.type("z8| ".charAt(i < 3 ? i : 3)), true);
        }
        CHECK.due("type() as the 121st behind clear()", setter.type(' '), false);
        CHECK.readsWith(setter, "z8| and 117 spaces", 0);
    }

    private static void clear() {
        CHECK.sentence("clear: The text is empty: how many characters it had.");
        for (int size = 0; size <= 120; size++) {
            CHECK.due("clear() of " + size, Check.typed(" ".repeat(size)).clear(), size);
        }
        TuneSetter setter = CHECK.reads("C8|", 1);
        CHECK.due("clear()", setter.clear(), 3);
        CHECK.due("clear() again", setter.clear(), 0);
        CHECK.due("notes() behind clear()", setter.notes(), 1);
        CHECK.due("bars() behind clear()", setter.bars(), 1);
        CHECK.due("place() behind clear()", setter.place(), TuneSetter.BAD);
        CHECK.refusesWith(setter, "", TuneSetter.SYNTAX, 0);
        Check.typeInto(setter, "D|x");
        CHECK.refusesWith(setter, "D|x", TuneSetter.SYNTAX, 2);
        setter.clear();
        CHECK.due("place() stays", setter.place(), 2);
        Check.typeInto(setter, "D|");
        CHECK.readsWith(setter, "D| behind clear()", 1);
    }
}
