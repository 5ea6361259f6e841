/** Promises 12, 15 and 16: the width of a bar, and lines of bars. */
public final class BreakingTest {
    private static final Check CHECK = new Check("BreakingTest");

    public static void main(String[] args) {
        widths();
        widthArguments();
        breakingArguments();
        breaks();
        fewestOfEqual();
        moreLinesThanCouldBe();
        CHECK.end();
    }

    private static void widths() {
        width("C/48|", 5);
        width("C23/48|", 5);
        width("C/|", 5);
        width("C47/48|", 5);
        width("C|", 6);
        width("C95/48|", 6);
        width("C2|", 7);
        width("C4|", 8);
        width("C8|", 9);
        width("z8|", 9);
        width("[CEG]8|", 9);
        width("^C8|", 10);
        width("__C8|", 10);
        width("=C8|", 10);
        width("[^C_E^^G]8-|", 12);
        width("^CCCC|", 19);
        width("[1C8|", 9);
        width("|:C8 ::", 9);
        width("(3CDE|", 11);
        width("(3C2D2E2|", 14);
        width("(3C3D3E3|", 17);
        width("C'''4D,,,4|", 14);
        TuneSetter wide = Check.typed("C32|");
        wide.metre(12, 2);
        wide.read();
        CHECK.due("width of 1536 ticks", wide.width(0), 11);
    }

    private static void width(String text, int want) {
        TuneSetter setter = Check.typed(text);
        setter.read();
        CHECK.due("width(0) of \"" + text + "\"", setter.width(0), want);
    }

    private static void widthArguments() {
        TuneSetter setter = CHECK.reads("C|D4E4|", 3);
        CHECK.due("width(0)", setter.width(0), 6);
        CHECK.due("width(1)", setter.width(1), 14);
        int[] bad = {-1, 2, 8, 9, Integer.MIN_VALUE, Integer.MAX_VALUE};
        for (int bar : bad) {
            CHECK.due("width(" + bar + ")", setter.width(bar), TuneSetter.BAD);
        }
    }

    private static void breakingArguments() {
        TuneSetter setter = CHECK.reads("C8|D4E4|F8|", 4);
        int[] bad = {0, -1, 1, 13, 1001, Integer.MIN_VALUE, Integer.MAX_VALUE};
        for (int l : bad) {
            CHECK.due("breaking(" + l + ")", setter.breaking(l), TuneSetter.BAD);
            CHECK.due("lines(" + l + ")", setter.lines(l), TuneSetter.BAD);
        }
        CHECK.due("breaking(1000)", setter.breaking(1000), 0);
        CHECK.due("lines(1000)", setter.lines(1000), 1);
        CHECK.due("breaking(14)", setter.breaking(14), 25);
        CHECK.due("lines(14)", setter.lines(14), 3);
        CHECK.due("breaking(32)", setter.breaking(32), 0);
        CHECK.due("lines(32)", setter.lines(32), 1);
        CHECK.due("breaking(31)", setter.breaking(31), 64);
        CHECK.due("lines(31)", setter.lines(31), 2);
        setter.clear();
        setter.read();
        CHECK.due("breaking(32) of none", setter.breaking(32), TuneSetter.BAD);
        CHECK.due("lines(32) of none", setter.lines(32), TuneSetter.BAD);
    }

    private static void breaks() {
        // Eight bars of 9: the last line costs nothing, so it may be the short one.
        TuneSetter setter = CHECK.reads("C8|".repeat(8), 8);
        breaksInto(setter, 9, 0, 8);
        breaksInto(setter, 10, 7, 8);
        breaksInto(setter, 18, 0, 4);
        breaksInto(setter, 27, 0, 3);
        breaksInto(setter, 28, 2, 3);
        breaksInto(setter, 36, 0, 2);
        breaksInto(setter, 63, 0, 2);
        breaksInto(setter, 71, 64, 2);
        breaksInto(setter, 72, 0, 1);
        setter.clear();
        Check.typeInto(setter, "C8|");
        setter.read();
        breaksInto(setter, 9, 0, 1);
        breaksInto(setter, 8, TuneSetter.BAD, TuneSetter.BAD);
    }

    /** Bars of 40 10 16 34 9 14 34 11: five lines can have the same badness as four. */
    private static void fewestOfEqual() {
        String text = "^C^C^C^C^C^Czz|^C8|^C4^C4|zzzzzzzz|C8|C4C4|zzzzzzzz|[^C^E]8|";
        int[] widths = {40, 10, 16, 34, 9, 14, 34, 11};
        breaksInto(withWidths(text, widths), 50, 729, 4);
    }

    /** Four lines would do, but with more badness than five. */
    private static void moreLinesThanCouldBe() {
        String text = "^C^C^C^C^Czzz|[^C^D^E^F]8|^C4^C4|zzzzzzzz|C8|C4C4|zzzzzzzz|^C4^C4|";
        int[] widths = {39, 13, 16, 34, 9, 14, 34, 16};
        breaksInto(withWidths(text, widths), 52, 795, 5);
    }

    private static TuneSetter withWidths(String text, int[] widths) {
        TuneSetter setter = Check.typed(text);
        setter.read();
        for (int bar = 0; bar < widths.length; bar++) {
            CHECK.due("width(" + bar + ")", setter.width(bar), widths[bar]);
        }
        return setter;
    }

    private static void breaksInto(TuneSetter setter, int l, int badness, int lines) {
        CHECK.due("breaking(" + l + ")", setter.breaking(l), badness);
        CHECK.due("lines(" + l + ")", setter.lines(l), lines);
    }
}
