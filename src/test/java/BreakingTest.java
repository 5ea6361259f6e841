/** Promises 12, 15 and 16, and the terms of breaking: on both sides of each boundary. */
public final class BreakingTest {
    private static final Check CHECK = new Check("BreakingTest");
    private static final int BAD = TuneSetter.BAD;

    public static void main(String[] args) {
        widthOfItems();
        widthOfAccidentals();
        widthOfTicks();
        widthArguments();
        badnessOfALine();
        lastLineHasNone();
        atMostL();
        leastSum();
        leastNumberOfLines();
        noTuneToBreak();
        lIsNotInRange();
        widerThanL();
        CHECK.end();
    }

    private static void width(String text, int want) {
        TuneSetter setter = Check.typedIn(12, 2, 8, text);
        setter.read();
        CHECK.due("width(0) of \"" + text + "\"", setter.width(0), want);
    }

    private static void widthOfItems() {
        CHECK.sentence("a bar's WIDTH is 2, and for each item 3");
        width("z/|", 5);
        width("C/|", 5);
        width("[CEGB]/|", 5);
        width("z/C/|", 8);
        width("z/".repeat(48) + "|", 146);
        width("|: [1 C/- |", 5);
        width("[1C/::", 5);
    }

    private static void widthOfAccidentals() {
        CHECK.sentence("1 more for each accidental that is written at its notes");
        String[] signs = {"^", "^^", "_", "__", "="};
        for (String sign : signs) {
            width(sign + "C/|", 6);
            width("[C" + sign + "E]/|", 6);
        }
        width("^C/C/C/|", 12);
        width("^C/^C/=C/|", 14);
        width("[^C_E^^G=B]/|", 9);
        width("C'/C,/|", 8);
    }

    private static void widthOfTicks() {
        CHECK.sentence("1 more for each time that 24 can be doubled with no more than the item's ticks "
            + "(so 24 gives 0, 48 gives 1)");
        int[] doubled = {48, 96, 192, 384, 768};
        width("C1/48|", 5);
        width("C23/48|", 5);
        width("C24/48|", 5);
        for (int i = 0; i < doubled.length; i++) {
            width("C" + (doubled[i] - 1) + "/48|", 5 + i);
            width("C" + doubled[i] + "/48|", 6 + i);
            width("z" + doubled[i] + "/48|", 6 + i);
            width("[CE]" + (doubled[i] + 1) + "/48|", 6 + i);
        }
        width("C767/24|", 10);
        width("C32|", 11);
        width("(3CCC|", 11);
        width("(3C3/C69/48C|", 12);
        width("(3C32C3/C|", 17);
    }

    private static void widthArguments() {
        CHECK.sentence("width: The width of a bar; BAD when there is none such");
        TuneSetter setter = CHECK.reads("C|D4E4|", 3);
        CHECK.due("width(0)", setter.width(0), 6);
        CHECK.due("width(1)", setter.width(1), 14);
        int[] none = {-1, -2, 2, 3, 7, 8, 9, Integer.MIN_VALUE, Integer.MAX_VALUE};
        for (int bar : none) {
            CHECK.due("width(" + bar + ")", setter.width(bar), BAD);
        }
        setter = CHECK.reads("C8|".repeat(8), 8);
        CHECK.due("width(7) of eight", setter.width(7), 9);
        CHECK.due("width(8) of eight", setter.width(8), BAD);
        setter.type('x');
        setter.read();
        CHECK.due("width(0) of no tune", setter.width(0), BAD);
        CHECK.due("width(0) of a new object", new TuneSetter().width(0), BAD);
    }

    /** Eight bars of 9. */
    private static TuneSetter eight() {
        return CHECK.reads("C8|".repeat(8), 8);
    }

    private static void breaksInto(TuneSetter setter, int l, int badness, int lines) {
        CHECK.due("breaking(" + l + ")", setter.breaking(l), badness);
        CHECK.due("lines(" + l + ")", setter.lines(l), lines);
    }

    private static void badnessOfALine() {
        CHECK.sentence("A line of bars with the width w in all has (L - w) * (L - w) BADNESS");
        breaksInto(eight(), 9, 0, 8);
        breaksInto(eight(), 10, 7, 8);
        breaksInto(eight(), 12, 63, 8);
        breaksInto(CHECK.reads("C8|D4E4|F8|", 4), 14, 25, 3);
        breaksInto(CHECK.reads("C8|D8|", 2), 17, 64, 2);
    }

    private static void lastLineHasNone() {
        CHECK.sentence("but the last line none (so 0, if all are in one)");
        breaksInto(CHECK.reads("C8|", 1), 9, 0, 1);
        breaksInto(CHECK.reads("C8|", 1), 1000, 0, 1);
        breaksInto(eight(), 63, 0, 2);
        breaksInto(eight(), 71, 64, 2);
        breaksInto(eight(), 72, 0, 1);
        breaksInto(eight(), 1000, 0, 1);
    }

    private static void atMostL() {
        CHECK.sentence("w is at most L");
        TuneSetter setter = CHECK.reads("C8|D4E4|F8|", 4);
        breaksInto(setter, 22, 233, 3);
        breaksInto(setter, 23, 0, 2);
        breaksInto(setter, 31, 64, 2);
        breaksInto(setter, 32, 0, 1);
    }

    private static void leastSum() {
        CHECK.sentence("breaking: The least sum of badness with which the bars can be broken into lines of L");
        breaksInto(eight(), 18, 0, 4);
        breaksInto(eight(), 27, 0, 3);
        breaksInto(eight(), 28, 2, 3);
        breaksInto(eight(), 36, 0, 2);
        // Four lines would do, but with more badness than five.
        String text = "^C^C^C^C^Czzz|[^C^D^E^F]8|^C4^C4|zzzzzzzz|C8|C4C4|zzzzzzzz|^C4^C4|";
        int[] widths = {39, 13, 16, 34, 9, 14, 34, 16};
        breaksInto(withWidths(text, widths), 52, 795, 5);
    }

    private static void leastNumberOfLines() {
        CHECK.sentence("lines: The least number of lines with which that sum can be had");
        // Five lines can have the same badness as four.
        String text = "^C^C^C^C^C^Czz|^C8|^C4^C4|zzzzzzzz|C8|C4C4|zzzzzzzz|[^C^E]8|";
        int[] widths = {40, 10, 16, 34, 9, 14, 34, 11};
        breaksInto(withWidths(text, widths), 50, 729, 4);
    }

    private static TuneSetter withWidths(String text, int[] widths) {
        TuneSetter setter = Check.typed(text);
        setter.read();
        for (int bar = 0; bar < widths.length; bar++) {
            CHECK.due("width(" + bar + ")", setter.width(bar), widths[bar]);
        }
        return setter;
    }

    private static void noTuneToBreak() {
        CHECK.sentence("breaking, lines: BAD when there is no tune");
        breaksInto(new TuneSetter(), 100, BAD, BAD);
        TuneSetter setter = Check.typed("C8|");
        breaksInto(setter, 100, BAD, BAD);
        setter.read();
        breaksInto(setter, 100, 0, 1);
        setter.type('x');
        breaksInto(setter, 100, 0, 1);
        setter.read();
        breaksInto(setter, 100, BAD, BAD);
    }

    private static void lIsNotInRange() {
        CHECK.sentence("breaking, lines: BAD when L is not 1 .. 1000");
        TuneSetter setter = CHECK.reads("C/|", 1);
        int[] none = {0, -1, -5, -1000, 1001, 1002, 65541, Integer.MIN_VALUE, Integer.MAX_VALUE};
        for (int l : none) {
            breaksInto(setter, l, BAD, BAD);
        }
        breaksInto(setter, 1, BAD, BAD);
        breaksInto(setter, 5, 0, 1);
        breaksInto(setter, 999, 0, 1);
        breaksInto(setter, 1000, 0, 1);
    }

    private static void widerThanL() {
        CHECK.sentence("breaking, lines: BAD when a bar is wider than L");
        String[] texts = {"C4D4|C8|C8|", "C8|C4D4|C8|", "C8|C8|C4D4|"};
        int[] least = {25, 25, 50};
        for (int i = 0; i < texts.length; i++) {
            TuneSetter setter = CHECK.reads(texts[i], 4);
            breaksInto(setter, 13, BAD, BAD);
            breaksInto(setter, 14, least[i], 3);
        }
        breaksInto(eight(), 8, BAD, BAD);
        breaksInto(eight(), 9, 0, 8);
    }
}
