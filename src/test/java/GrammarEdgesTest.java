/** The terms from the text to the triplets: each sentence that names a boundary, on both sides of it. */
public final class GrammarEdgesTest {
    private static final Check CHECK = new Check("GrammarEdgesTest");
    private static final int SYNTAX = TuneSetter.SYNTAX;
    private static final int LENGTH = TuneSetter.LENGTH;
    private static final int BARS = TuneSetter.BARS;
    private static final String[] LINES = {"|", "||", "|:", ":|", "::"};
    private static final String[] SIGNS = {"", "^", "^^", "_", "__", "="};

    public static void main(String[] args) {
        mostCharacters();
        fullBar();
        unitAndKeyAtFirst();
        lineBetweenTwoBars();
        lineBehindTheLast();
        oneLineMoreBeforeTheFirst();
        longestLineCounts("");
        endingMarks();
        oneOrMoreItems();
        tripletMark();
        tieNotBehindARest();
        accidentals("");
        letters();
        octavesOfOneKind();
        oneOrMoreNotesInAChord();
        numbersThatAreNotWritten();
        spacesAndNowhereElse();
        twoThirds();
        threeDigits();
        lengthIsNotLookedAtBeforeAFourthDigit();
        noTripletInATriplet();
        CHECK.end();
    }

    private static boolean isOneOf(String what, String[] some) {
        for (String one : some) {
            if (one.equals(what)) {
                return true;
            }
        }
        return false;
    }

    private static void mostCharacters() {
        CHECK.sentence("THE TEXT has at most 120 characters (codes 32 to 126), at first none.");
        CHECK.refuses("", SYNTAX, 0);
        CHECK.reads("C8" + " ".repeat(116) + "|", 1);
        CHECK.reads("C8" + " ".repeat(117) + "|", 1);
        CHECK.reads(" ".repeat(117) + "C8|", 1);
        CHECK.refuses(" ".repeat(120), SYNTAX, 120);
        TuneSetter full = Check.typed("C8" + " ".repeat(118));
        CHECK.due("type('|') as the 121st", full.type('|'), false);
        CHECK.refusesWith(full, "C8 and 118 spaces", SYNTAX, 120);
    }

    private static void fullBar() {
        CHECK.sentence("the METRE is n / d (4 / 4 at first), a full bar has 384 n / d ticks");
        CHECK.reads("C|z8|C|", 2);
        CHECK.refuses("C|z8z/48|C|", BARS, 8);
        CHECK.refuses("C|z383/48|C|", BARS, 9);
        fullBarIn(1, 8, "z2", 48);
        fullBarIn(12, 2, "z64z32", 2304);
    }

    private static void fullBarIn(int n, int d, String full, int ticks) {
        String metre = " in " + n + "/" + d;
        String text = full + "|" + full + "|C/24|";
        TuneSetter setter = CHECK.readsWith(Check.typedIn(n, d, 16, text), text + metre, 1);
        CHECK.due("the onset behind two full bars" + metre, setter.note(0, 0), 2 * ticks);
        text = full + "|" + full + "z/24|C|";
        CHECK.refusesWith(Check.typedIn(n, d, 16, text), text + metre, BARS, 2 * full.length() + 5);
    }

    private static void unitAndKeyAtFirst() {
        CHECK.sentence("the UNIT is a u-th of a whole note (u is 8 at first)");
        CHECK.plays("C|", "0+48:60");
        CHECK.sentence("the KEY has -7 .. 7 sharps (0 at first; below 0 flats)");
        CHECK.pitches("CDEFGAB|", "60 62 64 65 67 69 71");
    }

    private static void lineBetweenTwoBars() {
        CHECK.sentence("THE TUNE is bars, with a bar line between two");
        for (String line : LINES) {
            CHECK.due("bars() with " + line, CHECK.reads("z4" + line + "z4|", 0).bars(), 2);
            for (String another : LINES) {
                CHECK.refuses("C4" + line + " " + another + "D4|", SYNTAX, 3 + line.length());
            }
        }
        CHECK.due("bars() without a line between", CHECK.reads("z4z4|", 0).bars(), 1);
    }

    private static void lineBehindTheLast() {
        CHECK.sentence("with a bar line between two, and behind the last one");
        CHECK.refuses("C8", SYNTAX, 2);
        CHECK.refuses("C8  ", SYNTAX, 4);
        for (String line : LINES) {
            CHECK.reads("z8" + line, 0);
            CHECK.refuses("C8" + line + "D4", SYNTAX, 4 + line.length());
            for (String another : LINES) {
                CHECK.refuses("C8" + line + " " + another, SYNTAX, 3 + line.length());
            }
        }
    }

    private static void oneLineMoreBeforeTheFirst() {
        CHECK.sentence("one more may stand before the first one");
        CHECK.reads("C8|", 1);
        for (String line : LINES) {
            CHECK.due("bars() behind " + line, CHECK.reads(line + "C8|", 1).bars(), 1);
            CHECK.refuses(line, SYNTAX, line.length());
            for (String another : LINES) {
                CHECK.refuses(line + " " + another + "C8|", SYNTAX, 1 + line.length());
            }
        }
    }

    /** All that can be made of one to four of | and :, before a bar, between two, and behind one. */
    private static void longestLineCounts(String line) {
        CHECK.sentence("BAR LINES: | || |: :| :: (where | and : may be followed by another of them, "
            + "the longest one counts)");
        if (!line.isEmpty()) {
            lineIsRight(line, "", "z8|");
            lineIsRight(line, "z8", "z8|");
            lineIsRight(line, "z8", "");
        }
        if (line.length() < 4) {
            longestLineCounts(line + "|");
            longestLineCounts(line + ":");
        }
    }

    private static void lineIsRight(String line, String before, String behind) {
        String text = before + line + behind;
        if (isOneOf(line, LINES)) {
            CHECK.reads(text, 0);
        } else {
            CHECK.refuses(text, SYNTAX, before.length() + (line.equals(":") ? 1 : 2));
        }
    }

    private static void endingMarks() {
        CHECK.sentence("A BAR is [1 or [2, or none of these");
        for (char digit = '0'; digit <= '9'; digit++) {
            if (digit == '1' || digit == '2') {
                CHECK.reads("[" + digit + "C8|", 1);
                CHECK.reads("C8|[" + digit + "C8|", 2);
            } else {
                CHECK.refuses("[" + digit + "C8|", SYNTAX, 1);
                CHECK.refuses("C8|[" + digit + "C8|", SYNTAX, 4);
            }
        }
        CHECK.refuses("[1[2C8|", SYNTAX, 3);
        CHECK.refuses("[1 [1C8|", SYNTAX, 4);
        CHECK.refuses("C[1C|", SYNTAX, 2);
        CHECK.refuses("[11C|", SYNTAX, 2);
    }

    private static void oneOrMoreItems() {
        CHECK.sentence("and then one or more ITEMS");
        CHECK.refuses("[1|", SYNTAX, 2);
        CHECK.refuses("[2 :|", SYNTAX, 3);
        CHECK.refuses("C8|[1|", SYNTAX, 5);
        CHECK.refuses("C8| |", SYNTAX, 4);
        CHECK.reads("[1C|", 1);
        CHECK.reads("[1CD|", 2);
        CHECK.reads("z|", 0);
    }

    private static void tripletMark() {
        CHECK.sentence("an item: ( and 3 for a TRIPLET, or none; then a CHORD, a NOTE or a REST");
        for (char c = ' '; c <= '~'; c++) {
            if (c != '3') {
                CHECK.refuses("(" + c + "CDE|", SYNTAX, 1);
            }
            if ("ABCDEFGabcdefgz[^_=".indexOf(c) < 0) {
                CHECK.refuses("(3" + c + "CDE|", SYNTAX, 2);
            }
        }
        CHECK.reads("(3CDE|", 3);
        CHECK.reads("(3[C][D][E]|", 3);
        CHECK.reads("(3zzz|", 0);
        CHECK.refuses("(", SYNTAX, 1);
        CHECK.refuses("(3", SYNTAX, 2);
    }

    private static void tieNotBehindARest() {
        CHECK.sentence("then - for a TIE (not behind a rest), or none");
        CHECK.reads("C-|", 1);
        CHECK.reads("C2/3-|", 1);
        CHECK.reads("[C]-|", 1);
        CHECK.reads("[C]2/3-|", 1);
        CHECK.refuses("z-|", SYNTAX, 1);
        CHECK.refuses("z2/3-|", SYNTAX, 4);
        CHECK.refuses("Cz-|", SYNTAX, 2);
        CHECK.refuses("C-z-|", SYNTAX, 3);
        CHECK.refuses("(3z-CD|", SYNTAX, 3);
        CHECK.refuses("C--|", SYNTAX, 2);
        CHECK.refuses("C|-D|", SYNTAX, 2);
    }

    /** All that can be made of up to three of ^ and _ and =. */
    private static void accidentals(String sign) {
        CHECK.sentence("A note is an ACCIDENTAL (^ ^^ _ __ = or none)");
        int place = 0;
        while (place < sign.length() && isOneOf(sign.substring(0, place + 1), SIGNS)) {
            place++;
        }
        if (place == sign.length()) {
            CHECK.reads(sign + "C|", 1);
            CHECK.reads("[E" + sign + "C]|", 2);
        } else {
            CHECK.refuses(sign + "C|", SYNTAX, place);
            CHECK.refuses("[E" + sign + "C]|", SYNTAX, place + 2);
        }
        for (int i = 0; i < 3 && sign.length() < 3; i++) {
            accidentals(sign + "^_=".charAt(i));
        }
    }

    private static void letters() {
        CHECK.sentence("a letter A .. G or a .. g");
        for (char c = ' '; c <= '~'; c++) {
            if ("ABCDEFGabcdefg".indexOf(c) >= 0) {
                CHECK.reads("=" + c + "|", 1);
                CHECK.reads("[=" + c + "]|", 1);
            } else {
                CHECK.refuses("=" + c + "|", SYNTAX, 1);
                CHECK.refuses("[=" + c + "]|", SYNTAX, 2);
            }
        }
        String[] besides = {"@", "H", "`", "h", "Z", "y", "{"};
        for (String c : besides) {
            CHECK.refuses(c + "|", SYNTAX, 0);
        }
    }

    private static void octavesOfOneKind() {
        CHECK.sentence("any number of ' (all of these, for each one octave more) or of , (for each one less)");
        for (int count = 0; count <= 5; count++) {
            CHECK.pitches("C" + "'".repeat(count) + "|", "" + (60 + 12 * count));
            CHECK.pitches("C" + ",".repeat(count) + "|", "" + (60 - 12 * count));
        }
        CHECK.refuses("C',|", SYNTAX, 2);
        CHECK.refuses("C,'|", SYNTAX, 2);
        CHECK.refuses("C'','|", SYNTAX, 3);
        CHECK.refuses("[C',]|", SYNTAX, 3);
        CHECK.refuses("[C,']|", SYNTAX, 3);
        CHECK.refuses("'C|", SYNTAX, 0);
        CHECK.refuses("^'C|", SYNTAX, 1);
        CHECK.refuses("z'|", SYNTAX, 1);
        CHECK.refuses("z,|", SYNTAX, 1);
        CHECK.refuses("[C]'|", SYNTAX, 3);
    }

    private static void oneOrMoreNotesInAChord() {
        CHECK.sentence("A chord is [, one or more notes, and ]");
        CHECK.refuses("[]|", SYNTAX, 1);
        CHECK.refuses("(3[]|", SYNTAX, 3);
        CHECK.reads("[C]|", 1);
        CHECK.reads("[CC]|", 2);
        CHECK.refuses("[C|", SYNTAX, 2);
        CHECK.refuses("[C", SYNTAX, 2);
        CHECK.refuses("[^]|", SYNTAX, 2);
        CHECK.refuses("[z]|", SYNTAX, 1);
        CHECK.refuses("[C2D]|", SYNTAX, 2);
        CHECK.refuses("[C[D]]|", SYNTAX, 2);
        CHECK.refuses("]|", SYNTAX, 0);
        CHECK.refuses("[C]]|", SYNTAX, 3);
    }

    private static void numbersThatAreNotWritten() {
        CHECK.sentence("A length is a number (of one or more digits, or none: 1), "
            + "then / and a number (none behind the /: 2), or no /");
        String[] one = {"", "1", "01", "001", "1/1", "/1", "2/", "2/2", "02/002", "999/999"};
        for (String length : one) {
            CHECK.plays("C" + length + "|", "0+48:60");
            CHECK.plays("[C]" + length + "|", "0+48:60");
            CHECK.plays("z" + length + "D|", "48+48:62");
        }
        String[] half = {"/", "/2", "1/", "1/2", "/02", "499/998"};
        for (String length : half) {
            CHECK.plays("C" + length + "|", "0+24:60");
        }
        CHECK.refuses("C//|", SYNTAX, 2);
        CHECK.refuses("C2/3/4|", SYNTAX, 4);
        CHECK.refuses("2C|", SYNTAX, 0);
        CHECK.refuses("/C|", SYNTAX, 0);
        CHECK.sentence("it is the first divided by the second one, times the unit");
        CHECK.plays("C7/ D3/4 E3/|", "0+168:60 168+36:62 204+72:64");
    }

    /** A space is put before each character: it is fine (.), it is wrong (s), or what stands behind it is (b). */
    private static void spacesAndNowhereElse() {
        CHECK.sentence("Spaces may stand before each item, before a bar line, before [1 and [2, and at the end; "
            + "nowhere else.");
        String tune = "|:[1(3^^C'12/3-[D,_E]/z2:|[2=F-||";
        String what = ".b.s.ssssbbbbbb.sssssb.b.s.s.sb.b.";
        for (int i = 0; i <= tune.length(); i++) {
            for (int count = 1; count <= 2; count++) {
                String text = tune.substring(0, i) + " ".repeat(count) + tune.substring(i);
                if (what.charAt(i) == '.') {
                    CHECK.reads(text, 4);
                } else {
                    CHECK.refuses(text, SYNTAX, what.charAt(i) == 's' ? i : i + count);
                }
            }
        }
    }

    private static void twoThirds() {
        CHECK.sentence("A triplet's item and the two behind it, in the same bar, have two thirds of their length.");
        CHECK.plays("C(3DEFG|", "0+48:60 48+32:62 80+32:64 112+32:65 144+48:67");
        CHECK.plays("(3C2zE/F|", "0+64:60 96+16:64 112+48:65");
        CHECK.plays("(3[CE]D2-D|", "0+32:60 0+32:64 32+96:62");
        CHECK.refuses("(3C|DE|", BARS, 3);
        CHECK.refuses("(3CD|E|", BARS, 4);
        CHECK.plays("(3CDE|F|", "0+32:60 32+32:62 64+32:64 96+48:65");
    }

    private static void threeDigits() {
        CHECK.sentence("A number has at most three digits (a fourth one is SYNTAX)");
        CHECK.reads("C008|", 1);
        CHECK.refuses("C0008|", SYNTAX, 4);
        CHECK.reads("C/008|", 1);
        CHECK.refuses("C/0008|", SYNTAX, 5);
        CHECK.reads("[C]100/100|", 1);
        CHECK.refuses("[C]100/1000|", SYNTAX, 10);
        CHECK.refuses("[C]1000/100|", SYNTAX, 6);
        CHECK.reads("z100/100z100/100|", 0);
        CHECK.refuses("z100/100z1000|", SYNTAX, 12);
    }

    private static void lengthIsNotLookedAtBeforeAFourthDigit() {
        CHECK.sentence("(a fourth one is SYNTAX, and the length is not looked at before it)");
        CHECK.refuses("C999|", LENGTH, 4);
        CHECK.refuses("C9999|", SYNTAX, 4);
        CHECK.refuses("C000|", LENGTH, 4);
        CHECK.refuses("C0000|", SYNTAX, 4);
        CHECK.refuses("C/000|", LENGTH, 5);
        CHECK.refuses("C/0000|", SYNTAX, 5);
        CHECK.refuses("C/997|", LENGTH, 5);
        CHECK.refuses("C/9970|", SYNTAX, 5);
        CHECK.refuses("(3z999D", LENGTH, 6);
        CHECK.refuses("(3z9999D", SYNTAX, 6);
    }

    private static void noTripletInATriplet() {
        CHECK.sentence("Another triplet does not begin before it is at its end.");
        CHECK.refuses("(3(3CDE|", SYNTAX, 2);
        CHECK.refuses("(3C(3DEF|", SYNTAX, 3);
        CHECK.refuses("(3CD(3EFG|", SYNTAX, 4);
        CHECK.refuses("(3zz (3EFG|", SYNTAX, 5);
        CHECK.plays("(3CDE(3FGA|", "0+32:60 32+32:62 64+32:64 96+32:65 128+32:67 160+32:69");
        CHECK.reads("(3CDE|(3FGA|", 6);
        CHECK.reads("(3CDE F(3GAB|", 7);
    }
}
