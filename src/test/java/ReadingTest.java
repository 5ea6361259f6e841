/** Promises 7 and 8: what read() refuses, and where. */
public final class ReadingTest {
    private static final Check CHECK = new Check("ReadingTest");
    private static final int SYNTAX = TuneSetter.SYNTAX;
    private static final int LENGTH = TuneSetter.LENGTH;
    private static final int PITCH = TuneSetter.PITCH;
    private static final int BARS = TuneSetter.BARS;
    private static final int MANY = TuneSetter.MANY;
    private static final int LONG = TuneSetter.LONG;

    public static void main(String[] args) {
        ordinary();
        linesAndSpaces();
        wrongLines();
        wrongItems();
        wrongNotes();
        wrongLengths();
        triplets();
        wrongPitches();
        wrongBars();
        tooMany();
        tooLong();
        readingAgain();
        nothingIsLeftOver();
        CHECK.end();
    }

    private static void ordinary() {
        CHECK.reads("C8|", 1);
        CHECK.reads("C4|D8|E2|", 3);
        CHECK.reads("[CEG]8|", 3);
        CHECK.reads("z8|", 0);
        CHECK.reads("C4-C4|", 1);
        CHECK.reads("^C^^D_E__F=G a'b,,z|", 7);
        CHECK.reads("(3CDE (3z[CE]d F2-F2|", 7);
        CHECK.reads("(3CDE(3FGA (3Bcd|", 9);
    }

    private static void linesAndSpaces() {
        CHECK.reads("|C8|", 1);
        CHECK.reads("||C8||", 1);
        CHECK.reads("|:C8|:", 1);
        CHECK.reads(":|C8:|", 2);
        CHECK.reads("::C8::", 2);
        CHECK.reads(" | C8 |", 1);
        CHECK.reads("   C4   D4   |   ", 2);
        CHECK.reads("  [1  C8  :|  [2  D8  |  ", 2);
        CHECK.reads("[1C8|[2D8|", 2);
        CHECK.reads(" :| [2 [C]8|", 1);
        CHECK.reads("C4- D4- |", 2);
    }

    private static void wrongLines() {
        CHECK.refuses("", SYNTAX, 0);
        CHECK.refuses("   ", SYNTAX, 3);
        CHECK.refuses("|", SYNTAX, 1);
        CHECK.refuses("|| ", SYNTAX, 3);
        CHECK.refuses(":", SYNTAX, 1);
        CHECK.refuses(":C8|", SYNTAX, 1);
        CHECK.refuses(": |", SYNTAX, 1);
        CHECK.refuses("| |C8|", SYNTAX, 2);
        CHECK.refuses("|||C8|", SYNTAX, 2);
        CHECK.refuses("|::C8|", SYNTAX, 2);
        CHECK.refuses("C8", SYNTAX, 2);
        CHECK.refuses("C8 ", SYNTAX, 3);
        CHECK.refuses("C8|C8", SYNTAX, 5);
        CHECK.refuses("C8| |", SYNTAX, 4);
        CHECK.refuses("C8|||", SYNTAX, 4);
        CHECK.refuses("C8:", SYNTAX, 3);
        CHECK.refuses("C8: |", SYNTAX, 3);
        CHECK.refuses("C8:|:", SYNTAX, 4);
        CHECK.refuses("C8:||", SYNTAX, 4);
        CHECK.refuses("C8::|", SYNTAX, 4);
        CHECK.refuses("C8|: |", SYNTAX, 5);
        CHECK.refuses("[1|", SYNTAX, 2);
        CHECK.refuses("[1", SYNTAX, 2);
        CHECK.refuses("[1 |", SYNTAX, 3);
        CHECK.refuses("[ 1C8|", SYNTAX, 1);
        CHECK.refuses("[3C8|", SYNTAX, 1);
        CHECK.refuses("[12C8|", SYNTAX, 2);
        CHECK.refuses("[1[2C8|", SYNTAX, 3);
        CHECK.refuses("C4[1C4|", SYNTAX, 3);
        CHECK.refuses("C4 [1C4|", SYNTAX, 4);
        CHECK.refuses("C8|[0", SYNTAX, 4);
    }

    private static void wrongItems() {
        for (char c = 32; c <= 126; c++) {
            if ("ABCDEFGabcdefgz^_=([|: ".indexOf(c) < 0) {
                CHECK.refuses("" + c, SYNTAX, 0);
                CHECK.refuses("C8|" + c + "8|", SYNTAX, 3);
            }
        }
        CHECK.refuses("C 8|", SYNTAX, 2);
        CHECK.refuses("C -|", SYNTAX, 2);
        CHECK.refuses("C--|", SYNTAX, 2);
        CHECK.refuses("C-2|", SYNTAX, 2);
        CHECK.refuses("C-/|", SYNTAX, 2);
        CHECK.refuses("-C|", SYNTAX, 0);
        CHECK.refuses("z-|", SYNTAX, 1);
        CHECK.refuses("z2-|", SYNTAX, 2);
        CHECK.refuses("z/-|", SYNTAX, 2);
        CHECK.refuses("(3zz-", SYNTAX, 4);
        CHECK.refuses("z'|", SYNTAX, 1);
        CHECK.refuses("( 3CDE|", SYNTAX, 1);
        CHECK.refuses("(3 CDE|", SYNTAX, 2);
        CHECK.refuses("(2CDE|", SYNTAX, 1);
        CHECK.refuses("((3C", SYNTAX, 1);
        CHECK.refuses("(3(3C", SYNTAX, 2);
        CHECK.refuses("(3|", SYNTAX, 2);
        CHECK.refuses("(33", SYNTAX, 2);
        CHECK.refuses("(3CD(3E", SYNTAX, 4);
        CHECK.refuses("(3CD (3E", SYNTAX, 5);
        CHECK.refuses("(3C4-(3E", SYNTAX, 5);
        CHECK.refuses("([C]|", SYNTAX, 1);
        CHECK.refuses("(3CDE", SYNTAX, 5);
    }

    private static void wrongNotes() {
        CHECK.refuses("^", SYNTAX, 1);
        CHECK.refuses("^z|", SYNTAX, 1);
        CHECK.refuses("^ C|", SYNTAX, 1);
        CHECK.refuses("^|", SYNTAX, 1);
        CHECK.refuses("^[C]|", SYNTAX, 1);
        CHECK.refuses("^^^C|", SYNTAX, 2);
        CHECK.refuses("___C|", SYNTAX, 2);
        CHECK.refuses("^_C|", SYNTAX, 1);
        CHECK.refuses("_^C|", SYNTAX, 1);
        CHECK.refuses("==C|", SYNTAX, 1);
        CHECK.refuses("=^C|", SYNTAX, 1);
        CHECK.refuses("^=C|", SYNTAX, 1);
        CHECK.refuses("^C_^D|", SYNTAX, 3);
        CHECK.refuses("C',|", SYNTAX, 2);
        CHECK.refuses("C,'|", SYNTAX, 2);
        CHECK.refuses("C'',|", SYNTAX, 3);
        CHECK.refuses("C2'|", SYNTAX, 2);
        CHECK.refuses("[]|", SYNTAX, 1);
        CHECK.refuses("[z]|", SYNTAX, 1);
        CHECK.refuses("[[C]]|", SYNTAX, 1);
        CHECK.refuses("[C", SYNTAX, 2);
        CHECK.refuses("[C|", SYNTAX, 2);
        CHECK.refuses("[C E]|", SYNTAX, 2);
        CHECK.refuses("[ C]|", SYNTAX, 1);
        CHECK.refuses("[C2]|", SYNTAX, 2);
        CHECK.refuses("[C-]|", SYNTAX, 2);
        CHECK.refuses("[C/]|", SYNTAX, 2);
        CHECK.refuses("[Cz]|", SYNTAX, 2);
        CHECK.refuses("[C^]|", SYNTAX, 3);
        CHECK.refuses("[C]']|", SYNTAX, 3);
        CHECK.refuses("[C]]|", SYNTAX, 3);
        CHECK.refuses("C]|", SYNTAX, 1);
    }

    private static void wrongLengths() {
        CHECK.refuses("C0|", LENGTH, 2);
        CHECK.refuses("C000|", LENGTH, 4);
        CHECK.refuses("z0/4|", LENGTH, 4);
        CHECK.refuses("C/7", LENGTH, 3);
        CHECK.refuses("C/7x", LENGTH, 3);
        CHECK.refuses("C/7/", LENGTH, 3);
        CHECK.refuses("C/7-", LENGTH, 3);
        CHECK.refuses("z/7-", LENGTH, 3);
        CHECK.refuses("C/7 |", LENGTH, 3);
        CHECK.refuses("C/7D", LENGTH, 3);
        CHECK.refuses("C/0|", LENGTH, 3);
        CHECK.refuses("C0/0|", LENGTH, 4);
        CHECK.refuses("C/000'", LENGTH, 5);
        CHECK.refuses("[CE]/7]", LENGTH, 6);
        CHECK.refuses("C33|", LENGTH, 3);
        CHECK.refuses("C999|", LENGTH, 4);
        CHECK.refuses("C/32|", LENGTH, 4);
        CHECK.refuses("C1234|", SYNTAX, 4);
        CHECK.refuses("C0000|", SYNTAX, 4);
        CHECK.refuses("C/1234|", SYNTAX, 5);
        CHECK.refuses("C/0000|", SYNTAX, 5);
        CHECK.refuses("C9999/3|", SYNTAX, 4);
        CHECK.refuses("C//|", SYNTAX, 2);
        CHECK.refuses("C/2/|", SYNTAX, 3);
        CHECK.refuses("C32|", BARS, 3);
        CHECK.plays(CHECK.reads("C/|D3/2|", 2), "C/|D3/2|", "0+24:60 24+72:62");
        CHECK.plays(CHECK.reads("C3/D/4E08/002|", 3), "halves", "0+72:60 72+12:62 84+192:64");
        CHECK.plays(CHECK.reads("C999/999D/48|", 2), "the same", "0+48:60 48+1:62");
        TuneSetter longest = Check.typed("C32|");
        longest.metre(12, 2);
        CHECK.plays(CHECK.readsWith(longest, "C32| in 12/2", 1), "C32|", "0+1536:60");
        longest.clear();
        Check.typeInto(longest, "C999/31|");
        CHECK.refusesWith(longest, "C999/31|", LENGTH, 7);
        longest.clear();
        Check.typeInto(longest, "C769/24|");
        CHECK.refusesWith(longest, "C769/24|, 1538 ticks", LENGTH, 7);
        TuneSetter sixteenth = Check.typed("C64|");
        sixteenth.metre(12, 2);
        sixteenth.unit(16);
        CHECK.readsWith(sixteenth, "C64| with unit 16", 1);
        sixteenth.clear();
        Check.typeInto(sixteenth, "C65|");
        CHECK.refusesWith(sixteenth, "C65| with unit 16", LENGTH, 3);
    }

    private static void triplets() {
        CHECK.plays(CHECK.reads("(3CDE F|", 4), "(3CDE F|", "0+32:60 32+32:62 64+32:64 96+48:65");
        CHECK.plays(CHECK.reads("(3C2zE/ F|", 3), "(3C2zE/ F|", "0+64:60 96+16:64 112+48:65");
        CHECK.plays(CHECK.reads("C(3DEF(3GABc|", 8), "two of them",
            "0+48:60 48+32:62 80+32:64 112+32:65 144+32:67 176+32:69 208+32:71 240+48:72");
        CHECK.refuses("(3C/12DE|", LENGTH, 6);
        CHECK.refuses("(3CDE/12|", LENGTH, 8);
        CHECK.plays(CHECK.reads("(3CDEF/12|", 4), "behind it", "0+32:60 32+32:62 64+32:64 96+4:65");
        CHECK.plays(CHECK.reads("(3C/32DE|", 3), "a length that two thirds make whole",
            "0+1:60 1+32:62 33+32:64");
        TuneSetter wide = Check.typed("(3C48DE|");
        wide.metre(12, 2);
        CHECK.plays(CHECK.readsWith(wide, "(3C48DE| in 12/2", 3), "two thirds of 2304",
            "0+1536:60 1536+32:62 1568+32:64");
        wide.clear();
        Check.typeInto(wide, "(3C49DE|");
        CHECK.refusesWith(wide, "(3C49DE| in 12/2", LENGTH, 5);
    }

    private static void wrongPitches() {
        CHECK.pitches("C,,,,,8|", "0");
        CHECK.refuses("C,,,,,,8|", PITCH, 7);
        CHECK.refuses("_C,,,,,|", PITCH, 7);
        CHECK.pitches("^B,,,,,,8|", "0");
        CHECK.pitches("^^B,,,,,,8|", "1");
        CHECK.refuses("B,,,,,,|", PITCH, 7);
        CHECK.refuses("^^A,,,,,,|", PITCH, 9);
        CHECK.pitches("G'''''8|", "127");
        CHECK.pitches("g''''8|", "127");
        CHECK.refuses("^G'''''|", PITCH, 7);
        CHECK.pitches("__A'''''A'''''|", "127 127");
        CHECK.pitches("^B,,,,,,B,,,,,,|", "0 0");
        CHECK.refuses("_A'''''|", PITCH, 7);
        CHECK.refuses("A'''''|", PITCH, 6);
        CHECK.refuses("__B'''''|", PITCH, 8);
        CHECK.refuses("_C,,,,x", SYNTAX, 6);
        CHECK.refuses("C,,,,,,'", PITCH, 7);
        CHECK.refuses("C'''''',", PITCH, 7);
        CHECK.refuses("C''''''x", PITCH, 7);
        CHECK.refuses("C''''''/7|", PITCH, 7);
        CHECK.refuses("C''''''", PITCH, 7);
        CHECK.refuses("[C''''''E]|", PITCH, 8);
        CHECK.refuses("[EC'''''']|", PITCH, 9);
        CHECK.refuses("[CDEC''''''F]|", PITCH, 11);
        CHECK.refuses("C" + "'".repeat(119), PITCH, 120);
        CHECK.refuses("C" + ",".repeat(119), PITCH, 120);
        CHECK.refuses("__A'''''8|A'''''8|", PITCH, 16);
        TuneSetter sharp = Check.typed("B,,,,,,8|");
        sharp.key(7);
        CHECK.pitches(CHECK.readsWith(sharp, "B,,,,,,8| in 7 sharps", 1), "B,,,,,,8|", "0");
        sharp.clear();
        Check.typeInto(sharp, "G'''''8|");
        CHECK.refusesWith(sharp, "G'''''8| in 7 sharps", PITCH, 6);
        TuneSetter flat = Check.typed("C,,,,,8|");
        flat.key(-6);
        CHECK.refusesWith(flat, "C,,,,,8| in 6 flats", PITCH, 6);
        flat.key(-5);
        CHECK.readsWith(flat, "C,,,,,8| in 5 flats", 1);
    }

    private static void wrongBars() {
        CHECK.refuses("C9|", BARS, 2);
        CHECK.refuses("C9 :|", BARS, 3);
        CHECK.refuses("C9:C", BARS, 2);
        CHECK.refuses("C8D/48||", BARS, 6);
        CHECK.refuses("C8|C8D|", BARS, 6);
        CHECK.refuses("C8|C4|C8|", BARS, 5);
        CHECK.refuses("C8|C4 :|D8|", BARS, 6);
        CHECK.refuses("C8|C4  ||  D8|", BARS, 7);
        CHECK.refuses("C8|C4|[1C8|", BARS, 5);
        CHECK.refuses("C8|C4|[x", BARS, 5);
        CHECK.refuses("C8|C4|(x", BARS, 5);
        CHECK.refuses("C8|C4|^x", BARS, 5);
        CHECK.refuses("C8|C4|x", SYNTAX, 6);
        CHECK.refuses("C8|C4||x", SYNTAX, 7);
        CHECK.refuses("C8|C4||:", SYNTAX, 7);
        CHECK.refuses("|C|D|E|", BARS, 4);
        CHECK.refuses("|:C8|C4:|E|", BARS, 7);
        CHECK.refuses("(3CD|", BARS, 4);
        CHECK.refuses("(3C:|", BARS, 3);
        CHECK.refuses("(3C |", BARS, 4);
        CHECK.refuses("(3CD:x", BARS, 4);
        CHECK.refuses("(3C4D4x", SYNTAX, 6);
        CHECK.reads("C4|D4|", 2);
        CHECK.reads("C|D8|E|", 3);
        CHECK.reads("C8|C4|", 2);
        CHECK.reads("C8|C4| ", 2);
    }

    private static void tooMany() {
        String eight = "C8|".repeat(8);
        CHECK.due("bars of eight", CHECK.reads(eight, 8).bars(), 8);
        CHECK.refuses(eight + "C", MANY, 24);
        CHECK.refuses(eight + " [1C", MANY, 25);
        CHECK.refuses(eight + " [x", MANY, 25);
        CHECK.refuses(eight + "x", SYNTAX, 24);
        CHECK.refuses("C8|".repeat(7) + "C4|C", BARS, 23);
        CHECK.reads("[CDEF]8|", 4);
        CHECK.refuses("[CDEFG]8|", MANY, 5);
        CHECK.refuses("[CDEF^G]8|", MANY, 5);
        CHECK.refuses("[CDEF=x", MANY, 5);
        CHECK.refuses("[CDEFx", SYNTAX, 5);
        CHECK.refuses("[^C__D=Ef']8[^^CDEF]8|", BARS, 21);
        CHECK.reads("[^C__D=Ef']4[^^CDEF]4|", 8);
        items();
    }

    private static void items() {
        String most = "z".repeat(48);
        refusesWide(most + "|", 0, TuneSetter.BAD);
        refusesWide(most + "z|", MANY, 48);
        refusesWide(most + "(3", MANY, 48);
        refusesWide(most + " ^", MANY, 49);
        refusesWide(most + "[C", MANY, 48);
        refusesWide(most + "[1", MANY, 48);
        refusesWide(most + "|[", MANY, 49);
        refusesWide(most + "|[C", MANY, 49);
        refusesWide(most + "|[3", MANY, 49);
        refusesWide(most + "|[1z", MANY, 51);
        refusesWide(most + "|[2 z", MANY, 52);
        refusesWide(most + "|[1x", SYNTAX, 51);
        refusesWide(most + "|[2", SYNTAX, 51);
        refusesWide("z|" + "z".repeat(47) + "|[C", BARS, 49);
    }

    private static void refusesWide(String text, int want, int place) {
        TuneSetter setter = Check.typed(text);
        setter.metre(12, 2);
        CHECK.due("read() of \"" + text + "\"", setter.read(), want);
        CHECK.due("place() behind \"" + text + "\"", setter.place(), place);
    }

    private static void tooLong() {
        String chords = "[CDEF]".repeat(8);
        CHECK.reads("|:" + chords + ":|", 64);
        CHECK.refuses("|:" + chords + ":|C|", LONG, 54);
        CHECK.refuses("|:" + chords + ":|C|   ", LONG, 57);
        CHECK.reads("|:" + chords + ":|z|", 64);
        CHECK.reads("|:" + chords + "-:|C|", 60);
        CHECK.refuses("|:" + chords + "::C8-|C8|", LONG, 59);
        TuneSetter setter = CHECK.reads("C8|", 1);
        setter.clear();
        Check.typeInto(setter, "|:" + chords + ":|C|");
        CHECK.refusesWith(setter, "a tune that is LONG", LONG, 54);
        CHECK.due("write() of it", setter.write(), TuneSetter.BAD);
    }

    private static void readingAgain() {
        TuneSetter setter = CHECK.reads("C8|", 1);
        CHECK.readsWith(setter, "C8| again", 1);
        Check.typeInto(setter, "D4|");
        CHECK.readsWith(setter, "C8|D4|", 2);
        Check.typeInto(setter, "E");
        CHECK.refusesWith(setter, "C8|D4|E", BARS, 5);
        CHECK.due("note(0, 0) of none", setter.note(0, 0), TuneSetter.BAD);
        CHECK.due("width(0) of none", setter.width(0), TuneSetter.BAD);
        CHECK.due("breaking(99) of none", setter.breaking(99), TuneSetter.BAD);
        CHECK.due("lines(99) of none", setter.lines(99), TuneSetter.BAD);
    }

    /** What an earlier text had, to its end or to where it was wrong, does not show in a later one. */
    private static void nothingIsLeftOver() {
        leavesNothing("^F(3C", "FFF|", "0+48:65 48+48:65 96+48:65");
        leavesNothing("^^", "F|", "0+48:65");
        leavesNothing("[1^F", "F8:|", "0+384:65 384+384:65");
        leavesNothing("[CDEF", "C|", "0+48:60");
        leavesNothing("[CDEF", "[CDEF]|", "0+48:60 0+48:62 0+48:64 0+48:65");
        leavesNothing("C12/7", "C|", "0+48:60");
        leavesNothing("C4-D4-|", "C4C4|", "0+192:60 192+192:60");
        leavesNothing("C8:|C8:|", "C8|D8|", "0+384:60 384+384:62");
        leavesNothing("|:C8|:C8|:", "C8|D8:|", "0+384:60 384+384:62 768+384:60 1152+384:62");
        leavesNothing("C8::C8::", "C8|D8:|", "0+384:60 384+384:62 768+384:60 1152+384:62");
        leavesNothing("C8||C8||", "[1C8|D8:|E8|", "0+384:60 384+384:62 768+384:64");
        leavesNothing("|:" + "[CDEF]".repeat(8) + ":|C|", "C|", "0+48:60");
        leavesNothing("C8-|", "C|", "0+48:60");
        TuneSetter often = Check.typed("C8:|[CEGB]8|");
        for (int i = 0; i < 400; i++) {
            CHECK.due("read() for the " + i + "th time", often.read(), 6);
        }
        CHECK.pitches(often, "C8:|[CEGB]8|", "60 60 60 64 67 71");
    }

    private static void leavesNothing(String first, String second, String want) {
        TuneSetter setter = Check.typed(first);
        setter.read();
        setter.clear();
        Check.typeInto(setter, second);
        setter.read();
        CHECK.plays(setter, second + " behind " + first, want);
    }
}
