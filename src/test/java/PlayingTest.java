/** Promises 9 to 11: bars, notes and note, as a tune is set and played. */
public final class PlayingTest {
    private static final Check CHECK = new Check("PlayingTest");

    public static void main(String[] args) {
        bars();
        noteArguments();
        letters();
        accidentals();
        repeats();
        endings();
        ties();
        chordTies();
        CHECK.end();
    }

    private static void bars() {
        CHECK.due("bars of one", CHECK.reads("C|", 1).bars(), 1);
        CHECK.due("bars of three with repeats", CHECK.reads("|:C8:|D8:|E8|", 5).bars(), 3);
        CHECK.due("bars of eight", CHECK.reads("||" + "z8|".repeat(8), 0).bars(), 8);
    }

    private static void noteArguments() {
        TuneSetter setter = CHECK.reads("C4 ^D4|", 2);
        CHECK.due("note(1, 0)", setter.note(1, 0), 192);
        CHECK.due("note(1, 1)", setter.note(1, 1), 192);
        CHECK.due("note(1, 2)", setter.note(1, 2), 63);
        int[] bad = {-1, 2, 3, 64, Integer.MIN_VALUE, Integer.MAX_VALUE};
        for (int i : bad) {
            CHECK.due("note(" + i + ", 0)", setter.note(i, 0), TuneSetter.BAD);
        }
        int[] badWhat = {-1, 3, 4, Integer.MIN_VALUE, Integer.MAX_VALUE};
        for (int what : badWhat) {
            CHECK.due("note(0, " + what + ")", setter.note(0, what), TuneSetter.BAD);
        }
        CHECK.due("note(0, 0) of rests", CHECK.reads("z8|", 0).note(0, 0), TuneSetter.BAD);
    }

    private static void letters() {
        CHECK.pitches("CDEFGAB|", "60 62 64 65 67 69 71");
        CHECK.pitches("cdefgab|", "72 74 76 77 79 81 83");
        CHECK.pitches("C'c,C''c,,B,|", "72 60 84 48 59");
        CHECK.pitches("^C^^D_E__F=G|", "61 64 63 63 67");
    }

    private static void accidentals() {
        CHECK.pitches("^CCcC,|", "61 61 72 48");
        CHECK.pitches("^cC'c|", "73 73 73");
        CHECK.pitches("^C'cc,|", "73 73 60");
        CHECK.pitches("^C_CC=CC|", "61 59 59 60 60");
        CHECK.pitches("^C8|C8|", "61 60");
        CHECK.pitches("^C||C8|", "61 60");
        CHECK.pitches("[^CC]4C4|", "61 61 61");
        CHECK.pitches("[^C_C]4C4|", "61 59 59");
        CHECK.pitches("^^F8:|F8|", "67 67 65");
        CHECK.pitches("F4^F4:|", "65 66 65 66");
        TuneSetter keyed = Check.typed("F=FFf ^^fF'|F8|");
        keyed.key(2);
        keyed.read();
        CHECK.pitches(keyed, "F=FFf ^^fF'|F8| in 2 sharps", "66 65 65 78 79 79 66");
        TuneSetter flats = Check.typed("B^BBb|B8|");
        flats.key(-1);
        flats.read();
        CHECK.pitches(flats, "B^BBb|B8| in 1 flat", "70 72 72 82 70");
    }

    private static void repeats() {
        CHECK.pitches("|:C8|D8:|E8|", "60 62 60 62 64");
        CHECK.pitches("C8|D8:|E8:|F8|", "60 62 60 62 64 64 65");
        CHECK.pitches("C8|:D8:|", "60 62 62");
        CHECK.pitches("|:C8|:D8:|", "60 62 62");
        CHECK.pitches("C8::D8:|", "60 60 62 62");
        CHECK.pitches("C8::D8::E8|", "60 60 62 62 64");
        CHECK.pitches("C8::D8|", "60 60 62");
        CHECK.pitches("C8|D8||E8:|", "60 62 64 60 62 64");
        CHECK.pitches("C8:|D8|:E8:|", "60 60 62 64 64");
        CHECK.pitches("::C8|", "60");
        CHECK.pitches(":|C8|", "60");
        CHECK.plays(CHECK.reads("C4|D8:|z4 E4|", 5), "C4|D8:|z4 E4|",
            "0+192:60 192+384:62 576+192:60 768+384:62 1344+192:64");
    }

    private static void endings() {
        CHECK.pitches("|:C8|[1D8:|[2E8|", "60 62 60 64");
        CHECK.pitches("|:C8|[1D8|E8:|[2F8|G8|", "60 62 64 60 65 67");
        CHECK.pitches("|:C8|[1D8||E8:|F8|", "60 62 64 60 64 65");
        CHECK.pitches("|:C8|[1D8|[2E8:|F8|", "60 62 64 60 64 65");
        CHECK.pitches("|:C8|[2D8:|", "60 62 60 62");
        CHECK.pitches("|:C8|[2D8|E8:|", "60 62 64 60 62 64");
        CHECK.pitches("[1C8:|D8|", "60 62");
        CHECK.pitches("[1C8|D8|", "60 62");
        CHECK.pitches("|:C8:|[1D8:|E8|", "60 60 62 64");
        CHECK.pitches("|:C8|[1D8::E8:|", "60 62 60 64 64");
        CHECK.pitches("|:C8|[1D8:|E8|[1F8:|G8|", "60 62 60 64 67");
        CHECK.pitches("|:C8|[1D8:|[2E8:|F8:|", "60 62 60 64 65 65");
        CHECK.pitches("|:C8|[1D8:|E8|:F8:|", "60 62 60 64 65 65");
        CHECK.plays(CHECK.reads("|:C8|[1D8:|[2E8|", 4), "|:C8|[1D8:|[2E8|",
            "0+384:60 384+384:62 768+384:60 1152+384:64");
    }

    private static void ties() {
        CHECK.plays(CHECK.reads("C4-C4|", 1), "C4-C4|", "0+384:60");
        CHECK.plays(CHECK.reads("C4-C4-|C8-|C4|", 1), "C4-C4-|C8-|C4|", "0+960:60");
        CHECK.plays(CHECK.reads("C4C4|", 2), "C4C4|", "0+192:60 192+192:60");
        CHECK.plays(CHECK.reads("C4-D4|", 2), "C4-D4|", "0+192:60 192+192:62");
        CHECK.plays(CHECK.reads("C2-z2C4|", 2), "C2-z2C4|", "0+96:60 192+192:60");
        CHECK.plays(CHECK.reads("^C8-|C8|", 2), "^C8-|C8|", "0+384:61 384+384:60");
        CHECK.plays(CHECK.reads("^C8-|_D8|", 1), "^C8-|_D8|", "0+768:61");
        CHECK.plays(CHECK.reads("C8-|", 1), "C8-|", "0+384:60");
        CHECK.plays(CHECK.reads("|:C8-:|D8|", 2), "|:C8-:|D8|", "0+768:60 768+384:62");
        CHECK.plays(CHECK.reads("|:C8-|[1C8:|[2D8|", 3), "|:C8-|[1C8:|[2D8|",
            "0+768:60 768+384:60 1152+384:62");
        CHECK.plays(CHECK.reads("|:C8-|[1D8:|[2C8|", 3), "|:C8-|[1D8:|[2C8|",
            "0+384:60 384+384:62 768+768:60");
    }

    private static void chordTies() {
        CHECK.plays(CHECK.reads("[CE]4-[EC]4|", 2), "[CE]4-[EC]4|", "0+384:60 0+384:64");
        CHECK.plays(CHECK.reads("[EC]4-[GC]4|", 3), "[EC]4-[GC]4|", "0+192:64 0+384:60 192+192:67");
        CHECK.plays(CHECK.reads("[CC]4-C4|", 2), "[CC]4-C4|", "0+384:60 0+192:60");
        CHECK.plays(CHECK.reads("[CC]4-[CC]4|", 2), "[CC]4-[CC]4|", "0+384:60 0+384:60");
        CHECK.plays(CHECK.reads("C4-[CC]4|", 2), "C4-[CC]4|", "0+384:60 192+192:60");
        CHECK.plays(CHECK.reads("C2-[CC]2-[CCC]4|", 3), "C2-[CC]2-[CCC]4|",
            "0+384:60 96+288:60 192+192:60");
        CHECK.plays(CHECK.reads("[CCD]2-[DC]2-[CD]4|", 3), "[CCD]2-[DC]2-[CD]4|",
            "0+384:60 0+96:60 0+384:62");
        CHECK.plays(CHECK.reads("[CE]4-E2-[CE]2|", 3), "[CE]4-E2-[CE]2|", "0+192:60 0+384:64 288+96:60");
    }
}
