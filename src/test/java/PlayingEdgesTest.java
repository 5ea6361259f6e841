/** The terms of playing: each sentence that names a boundary, on both sides of it. */
public final class PlayingEdgesTest {
    private static final Check CHECK = new Check("PlayingEdgesTest");
    private static final int LONG = TuneSetter.LONG;
    private static final String[] LINES = {"|", "||", "|:", ":|", "::"};

    public static void main(String[] args) {
        asLongAsThereIsABar();
        lineBeforeTheFirstBar();
        startBecomesP();
        goesBackOnce();
        startsAnewBehindIt();
        firstEndingOnTheSecondPass();
        leftOutDoesNotGoBack();
        endingsHold();
        chordNotes();
        tiedToTheNextItemPlayed();
        firstThatNoOtherIsOneWith();
        onWithTheNextItem();
        numbering();
        moreThan64();
        CHECK.end();
    }

    private static void asLongAsThereIsABar() {
        CHECK.sentence("As long as there is a bar P");
        CHECK.pitches("C8|", "60");
        CHECK.pitches("C8|D8|E8|F8|G8|A8|B8|c8|", "60 62 64 65 67 69 71 72");
        CHECK.pitches("C8|D8|E8|F8|G8|A8|B8|c8:|", "60 62 64 65 67 69 71 72 60 62 64 65 67 69 71 72");
        CHECK.pitches("C8:|D8:|E8:|F8:|G8:|A8:|B8:|c8:|", "60 60 62 62 64 64 65 65 67 67 69 69 71 71 72 72");
        CHECK.pitches("::C8::D8::E8::F8::G8::A8::B8::c8::", "60 60 62 62 64 64 65 65 67 67 69 69 71 71 72 72");
        CHECK.pitches("[1C8:|[1D8:|[1E8:|", "60");
    }

    private static void lineBeforeTheFirstBar() {
        CHECK.sentence("if a line with |: or :: stands before it and P is not START");
        for (String line : LINES) {
            CHECK.pitches(line + "C8|D8|", "60 62");
            CHECK.pitches(line + "C8|D8:|", "60 62 60 62");
        }
    }

    private static void startBecomesP() {
        CHECK.sentence("P is not START: START becomes P and PASS 1");
        CHECK.pitches("C8|:D8|E8:|F8|", "60 62 64 62 64 65");
        CHECK.pitches("C8|D8|E8:|F8|", "60 62 64 60 62 64 65");
        CHECK.pitches("C8||D8|E8:|F8|", "60 62 64 60 62 64 65");
        CHECK.pitches("|:C8|:D8:|E8:|F8|", "60 62 62 64 64 65");
        CHECK.pitches("C8|:D8|:E8|:F8:|", "60 62 64 65 65");
        CHECK.pitches("C8:|D8|:E8:|", "60 60 62 64 64");
        CHECK.pitches("|:C8|[1D8|:E8:|", "60 62 64 64");
    }

    private static void goesBackOnce() {
        CHECK.sentence("if a line with :| or :: stands behind it and PASS is 1: PASS becomes 2 and P START");
        CHECK.pitches("C8:|", "60 60");
        CHECK.pitches("C8::", "60 60");
        CHECK.pitches("C8|", "60");
        CHECK.pitches("C8||", "60");
        CHECK.pitches("C8|:", "60");
        CHECK.pitches("C8|:D8:|", "60 62 62");
        CHECK.pitches("C8|D8::", "60 62 60 62");
    }

    private static void startsAnewBehindIt() {
        CHECK.sentence("otherwise P grows by 1, and if such a line stands behind it, START becomes P and PASS 1 then");
        CHECK.pitches("C8:|D8:|", "60 60 62 62");
        CHECK.pitches("C8:|D8|E8:|", "60 60 62 64 62 64");
        CHECK.pitches("C8::D8|E8::F8|", "60 60 62 64 62 64 65");
        CHECK.pitches("C8:|[1D8:|E8|", "60 60 62 64");
    }

    private static void firstEndingOnTheSecondPass() {
        CHECK.sentence("If it has [1 and PASS is 2, it is left out; otherwise its items are played");
        CHECK.pitches("C8|[1D8:|E8|", "60 62 60 64");
        CHECK.pitches("C8|[2D8:|E8|", "60 62 60 62 64");
        CHECK.pitches("C8|D8:|E8|", "60 62 60 62 64");
        CHECK.pitches("C8|[1D8|E8|", "60 62 64");
        CHECK.pitches("[1C8|[2D8:|E8|", "60 62 62 64");
        CHECK.pitches("C8|[1D8|[2E8:|", "60 62 64 60 64");
        CHECK.plays("C8|[1D8:|E8|", "0+384:60 384+384:62 768+384:60 1152+384:64");
    }

    private static void leftOutDoesNotGoBack() {
        CHECK.sentence("(A bar that is left out does not go back, and its line does nothing: P grows by 1.)");
        CHECK.pitches("|:C8|[1D8:|E8:|F8|", "60 62 60 64 65");
        CHECK.pitches("|:C8|[1D8:|E8|F8:|G8|", "60 62 60 64 65 67");
        CHECK.pitches("|:C8|[1D8:|", "60 62 60");
        CHECK.pitches("[1C8:|", "60");
        CHECK.pitches("|:C8|[1D8:|[1E8:|F8|", "60 62 60 65");
        CHECK.pitches("|:C8|[1D8::E8:|F8|", "60 62 60 64 64 65");
    }

    private static void endingsHold() {
        CHECK.sentence("[1 or [2 hold for its bar and those behind it, up to a line that is not |.");
        CHECK.pitches("C8|[1D8|E8|F8:|G8|", "60 62 64 65 60 67");
        CHECK.pitches("C8|[1D8 | E8:|G8|", "60 62 64 60 67");
        CHECK.pitches("C8|[1D8||E8:|G8|", "60 62 64 60 64 67");
        CHECK.pitches("C8|[1D8|:E8:|G8|", "60 62 64 64 67");
        CHECK.pitches("C8|[1D8:|E8:|G8|", "60 62 60 64 67");
        CHECK.pitches("C8|[1D8::E8:|G8|", "60 62 60 64 64 67");
        CHECK.pitches("C8|[1D8|[2E8|F8:|G8|", "60 62 64 65 60 64 65 67");
        CHECK.pitches("C8|[2D8|[1E8|F8:|G8|", "60 62 64 65 60 62 67");
        CHECK.pitches("C8|[1D8||E8|F8:|", "60 62 64 65 60 64 65");
        CHECK.pitches("|[1C8|D8:|E8|", "60 62 64");
    }

    private static void chordNotes() {
        CHECK.sentence("those of a chord have one onset, in the order in which they are written");
        CHECK.plays("z[GECG]2|", "48+96:67 48+96:64 48+96:60 48+96:67");
        CHECK.plays("[C][C]|", "0+48:60 48+48:60");
    }

    private static void tiedToTheNextItemPlayed() {
        CHECK.sentence("A note with a tie, whose next item played has a note with the same pitch");
        CHECK.plays("C-C|", "0+96:60");
        CHECK.plays("CC|", "0+48:60 48+48:60");
        CHECK.plays("C-c|", "0+48:60 48+48:72");
        CHECK.plays("^C-C|", "0+96:61");
        CHECK.plays("^C8-|C8|", "0+384:61 384+384:60");
        CHECK.plays("^C8-|_D8|", "0+768:61");
        CHECK.plays("^C-_C|", "0+48:61 48+48:59");
        CHECK.plays("C-zC|", "0+48:60 96+48:60");
        CHECK.plays("C-DC|", "0+48:60 48+48:62 96+48:60");
        CHECK.plays("C8-|", "0+384:60");
        CHECK.plays("C8-:|", "0+768:60");
        CHECK.plays("C4D4-:|", "0+192:60 192+192:62 384+192:60 576+192:62");
        CHECK.plays("C4D4-|[1C8:|D8|", "0+192:60 192+192:62 384+384:60 768+192:60 960+576:62");
        CHECK.plays("C8-|[1D8:|C8|", "0+384:60 384+384:62 768+768:60");
        CHECK.plays("(3C-CC-(3C-CC|", "0+64:60 64+96:60 160+32:60");
    }

    private static void firstThatNoOtherIsOneWith() {
        CHECK.sentence("is one with the first such one that no other note is one with: with the duration of both");
        CHECK.plays("[CC]-[CC]|", "0+96:60 0+96:60");
        CHECK.plays("[CC]-C|", "0+96:60 0+48:60");
        CHECK.plays("C-[CC]|", "0+96:60 48+48:60");
        CHECK.plays("[CCC]-[CC]2|", "0+144:60 0+144:60 0+48:60");
        CHECK.plays("[CEG]-[GEB]|", "0+48:60 0+96:64 0+96:67 48+48:71");
        CHECK.plays("[C^B,]-C|", "0+96:60 0+48:60");
    }

    private static void onWithTheNextItem() {
        CHECK.sentence("(and on with the next item, if that has a tie)");
        CHECK.plays("C-C-C|", "0+144:60");
        CHECK.plays("C-CC|", "0+96:60 96+48:60");
        CHECK.plays("CC-C|", "0+48:60 48+96:60");
        CHECK.plays("C-[CE]-[CE]-E|", "0+144:60 48+144:64");
        CHECK.plays("C-[CC]-[CCC]-[CCCC]|", "0+192:60 48+144:60 96+96:60 144+48:60");
        CHECK.plays("[CC]-C-[CC]|", "0+144:60 0+48:60 96+48:60");
    }

    private static void numbering() {
        CHECK.sentence("They are numbered by their onsets, of equal ones as they were written");
        CHECK.plays("C-[BCA]D|", "0+96:60 48+48:71 48+48:69 96+48:62");
        CHECK.plays("[BA]-[AGB]|", "0+96:71 0+96:69 48+48:67");
    }

    private static void moreThan64() {
        CHECK.sentence("if there are more than 64, the tune is LONG instead (at the place of the end)");
        String most = "[CDEF]".repeat(15);
        wide(most + "[CDE]|", 63, 0);
        wide(most + "[CDEF]|", 64, 0);
        wide(most + "[CDEF]C|", LONG, 98);
        wide(most + "[CDEF]C|   ", LONG, 101);
        wide(most + "[CDEF]C" + " ".repeat(22) + "|", LONG, 120);
        wide(most + "[CDEF]zz|z|", 64, 0);
        wide(most + "[CDEF]-C|", 64, 0);
        wide(most + "[CDEF]-[CDEF]|", 64, 0);
        wide(most + "[CDEF]-[CDEG]|", LONG, 104);
        String half = "[CDEF]".repeat(8);
        CHECK.reads(half + ":|", 64);
        CHECK.refuses(half + ":|C|", LONG, 52);
        CHECK.reads("z8|" + half + ":|", 64);
        CHECK.refuses("C8|" + half + ":|", LONG, 53);
        CHECK.reads("C8|:" + half.substring(6) + "[CDE]:|", 63);
    }

    private static void wide(String text, int answer, int place) {
        CHECK.answers(Check.typedIn(12, 2, 8, text), text + " in 12/2", answer, place);
    }
}
