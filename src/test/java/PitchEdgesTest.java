/** The terms of the pitch: each sentence that names a boundary, on both sides of it. */
public final class PitchEdgesTest {
    private static final Check CHECK = new Check("PitchEdgesTest");
    private static final int PITCH = TuneSetter.PITCH;
    private static final String LETTERS = "CDEFGAB";
    private static final int[] NATURALS = {60, 62, 64, 65, 67, 69, 71};

    public static void main(String[] args) {
        lettersAndOctaves();
        whatAnAccidentalSays();
        latestAccidental();
        sameBar();
        sameLetter();
        sameOctave();
        key();
        keyComesLast();
        lowestAndHighest();
        whereANoteEnds();
        CHECK.end();
    }

    /** Every letter with up to seven octaves more or less. */
    private static void lettersAndOctaves() {
        CHECK.sentence("C is 60, D 62, E 64, F 65, G 67, A 69, B 71; c .. b 12 more; each ' 12 more, each , 12 less.");
        for (int i = 0; i < NATURALS.length; i++) {
            String large = LETTERS.substring(i, i + 1);
            String small = large.toLowerCase();
            for (int octaves = 0; octaves <= 7; octaves++) {
                pitchOrRefusal(large + "'".repeat(octaves), NATURALS[i] + 12 * octaves);
                pitchOrRefusal(large + ",".repeat(octaves), NATURALS[i] - 12 * octaves);
                pitchOrRefusal(small + "'".repeat(octaves), NATURALS[i] + 12 + 12 * octaves);
                pitchOrRefusal(small + ",".repeat(octaves), NATURALS[i] + 12 - 12 * octaves);
            }
        }
    }

    private static void pitchOrRefusal(String note, int pitch) {
        if (pitch >= 0 && pitch <= 127) {
            CHECK.pitches(note + "|", "" + pitch);
        } else {
            CHECK.refuses(note + "|", PITCH, note.length());
        }
    }

    private static void whatAnAccidentalSays() {
        CHECK.sentence("To this comes what its accidental says (1, 2, -1, -2, 0)");
        CHECK.pitches("^G|", "68");
        CHECK.pitches("^^G|", "69");
        CHECK.pitches("_G|", "66");
        CHECK.pitches("__G|", "65");
        CHECK.pitches("=G|", "67");
    }

    private static void latestAccidental() {
        CHECK.sentence("or if it has none, what the latest accidental in the same bar says");
        CHECK.pitches("G^GG|", "67 68 68");
        CHECK.pitches("^G_GG|", "68 66 66");
        CHECK.pitches("^G=GG|", "68 67 67");
        CHECK.pitches("=G^^GGG|", "67 69 69 69");
        CHECK.pitches("[^G_G]G|", "68 66 66");
        CHECK.pitches("[__GG]|", "65 65");
        CHECK.pitches("^G z (3GGG|", "68 68 68 68");
    }

    private static void sameBar() {
        CHECK.sentence("the latest accidental in the same bar");
        String[] lines = {"|", "||", "|:"};
        for (String line : lines) {
            CHECK.pitches("^G4 G4" + line + "G8|", "68 68 67");
        }
        CHECK.pitches("^G4G4:|G8|", "68 68 68 68 67");
        CHECK.pitches("^G4G4::G8|", "68 68 68 68 67");
        CHECK.pitches("G4^G4:|", "67 68 67 68");
        CHECK.pitches("^G8|=F8|G8|", "68 65 67");
        CHECK.pitches("[1^GG|", "68 68");
    }

    private static void sameLetter() {
        CHECK.sentence("of a note with the same letter");
        CHECK.pitches("^FG^GA|", "66 67 68 69");
        CHECK.pitches("^EF|", "65 65");
        CHECK.pitches("^^D E_FE|", "64 64 64 64");
        CHECK.pitches("_cB|", "71 71");
    }

    private static void sameOctave() {
        CHECK.sentence("and the same octave (c and C' are the same)");
        CHECK.pitches("^CcC'C,|", "61 72 72 48");
        CHECK.pitches("^cC'C|", "73 73 60");
        CHECK.pitches("^C'cC|", "73 73 60");
        CHECK.pitches("_c,Cc|", "59 59 72");
        CHECK.pitches("^C,,c,,,C,|", "37 37 48");
        CHECK.pitches("_g''''G'''''|", "126 126");
    }

    private static void key() {
        CHECK.sentence("with k sharps 1 for the first k of F C G D A E B; "
            + "with k flats -1 for the first k of B E A D G C F");
        String sharps = "FCGDAEB";
        for (int k = 0; k <= 7; k++) {
            for (int i = 0; i < NATURALS.length; i++) {
                int rank = sharps.indexOf(LETTERS.charAt(i));
                pitchIn(k, LETTERS.charAt(i), NATURALS[i] + (rank < k ? 1 : 0));
                pitchIn(-k, LETTERS.charAt(i), NATURALS[i] - (6 - rank < k ? 1 : 0));
            }
        }
    }

    private static void pitchIn(int k, char letter, int pitch) {
        TuneSetter setter = Check.typed(letter + "," + letter + Character.toLowerCase(letter) + "|");
        setter.key(k);
        setter.read();
        CHECK.pitches(setter, letter + " in three octaves, key " + k, (pitch - 12) + " " + pitch + " " + (pitch + 12));
    }

    private static void keyComesLast() {
        CHECK.sentence("or if there is none, what the key says for its letter");
        TuneSetter setter = Check.typed("F=FFf^^FF_FF|F8|");
        setter.key(1);
        setter.read();
        CHECK.pitches(setter, "F=FFf^^FF_FF|F8| in 1 sharp", "66 65 65 78 67 67 64 64 66");
        setter.key(-7);
        setter.read();
        CHECK.pitches(setter, "F=FFf^^FF_FF|F8| in 7 flats", "64 65 65 76 67 67 64 64 64");
    }

    private static void lowestAndHighest() {
        CHECK.sentence("PITCH: its pitch is not 0 .. 127");
        CHECK.pitches("C,,,,,|", "0");
        CHECK.refuses("_C,,,,,|", PITCH, 7);
        CHECK.refuses("__C,,,,,|", PITCH, 8);
        CHECK.pitches("^B,,,,,,|", "0");
        CHECK.refuses("=B,,,,,,|", PITCH, 8);
        CHECK.pitches("G'''''|", "127");
        CHECK.refuses("^G'''''|", PITCH, 7);
        CHECK.refuses("^^G'''''|", PITCH, 8);
        CHECK.pitches("__A'''''|", "127");
        CHECK.refuses("_A'''''|", PITCH, 7);
        CHECK.refuses("^^A,,,,,,|", PITCH, 9);
        CHECK.refuses("__B'''''|", PITCH, 8);
        CHECK.pitches("__A'''''A'''''|", "127 127");
        CHECK.refuses("__A'''''=A'''''|", PITCH, 15);
        CHECK.refuses("__A'''''8|A'''''|", PITCH, 16);
        inKey("B,,,,,,|", 7, 6, 0, 7);
        inKey("C,,,,,|", -5, -6, 0, 6);
        inKey("G'''''|", 2, 3, 127, 6);
    }

    private static void inKey(String text, int rightKey, int wrongKey, int pitch, int place) {
        TuneSetter setter = Check.typed(text);
        setter.key(rightKey);
        CHECK.readsWith(setter, text + " in key " + rightKey, 1);
        CHECK.due("the pitch of " + text, setter.note(0, 2), pitch);
        setter.key(wrongKey);
        CHECK.refusesWith(setter, text + " in key " + wrongKey, PITCH, place);
    }

    private static void whereANoteEnds() {
        CHECK.sentence("PITCH: a note's letter and octaves end before it");
        String high = "C''''''";
        String[] behind = {"", "|", " ", ":|", "2", "/", "-", "D", "z", "(3", "[", "x", ",", "]", "^", "0/0"};
        for (String more : behind) {
            CHECK.refuses(high + more, PITCH, 7);
            CHECK.refuses("[" + high + more, PITCH, 8);
            CHECK.refuses("C8|(3D" + high + more, PITCH, 13);
        }
        CHECK.refuses("[CE" + high + "]", PITCH, 10);
        CHECK.refuses("C" + "'".repeat(119), PITCH, 120);
        CHECK.refuses("C" + ",".repeat(119), PITCH, 120);
    }
}
