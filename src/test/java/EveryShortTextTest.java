import java.util.regex.Matcher;
import java.util.regex.Pattern;

/**
 * SYNTAX for every text of up to some characters: the sentences of the tune, written as one pattern, say
 * with which characters a tune can go on.
 */
public final class EveryShortTextTest {
    private static final Check CHECK = new Check("EveryShortTextTest");
    private static final int LONGEST = Integer.getInteger("longest", 4);
    /** One or two of each kind that the pattern tells apart, and one that no tune has. */
    private static final String ALPHABET = "Cgz^_=',[]13(/-|: x";

    private static final String NOTE = "(?:\\^\\^?|__?|=)?+[A-Ga-g](?:'*|,*)";
    private static final String LENGTH = "[0-9]{0,3}(?:/[0-9]{0,3})?";
    private static final String SOUND = "(?:" + NOTE + "|\\[(?:" + NOTE + ")+\\])" + LENGTH + "-?";
    private static final String ITEM = " *(?:\\(3)?(?:" + SOUND + "|z" + LENGTH + ")";
    private static final String BAR = "(?: *\\[[12])?(?:" + ITEM + ")+";
    private static final String LINE = " *(?>\\|\\||\\|:|:\\||::|\\|)";
    private static final Pattern TUNE =
        Pattern.compile("(?:" + LINE + ")?" + BAR + "(?:" + LINE + BAR + ")*" + LINE + " *");

    public static void main(String[] args) {
        CHECK.sentence("SYNTAX: no tune as said above goes on with it behind what was read, or none is at its end there");
        longerTexts();
        everyText("");
        CHECK.end();
    }

    /** So that what the short ones can't come to is held against the pattern too. */
    private static void longerTexts() {
        String[] some = {
            " |: [1 (3C/2-[^^g,__C]2/3- z4 :: [2z8 || C4|C4 ", "[1C'''/4-[CE]8/2-|", "C12/34|", "(3CCC(3CCC|z:|",
        };
        for (String text : some) {
            for (int from = 0; from < text.length(); from++) {
                for (int c = 32; c < 127; c++) {
                    ask(text.substring(0, from) + (char) c + text.substring(from));
                    ask(text.substring(0, from) + (char) c + text.substring(from + 1));
                }
                ask(text.substring(0, from));
            }
        }
    }

    private static void everyText(String text) {
        ask(text);
        for (int i = 0; i < ALPHABET.length() && text.length() < LONGEST; i++) {
            everyText(text + ALPHABET.charAt(i));
        }
    }

    /** In the longest bars, so that few of them are too full. */
    private static void ask(String text) {
        TuneSetter setter = new TuneSetter();
        setter.metre(12, 2);
        Check.typeInto(setter, text);
        int answer = setter.read();
        int stop = answer < 0 ? setter.place() : text.length();
        CHECK.due("\"" + text + "\" goes on to " + stop, goesOn(text.substring(0, stop)), true);
        if (answer == TuneSetter.SYNTAX && stop < text.length()) {
            boolean inTriplet = text.charAt(stop) == '(' && text.lastIndexOf("(3", stop - 1) >= 0;
            boolean on = goesOn(text.substring(0, stop + 1)) && !inTriplet;
            CHECK.due("\"" + text + "\" goes on behind SYNTAX at " + stop, on, false);
        } else if (answer == TuneSetter.SYNTAX || answer >= 0) {
            CHECK.due("\"" + text + "\" is a tune", TUNE.matcher(text).matches(), answer >= 0);
        }
    }

    /** Whether some tune begins with this text. */
    private static boolean goesOn(String text) {
        Matcher matcher = TUNE.matcher(text);
        return matcher.matches() || matcher.hitEnd();
    }
}
