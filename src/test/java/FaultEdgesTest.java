/** The terms of reading: what is wrong, where, and what comes first; each sentence on both sides of its boundary. */
public final class FaultEdgesTest {
    private static final Check CHECK = new Check("FaultEdgesTest");
    private static final int SYNTAX = TuneSetter.SYNTAX;
    private static final int LENGTH = TuneSetter.LENGTH;
    private static final int PITCH = TuneSetter.PITCH;
    private static final int BARS = TuneSetter.BARS;
    private static final int MANY = TuneSetter.MANY;
    private static final String[] LINES = {"|", "||", "|:", ":|", "::"};
    /** What an item can begin with, and [1 and [2. */
    private static final String[] BEGINNINGS = {
        "C", "g", "z", "^", "_", "=", "[C", "(3", "[1", "[2", "(x", "[x", "^x",
    };
    private static final String HIGH = "C''''''";

    public static void main(String[] args) {
        toTheEnd();
        firstPlace();
        lengthComesFirst();
        pitchComesSecond();
        syntaxComesThird();
        barsComeBeforeMany();
        wholeTicks();
        noTicks();
        mostTicks();
        dividedByNothing();
        whereALengthEnds();
        shortBarBeforeAnother();
        placeOfTheLineBetween();
        firstAndLastMayHaveFewer();
        moreThanFull();
        tripletNotAtItsEnd();
        ninthBar();
        item49();
        bracketAtTheBeginningOfABar();
        fifthNote();
        CHECK.end();
    }

    private static void wide(String text, int answer, int place) {
        CHECK.answers(Check.typedIn(12, 2, 16, text), text + " in 12/2", answer, place);
    }

    /** Every beginning of a tune that is none. */
    private static void toTheEnd() {
        CHECK.sentence("SYNTAX: no tune goes on with it behind what was read, or none is at its end there");
        String tune = " |:[1(3^^C'12/3-[D,_E]/z2 :| [2=F-|| ";
        for (int length = 0; length <= tune.length(); length++) {
            String text = tune.substring(0, length);
            if (length == 28 || length == 29) {
                CHECK.reads(text, 3);
            } else if (length >= 35) {
                CHECK.reads(text, 4);
            } else {
                CHECK.refuses(text, SYNTAX, length);
            }
        }
    }

    private static void firstPlace() {
        CHECK.sentence("it stops at the first of these");
        CHECK.refuses("C9|x", BARS, 2);
        CHECK.refuses("xC9|", SYNTAX, 0);
        CHECK.refuses("C/7" + HIGH + "|", LENGTH, 3);
        CHECK.refuses(HIGH + "/7|", PITCH, 7);
        CHECK.refuses("[CCCCC|", MANY, 5);
        CHECK.refuses("[CCCC|C", SYNTAX, 5);
        CHECK.refuses("C9|D/7|", BARS, 2);
        CHECK.refuses("C8|D4|E/7|", BARS, 5);
    }

    private static void lengthComesFirst() {
        CHECK.sentence("in this order: LENGTH, PITCH, SYNTAX, BARS, MANY (LENGTH before the others)");
        CHECK.refuses("C/7x", LENGTH, 3);
        CHECK.refuses("z/7-", LENGTH, 3);
        CHECK.refuses("C/7", LENGTH, 3);
        CHECK.refuses("C33|", LENGTH, 3);
        CHECK.refuses("(3C/7|", LENGTH, 5);
        CHECK.refuses("(3C/7(3", LENGTH, 5);
        wide("z".repeat(47) + "z/7z", LENGTH, 50);
        wide("z".repeat(48) + "z", MANY, 48);
    }

    private static void pitchComesSecond() {
        CHECK.sentence("in this order: LENGTH, PITCH, SYNTAX, BARS, MANY (PITCH before the three behind it)");
        CHECK.refuses(HIGH + "x", PITCH, 7);
        CHECK.refuses(HIGH, PITCH, 7);
        CHECK.refuses("C8" + HIGH + "|", PITCH, 9);
        CHECK.refuses("C8C|", BARS, 3);
        CHECK.refuses("(3" + HIGH + "|", PITCH, 9);
        CHECK.refuses("[CCC" + HIGH + "C]", PITCH, 11);
        CHECK.refuses("[CCCCC]", MANY, 5);
        wide("z".repeat(47) + HIGH + "z", PITCH, 54);
    }

    private static void syntaxComesThird() {
        CHECK.sentence("in this order: LENGTH, PITCH, SYNTAX, BARS, MANY (SYNTAX before BARS and MANY)");
        wide("z".repeat(46) + "(3zz(3", SYNTAX, 50);
        wide("z".repeat(45) + "(3zzz(3", MANY, 50);
        CHECK.refuses("C8|C4|x", SYNTAX, 6);
        CHECK.refuses("C8|C4||:C", SYNTAX, 7);
        CHECK.refuses("C8|".repeat(8) + "x", SYNTAX, 24);
        CHECK.refuses("[CCCCz", SYNTAX, 5);
    }

    private static void barsComeBeforeMany() {
        CHECK.sentence("in this order: LENGTH, PITCH, SYNTAX, BARS, MANY (BARS before MANY)");
        CHECK.refuses("C8|".repeat(7) + "C7|C", BARS, 23);
        CHECK.refuses("C8|".repeat(7) + "C8|C", MANY, 24);
        CHECK.refuses("zzzzzzzz|".repeat(5) + "zzzzzzzz/|z", BARS, 54);
        CHECK.refuses("zzzzzzzz|".repeat(5) + "zzzzzzzz|z", MANY, 54);
    }

    private static void wholeTicks() {
        CHECK.sentence("LENGTH: that is no whole number of ticks");
        int[] units = {4, 8, 16};
        for (int unit : units) {
            int ticks = 384 / unit;
            for (int divisor = 1; divisor <= 2 * ticks; divisor++) {
                String text = "C/" + divisor;
                TuneSetter setter = Check.typedIn(4, 4, unit, text + "|");
                if (ticks % divisor == 0) {
                    CHECK.readsWith(setter, text + "| with unit " + unit, 1);
                    CHECK.due("its duration", setter.note(0, 1), ticks / divisor);
                } else {
                    CHECK.refusesWith(setter, text + "| with unit " + unit, LENGTH, text.length());
                }
            }
        }
        CHECK.plays("(3C/16DE|", "0+2:60 2+32:62 34+32:64");
        CHECK.plays("(3C/32DE|", "0+1:60 1+32:62 33+32:64");
        CHECK.refuses("(3C/48DE|", LENGTH, 6);
        CHECK.refuses("(3CD/48E|", LENGTH, 7);
        CHECK.refuses("(3CDE/48|", LENGTH, 8);
        CHECK.reads("(3CDEF/48|", 4);
    }

    private static void noTicks() {
        CHECK.sentence("LENGTH: or 0");
        CHECK.refuses("C0|", LENGTH, 2);
        CHECK.refuses("z00|", LENGTH, 3);
        CHECK.refuses("[C]000|", LENGTH, 6);
        CHECK.refuses("C0/|", LENGTH, 3);
        CHECK.refuses("C0/1|", LENGTH, 4);
        CHECK.refuses("(3CD0E|", LENGTH, 5);
        CHECK.plays("C1/48|", "0+1:60");
    }

    private static void mostTicks() {
        CHECK.sentence("LENGTH: or more than 1536");
        String[] most = {"C16|", "z32|", "[C]64|"};
        String[] more = {"C17|", "z33|", "[C]65|"};
        for (int i = 0; i < 3; i++) {
            TuneSetter setter = Check.typedIn(12, 2, 4 << i, most[i]);
            CHECK.readsWith(setter, most[i] + " with unit " + (4 << i), i == 1 ? 0 : 1);
            setter = Check.typedIn(12, 2, 4 << i, more[i]);
            CHECK.refusesWith(setter, more[i] + " with unit " + (4 << i), LENGTH, more[i].length() - 1);
        }
        // 1537 ticks can't be written.
        TuneSetter setter = Check.typedIn(12, 2, 8, "C767/24|");
        CHECK.plays(CHECK.readsWith(setter, "C767/24|", 1), "C767/24|", "0+1534:60");
        CHECK.refusesWith(Check.typedIn(12, 2, 8, "C769/24|"), "C769/24|", LENGTH, 7);
        CHECK.refuses("C999/1|", LENGTH, 6);
        wide("(3C96zz|", 1, 0);
        wide("(3C97zz|", LENGTH, 5);
        wide("(3zzC96|", 1, 0);
        wide("(3zzC97|", LENGTH, 7);
        wide("(3zzzC96|", LENGTH, 8);
    }

    private static void dividedByNothing() {
        CHECK.sentence("LENGTH: or divided by 0");
        CHECK.refuses("C/0|", LENGTH, 3);
        CHECK.refuses("C/00|", LENGTH, 4);
        CHECK.refuses("C/000|", LENGTH, 5);
        CHECK.refuses("C8/0|", LENGTH, 4);
        CHECK.refuses("C0/0|", LENGTH, 4);
        CHECK.refuses("(3C/0|", LENGTH, 5);
        CHECK.reads("C/001|", 1);
        CHECK.reads("C/|", 1);
    }

    private static void whereALengthEnds() {
        CHECK.sentence("LENGTH: an item's length ends before it");
        String[] items = {"C/7", "z/7", "[CE]/7", "C0", "^g'99", "(3z/0"};
        String[] behind = {"", "|", ":|", " ", "-", "D", "z", "(3", "[", "x", ",", "]", "^"};
        for (String item : items) {
            for (String more : behind) {
                CHECK.refuses(item + more, LENGTH, item.length());
            }
        }
        CHECK.refuses("C0/", LENGTH, 3);
        CHECK.reads("C33/33|", 1);
        CHECK.reads("C/16|", 1);
        CHECK.refuses("C0/x", LENGTH, 3);
    }

    private static void shortBarBeforeAnother() {
        CHECK.sentence("BARS: it is the first one of an item or of [1 or [2, with which a bar begins, and the bar "
            + "before it, if that is not the first one, has fewer ticks than a full bar");
        for (String beginning : BEGINNINGS) {
            CHECK.refuses("C8|C383/48|" + beginning, BARS, 10);
            CHECK.refuses("C|C8|D8|C7|" + beginning, BARS, 10);
            CHECK.refuses("|C8|C7|" + beginning, BARS, 6);
        }
        CHECK.reads("C8|C384/48|C|", 3);
        CHECK.reads("C7|C8|C|", 3);
        CHECK.reads("C8|C7|", 2);
        CHECK.reads("C8|C7|  ", 2);
        CHECK.refuses("C8|C7", SYNTAX, 5);
        CHECK.reads("[1C/48|[2C8|[1C/48|", 3);
    }

    private static void placeOfTheLineBetween() {
        CHECK.sentence("(the place told is that of the first character of the bar line between them)");
        for (String line : LINES) {
            CHECK.refuses("C8|C7" + line + "C", BARS, 5);
            CHECK.refuses("C8|C7  " + line + "  C", BARS, 7);
            CHECK.refuses("C8|C7 " + line + " [1C8|", BARS, 6);
            CHECK.refuses("C8" + line + "C7" + line + "C8|", BARS, 4 + line.length());
        }
    }

    private static void firstAndLastMayHaveFewer() {
        CHECK.sentence("(the first and the last one may have fewer, and not more)");
        CHECK.reads("C/48|C8|C/48|", 3);
        CHECK.reads("C/48|C/48|", 2);
        CHECK.reads("C/48|", 1);
        CHECK.reads("C8|C8|C8|", 3);
        CHECK.refuses("C8C/48|C8|C8|", BARS, 6);
        CHECK.refuses("C8|C8|C8C/48|", BARS, 12);
        CHECK.refuses("C8C/48|", BARS, 6);
    }

    private static void moreThanFull() {
        CHECK.sentence("BARS: or it is the first one of a bar line behind a bar that has more ticks than a full one");
        for (String line : LINES) {
            CHECK.reads("z8" + line, 0);
            CHECK.refuses("z8z/48" + line, BARS, 6);
            CHECK.refuses("z8|z8z/48 " + line + "z8|", BARS, 10);
        }
        CHECK.refuses("C9", SYNTAX, 2);
        CHECK.refuses("C9C9x", SYNTAX, 4);
        CHECK.refuses("C9:C", BARS, 2);
        CHECK.refuses("C8:C", SYNTAX, 3);
        CHECK.reads("(3z6z3z3|", 0);
        CHECK.refuses("(3z6z3z3z/48|", BARS, 12);
    }

    private static void tripletNotAtItsEnd() {
        CHECK.sentence("BARS: or in which a triplet is not at its end");
        for (String line : LINES) {
            CHECK.refuses("(3z" + line, BARS, 3);
            CHECK.refuses("(3zz" + line, BARS, 4);
            CHECK.reads("(3zzz" + line, 0);
            CHECK.refuses("(3zzz(3z " + line, BARS, 9);
            CHECK.reads("(3zzz(3zzz " + line, 0);
        }
        CHECK.refuses("(3z", SYNTAX, 3);
        CHECK.refuses("(3zzx", SYNTAX, 4);
        CHECK.refuses("z8|(3z2z2|", BARS, 9);
    }

    private static void ninthBar() {
        CHECK.sentence("MANY: with it a ninth bar begins");
        CHECK.due("bars() of eight", CHECK.reads("C8|".repeat(8), 8).bars(), 8);
        CHECK.due("bars() of eight", CHECK.reads("||" + "C8|".repeat(8) + "  ", 8).bars(), 8);
        for (String beginning : BEGINNINGS) {
            CHECK.refuses("C8|".repeat(8) + beginning, MANY, 24);
            CHECK.refuses("||" + "C8|".repeat(8) + " " + beginning, MANY, 27);
        }
        CHECK.refuses("C8|".repeat(8) + "|C", MANY, 25);
        CHECK.refuses("C8|".repeat(8) + " |C", SYNTAX, 25);
    }

    private static void item49() {
        CHECK.sentence("MANY: or the forty-ninth item of the tune");
        wide("z".repeat(47) + "|", 0, 0);
        wide("z".repeat(48) + "|", 0, 0);
        wide("z".repeat(49) + "|", MANY, 48);
        String[] beginnings = {"C", "g", "z", "^", "_", "=", "[C", "(3", "(x", "[x", "^x", "[1", "[2", "["};
        for (String beginning : beginnings) {
            wide("z".repeat(48) + beginning, MANY, 48);
            wide("z".repeat(48) + "  " + beginning, MANY, 50);
        }
        CHECK.reads("zzzzzzzz|".repeat(6), 0);
        CHECK.refuses("zzzzzzzz|".repeat(6) + "z", MANY, 54);
        wide("[CD]".repeat(16) + "z".repeat(32) + "|", 32, 0);
        wide("[CD]".repeat(16) + "z".repeat(32) + "[CD]", MANY, 96);
        wide("(3zzz".repeat(16) + "|", 0, 0);
        wide("(3zzz".repeat(16) + "z", MANY, 80);
    }

    private static void bracketAtTheBeginningOfABar() {
        CHECK.sentence("(a [ at the beginning of a bar begins an item unless 1 or 2 stands behind it)");
        String most = "zzzzzzzz|".repeat(6);
        CHECK.refuses(most + "[1", SYNTAX, 56);
        CHECK.refuses(most + "[2 ", SYNTAX, 57);
        CHECK.refuses(most + "[1z", MANY, 56);
        CHECK.refuses(most + " [2 z", MANY, 58);
        CHECK.refuses(most + "[1[C", MANY, 56);
        CHECK.refuses(most + "[1(3", MANY, 56);
        CHECK.refuses(most + "[1|", SYNTAX, 56);
        CHECK.refuses(most + "[3", MANY, 54);
        CHECK.refuses(most + "[0", MANY, 54);
        CHECK.refuses(most + "[C", MANY, 54);
        CHECK.refuses(most + "[ 1", MANY, 54);
        CHECK.refuses(most + " [", MANY, 55);
        String one = most.substring(1);
        CHECK.refuses(one + "[3", SYNTAX, 54);
        CHECK.reads(one + "[1z|", 0);
        CHECK.reads(one + "[C]|", 1);
    }

    private static void fifthNote() {
        CHECK.sentence("MANY: or the fifth note of a chord");
        CHECK.reads("[CDEF]|", 4);
        CHECK.reads("[^C__D=E,f']|", 4);
        CHECK.reads("[CDEF][CDEF]G|", 9);
        String[] beginnings = {"G", "a", "^", "_", "=", "^x"};
        for (String beginning : beginnings) {
            CHECK.refuses("[CDEF" + beginning, MANY, 5);
            CHECK.refuses("[C][^CD,E''__F" + beginning, MANY, 14);
        }
        CHECK.refuses("[CDEF|", SYNTAX, 5);
        CHECK.refuses("[CDE^x", SYNTAX, 5);
    }
}
