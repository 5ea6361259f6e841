import java.util.Arrays;

/** Tunes typed as letters: read, played, written as a file of notes, and broken into lines. */
public final class TuneSetter {
    public static final int BAD = -1;
    public static final int SYNTAX = -2, LENGTH = -3, PITCH = -4, BARS = -5, MANY = -6, LONG = -7;

    private static final int WHOLE_NOTE = 384;
    private static final int MOST_LETTERS = 120;
    private static final int MOST_BARS = 8;
    private static final int MOST_ITEMS = 48;
    private static final int MOST_IN_CHORD = 4;
    private static final int MOST_PLAYED = 64;
    private static final int WIDEST_LINE = 1000;

    private final char[] text;
    private final Reader reader;
    private final Playing playing;
    private final NoteFile file;
    private final LineBreaker breaker;
    private int textSize;
    private int fullBar;
    private int unitTicks;
    private int sharps;
    private boolean hasTune;
    private int wrongPlace;

    public TuneSetter() {
        text = new char[MOST_LETTERS];
        reader = new Reader();
        playing = new Playing();
        file = new NoteFile();
        breaker = new LineBreaker();
        fullBar = WHOLE_NOTE;
        unitTicks = WHOLE_NOTE / 8;
        wrongPlace = BAD;
    }

    public boolean metre(int n, int d) {
        if (n < 1 || n > 12 || d != 2 && d != 4 && d != 8) {
            return false;
        }
        fullBar = WHOLE_NOTE * n / d;
        return true;
    }

    public boolean unit(int u) {
        if (u != 4 && u != 8 && u != 16) {
            return false;
        }
        unitTicks = WHOLE_NOTE / u;
        return true;
    }

    public boolean key(int k) {
        if (k < -7 || k > 7) {
            return false;
        }
        sharps = k;
        return true;
    }

    public boolean type(char c) {
        if (c < 32 || c > 126 || textSize >= MOST_LETTERS) {
            return false;
        }
        text[textSize] = c;
        textSize++;
        return true;
    }

    public int clear() {
        int had = textSize;
        textSize = 0;
        return had;
    }

    public int read() {
        reader.prepare(fullBar, unitTicks, sharps);
        reader.scan(text, textSize);
        if (reader.fault != 0) {
            return refuse(reader.fault, reader.faultPlace);
        }
        playing.perform(reader.tune);
        if (playing.tooMany) {
            return refuse(LONG, textSize);
        }
        hasTune = true;
        wrongPlace = BAD;
        return playing.count;
    }

    private int refuse(int fault, int where) {
        hasTune = false;
        wrongPlace = where;
        return fault;
    }

    public int place() {
        return wrongPlace;
    }

    public int bars() {
        return hasTune ? reader.tune.barCount : 0;
    }

    public int notes() {
        return hasTune ? playing.count : 0;
    }

    public int note(int i, int what) {
        if (i < 0 || i >= notes()) {
            return BAD;
        }
        switch (what) {
            case 0:
                return playing.onset[i];
            case 1:
                return playing.duration[i];
            case 2:
                return playing.pitch[i];
            default:
                return BAD;
        }
    }

    public int width(int bar) {
        return bar < 0 || bar >= bars() ? BAD : reader.tune.barWidth[bar];
    }

    public int write() {
        if (!hasTune) {
            return BAD;
        }
        file.make(playing);
        return file.size;
    }

    public int byteAt(int i) {
        return i < 0 || i >= file.size ? BAD : file.bytes[i];
    }

    public int breaking(int l) {
        return canBreak(l) ? breaker.leastBadness[0] : BAD;
    }

    public int lines(int l) {
        return canBreak(l) ? breaker.fewestLines[0] : BAD;
    }

    private boolean canBreak(int l) {
        return hasTune && l >= 1 && l <= WIDEST_LINE && breaker.solve(reader.tune, l);
    }

    /** A tune as it is written. */
    private static final class Tune {
        // Bits, for :: both closes and opens; only a line that is PLAIN lets an ending hold on.
        static final int PLAIN = 0;
        static final int OPENS = 1;
        static final int CLOSES = 2;
        static final int DOUBLE = 4;

        /** The line at b stands before bar b. */
        final int[] line = new int[MOST_BARS + 1];
        final int[] ending = new int[MOST_BARS];
        final int[] barTicks = new int[MOST_BARS];
        final int[] barWidth = new int[MOST_BARS];
        /** A bar's items end where those of the next one begin; so do an item's notes. */
        final int[] firstItem = new int[MOST_BARS + 1];
        final int[] firstNote = new int[MOST_ITEMS + 1];
        final int[] itemTicks = new int[MOST_ITEMS];
        final boolean[] tied = new boolean[MOST_ITEMS];
        /** Each note is at least a letter of the text, so they can't be more. */
        final int[] pitch = new int[MOST_LETTERS];
        int barCount;
        int itemCount;
        int noteCount;

        void empty() {
            barCount = 0;
            itemCount = 0;
            noteCount = 0;
            line[0] = PLAIN;
            firstItem[0] = 0;
            firstNote[0] = 0;
        }

        void setLine(int kind) {
            line[barCount] = kind;
        }

        void openBar() {
            if (barCount >= MOST_BARS) {
                return;
            }
            boolean endingHolds = barCount > 0 && line[barCount] == PLAIN;
            ending[barCount] = endingHolds ? ending[barCount - 1] : 0;
            barTicks[barCount] = 0;
            barWidth[barCount] = 2;
            barCount++;
            firstItem[barCount] = itemCount;
        }

        void setEnding(int which) {
            if (barCount > 0) {
                ending[barCount - 1] = which;
            }
        }

        void openItem() {
            if (itemCount >= MOST_ITEMS) {
                return;
            }
            tied[itemCount] = false;
            itemCount++;
            firstNote[itemCount] = noteCount;
            firstItem[barCount] = itemCount;
            widen(3);
        }

        void addNote(int itsPitch) {
            if (noteCount >= pitch.length) {
                return;
            }
            pitch[noteCount] = itsPitch;
            noteCount++;
            firstNote[itemCount] = noteCount;
        }

        void setTicks(int ticks) {
            if (itemCount == 0 || barCount == 0) {
                return;
            }
            itemTicks[itemCount - 1] = ticks;
            barTicks[barCount - 1] += ticks;
            for (int halved = ticks / 48; halved > 0; halved /= 2) {
                widen(1);
            }
        }

        void setTie() {
            if (itemCount > 0) {
                tied[itemCount - 1] = true;
            }
        }

        void widen(int more) {
            if (barCount > 0) {
                barWidth[barCount - 1] += more;
            }
        }

        boolean isRest() {
            return itemCount == 0 || firstNote[itemCount - 1] == noteCount;
        }

        int latestBarTicks() {
            return barCount == 0 ? 0 : barTicks[barCount - 1];
        }
    }

    /** The length of an item, as its characters come in. */
    private static final class ItemLength {
        static final int MOST_DIGITS = 3;
        static final int LONGEST = 1536;

        private int top = 1;
        private int bottom = 1;
        private int digits;

        void restart() {
            top = 1;
            bottom = 1;
            digits = 0;
        }

        boolean takesDigit() {
            return digits < MOST_DIGITS;
        }

        void addTopDigit(int digit) {
            top = digits == 0 ? digit : 10 * top + digit;
            digits++;
        }

        void addSlash() {
            bottom = 2;
            digits = 0;
        }

        void addBottomDigit(int digit) {
            bottom = digits == 0 ? digit : 10 * bottom + digit;
            digits++;
        }

        /** The ticks, or 0 (which no item may have) for every length that is wrong. */
        int inTicks(int unitTicks, boolean inTriplet) {
            int above = top * unitTicks * (inTriplet ? 2 : 1);
            int below = bottom * (inTriplet ? 3 : 1);
            if (below == 0 || above % below != 0 || above / below > LONGEST) {
                return 0;
            }
            return above / below;
        }
    }

    /** The pitch of a note, as its characters come in, and the accidentals that hold in its bar. */
    private static final class PitchFinder {
        static final int NO_SIGN = 99;
        /** A double accidental can bring a note in from two beyond 0 .. 127. */
        static final int LOWEST_NATURAL = -2;
        static final int NATURALS = 132;
        /** By letter, A first. */
        private static final int[] NATURAL = {69, 71, 60, 62, 64, 65, 67};
        private static final int[] PLACE_AMONG_SHARPS = {4, 6, 1, 3, 5, 0, 2};

        private final int[] heldSign = new int[NATURALS];
        private int sharps;
        private int sign = NO_SIGN;
        private int letter;
        private int natural;

        void startTune(int sharpsOfKey) {
            sharps = sharpsOfKey;
            sign = NO_SIGN;
        }

        void startBar() {
            Arrays.fill(heldSign, NO_SIGN);
        }

        void setSign(int c) {
            sign = c == '^' ? 1 : c == '_' ? -1 : 0;
        }

        void doubleSign() {
            sign = 2 * sign;
        }

        void setLetter(int c) {
            boolean small = c >= 'a';
            letter = small ? c - 'a' : c - 'A';
            natural = letter >= 0 && letter < NATURAL.length ? NATURAL[letter] : 0;
            if (small) {
                natural += 12;
            }
        }

        void shift(int halfTones) {
            natural += halfTones;
        }

        /** The pitch of the note that ends here; its accidental, if it has one, holds from now on. */
        int endPitch() {
            int slot = natural - LOWEST_NATURAL;
            boolean hasSlot = slot >= 0 && slot < NATURALS;
            if (sign != NO_SIGN && hasSlot) {
                heldSign[slot] = sign;
            }
            if (sign == NO_SIGN && hasSlot) {
                sign = heldSign[slot];
            }
            int pitch = natural + (sign == NO_SIGN ? keySign() : sign);
            sign = NO_SIGN;
            return pitch;
        }

        private int keySign() {
            if (letter < 0 || letter >= PLACE_AMONG_SHARPS.length) {
                return 0;
            }
            int rank = PLACE_AMONG_SHARPS[letter];
            // The flats come in the sharps' order backwards.
            return rank < sharps ? 1 : 6 - rank < -sharps ? -1 : 0;
        }
    }

    /** Reads character by character; its state says what was read last. */
    private static final class Reader {
        /** No character that can be typed. */
        private static final int END = 0;

        private static final int NOWHERE = -1;
        private static final int START = 0;
        private static final int LINE_BAR = 1;
        private static final int LINE_COLON = 2;
        private static final int LINE_DONE = 3;
        private static final int MARK = 4;
        private static final int ENDING = 5;
        private static final int PAREN = 6;
        private static final int TRIPLET = 7;
        private static final int CHORD = 8;
        private static final int SIGN = 9;
        private static final int SIGN_DONE = 10;
        private static final int LETTER = 11;
        private static final int UP = 12;
        private static final int DOWN = 13;
        private static final int BODY = 14;
        private static final int NUMBER = 15;
        private static final int SLASH = 16;
        private static final int DIVISOR = 17;
        private static final int TIE = 18;
        private static final int GAP = 19;
        private static final int FINISHED = 20;

        private static final int MAY_SPACE = 1;
        private static final int MAY_LINE = 2;
        private static final int MAY_GROW = 4;
        private static final int MAY_MARK = 8;
        private static final int MAY_TRIPLET = 16;
        private static final int MAY_BODY = 32;
        private static final int MAY_NOTE = 64;
        private static final int MAY_DOUBLE = 128;
        private static final int MAY_LETTER = 256;
        private static final int MAY_UP = 512;
        private static final int MAY_DOWN = 1024;
        private static final int MAY_CLOSE = 2048;
        private static final int MAY_DIGIT = 4096;
        private static final int MAY_SLASH = 8192;
        private static final int MAY_TIE = 16384;
        private static final int MAY_END = 32768;
        private static final int MAY_ITEM = MAY_TRIPLET | MAY_BODY | MAY_NOTE;
        private static final int BEHIND_ITEM = MAY_SPACE | MAY_LINE | MAY_ITEM;
        private static final int BEHIND_BODY = MAY_DIGIT | MAY_SLASH | MAY_TIE | BEHIND_ITEM;
        private static final int BEHIND_CHORD_NOTE = MAY_NOTE | MAY_CLOSE;

        /** By state: what may come next, but for what may come behind a note. */
        private static final int[] MAY = {
            MAY_SPACE | MAY_LINE | MAY_MARK | MAY_ITEM,
            MAY_SPACE | MAY_GROW | MAY_MARK | MAY_ITEM | MAY_END,
            MAY_GROW,
            MAY_SPACE | MAY_MARK | MAY_ITEM | MAY_END,
            MAY_DIGIT,
            MAY_SPACE | MAY_ITEM,
            MAY_DIGIT,
            MAY_BODY | MAY_NOTE,
            MAY_NOTE,
            MAY_DOUBLE | MAY_LETTER,
            MAY_LETTER,
            MAY_UP | MAY_DOWN,
            MAY_UP,
            MAY_DOWN,
            BEHIND_BODY,
            BEHIND_BODY,
            MAY_DIGIT | MAY_TIE | BEHIND_ITEM,
            MAY_DIGIT | MAY_TIE | BEHIND_ITEM,
            BEHIND_ITEM,
            BEHIND_ITEM,
            0,
        };

        final Tune tune = new Tune();
        int fault;
        int faultPlace;
        private final PitchFinder pitches = new PitchFinder();
        private final ItemLength itemLength = new ItemLength();
        private int fullBar;
        private int unitTicks;
        private int state;
        private int spot;
        private int linePlace;
        private int tripletLeft;
        private int chordNotes;
        private int latestSign;
        private boolean inBar;
        private boolean inItem;
        private boolean inChord;

        void prepare(int barTicks, int ticksOfUnit, int sharps) {
            fullBar = barTicks;
            unitTicks = ticksOfUnit;
            pitches.startTune(sharps);
            itemLength.restart();
            tune.empty();
            fault = 0;
            faultPlace = 0;
            state = START;
            linePlace = 0;
            tripletLeft = 0;
            chordNotes = 0;
            latestSign = END;
            inBar = false;
            inItem = false;
            inChord = false;
        }

        void scan(char[] text, int size) {
            for (int i = 0; i <= size && fault == 0; i++) {
                spot = i;
                step(letterAt(text, size, i), letterAt(text, size, i + 1));
            }
        }

        private static int letterAt(char[] text, int size, int i) {
            return i >= 0 && i < size && i < text.length ? text[i] : END;
        }

        private void step(int c, int following) {
            if (lengthEnds(c)) {
                endItem();
            }
            if (fault == 0 && octavesEnd(c)) {
                endNote();
            }
            if (fault != 0) {
                return;
            }
            int next = follow(c, following);
            if (next == NOWHERE) {
                fail(SYNTAX, spot);
            }
            if (fault == 0) {
                checkBars(next);
            }
            if (fault == 0) {
                checkMany(next);
            }
            if (fault == 0) {
                open(next);
                take(c, next);
                state = next;
            }
        }

        private void fail(int code, int where) {
            fault = code;
            faultPlace = where;
        }

        private boolean octavesEnd(int c) {
            switch (state) {
                case LETTER:
                    return c != '\'' && c != ',';
                case UP:
                    return c != '\'';
                case DOWN:
                    return c != ',';
                default:
                    return false;
            }
        }

        /** A fourth digit does not end the length: it is SYNTAX before the length is looked at. */
        private boolean lengthEnds(int c) {
            if (state == SLASH || state == DIVISOR) {
                return !isDigit(c);
            }
            boolean bodyStands = state == BODY || state == NUMBER || octavesEnd(c) && !inChord;
            return bodyStands && !isDigit(c) && c != '/';
        }

        private void endItem() {
            int ticks = itemLength.inTicks(unitTicks, tripletLeft > 0);
            if (ticks == 0) {
                fail(LENGTH, spot);
                return;
            }
            tune.setTicks(ticks);
            inItem = false;
            if (tripletLeft > 0) {
                tripletLeft--;
            }
        }

        private void endNote() {
            int pitch = pitches.endPitch();
            if (pitch < 0 || pitch > 127) {
                fail(PITCH, spot);
                return;
            }
            tune.addNote(pitch);
        }

        /** The state behind c, or NOWHERE when no tune goes on with it. */
        private int follow(int c, int following) {
            switch (c) {
                case END:
                    return may(MAY_END) && tune.barCount > 0 ? FINISHED : NOWHERE;
                case ' ':
                    return may(MAY_SPACE) ? behindSpace() : NOWHERE;
                case '|':
                    return may(MAY_GROW) ? LINE_DONE : may(MAY_LINE) ? LINE_BAR : NOWHERE;
                case ':':
                    return may(MAY_GROW) ? LINE_DONE : may(MAY_LINE) ? LINE_COLON : NOWHERE;
                case '[':
                    // Whether it begins an item must be known here, for MANY is told at this place.
                    if (may(MAY_MARK) && (following == '1' || following == '2')) {
                        return MARK;
                    }
                    return may(MAY_BODY) ? CHORD : NOWHERE;
                case '(':
                    return may(MAY_TRIPLET) && tripletLeft == 0 ? PAREN : NOWHERE;
                case ']':
                    return may(MAY_CLOSE) ? BODY : NOWHERE;
                case 'z':
                    return may(MAY_BODY) ? BODY : NOWHERE;
                case '^':
                case '_':
                    if (may(MAY_DOUBLE) && c == latestSign) {
                        return SIGN_DONE;
                    }
                    return may(MAY_NOTE) ? SIGN : NOWHERE;
                case '=':
                    return may(MAY_NOTE) ? SIGN_DONE : NOWHERE;
                case '\'':
                    return may(MAY_UP) ? UP : NOWHERE;
                case ',':
                    return may(MAY_DOWN) ? DOWN : NOWHERE;
                case '/':
                    return may(MAY_SLASH) ? SLASH : NOWHERE;
                case '-':
                    return may(MAY_TIE) && !tune.isRest() ? TIE : NOWHERE;
                default:
                    return followOther(c);
            }
        }

        private int followOther(int c) {
            if (isDigit(c) && may(MAY_DIGIT)) {
                return followDigit(c);
            }
            return isNoteLetter(c) && may(MAY_NOTE | MAY_LETTER) ? LETTER : NOWHERE;
        }

        private int followDigit(int c) {
            if (state == MARK) {
                return c == '1' || c == '2' ? ENDING : NOWHERE;
            }
            if (state == PAREN) {
                return c == '3' ? TRIPLET : NOWHERE;
            }
            if (!itemLength.takesDigit()) {
                return NOWHERE;
            }
            return state == SLASH || state == DIVISOR ? DIVISOR : NUMBER;
        }

        private boolean may(int what) {
            int allowed = state >= 0 && state < MAY.length ? MAY[state] : 0;
            if (state == LETTER || state == UP || state == DOWN) {
                allowed |= inChord ? BEHIND_CHORD_NOTE : BEHIND_BODY;
            }
            return (allowed & what) != 0;
        }

        private int behindSpace() {
            if (state == START || state == ENDING) {
                return state;
            }
            return inBar ? GAP : LINE_DONE;
        }

        private static boolean isDigit(int c) {
            return c >= '0' && c <= '9';
        }

        private static boolean isNoteLetter(int c) {
            return c >= 'A' && c <= 'G' || c >= 'a' && c <= 'g';
        }

        private static boolean isNoteState(int next) {
            return next == SIGN || next == SIGN_DONE || next == LETTER;
        }

        private boolean opensItem(int next) {
            return !inItem && (next == PAREN || next == CHORD || next == BODY || isNoteState(next));
        }

        private boolean opensBar(int next) {
            return !inBar && (next == MARK || opensItem(next));
        }

        private boolean opensChordNote(int next) {
            return inChord && isNoteState(next) && state != SIGN && state != SIGN_DONE;
        }

        private static boolean opensLine(int next) {
            return next == LINE_BAR || next == LINE_COLON;
        }

        private void checkBars(int next) {
            // The first bar may be short, so only a bar behind the second one has one to look back at.
            if (opensBar(next) && tune.barCount >= 2 && tune.latestBarTicks() < fullBar) {
                fail(BARS, linePlace);
            }
            if (opensLine(next) && (tune.latestBarTicks() > fullBar || tripletLeft > 0)) {
                fail(BARS, spot);
            }
        }

        private void checkMany(int next) {
            if (opensBar(next) && tune.barCount == MOST_BARS
                    || opensItem(next) && tune.itemCount == MOST_ITEMS
                    || opensChordNote(next) && chordNotes == MOST_IN_CHORD) {
                fail(MANY, spot);
            }
        }

        private void open(int next) {
            if (opensLine(next)) {
                linePlace = spot;
                inBar = false;
            }
            if (opensBar(next)) {
                tune.openBar();
                pitches.startBar();
                inBar = true;
            }
            if (opensItem(next)) {
                tune.openItem();
                itemLength.restart();
                inItem = true;
            }
            if (opensChordNote(next)) {
                chordNotes++;
            }
        }

        private void take(int c, int next) {
            switch (next) {
                case LINE_BAR:
                    tune.setLine(Tune.PLAIN);
                    break;
                case LINE_DONE:
                    growLine(c);
                    break;
                case ENDING:
                    if (c != ' ') {
                        tune.setEnding(c - '0');
                    }
                    break;
                case TRIPLET:
                    tripletLeft = 3;
                    break;
                case CHORD:
                    inChord = true;
                    chordNotes = 0;
                    break;
                case BODY:
                    inChord = false;
                    break;
                case TIE:
                    tune.setTie();
                    break;
                default:
                    takeInside(c, next);
                    break;
            }
        }

        private void growLine(int c) {
            if (c == ' ') {
                return;
            }
            if (state == LINE_COLON) {
                tune.setLine(c == ':' ? Tune.CLOSES | Tune.OPENS : Tune.CLOSES);
            } else {
                tune.setLine(c == ':' ? Tune.OPENS : Tune.DOUBLE);
            }
        }

        /** What stands inside a note or a length. */
        private void takeInside(int c, int next) {
            switch (next) {
                case SIGN:
                    takeSign(c);
                    break;
                case SIGN_DONE:
                    if (state == SIGN) {
                        pitches.doubleSign();
                    } else {
                        takeSign(c);
                    }
                    break;
                case LETTER:
                    pitches.setLetter(c);
                    break;
                case UP:
                    pitches.shift(12);
                    break;
                case DOWN:
                    pitches.shift(-12);
                    break;
                case NUMBER:
                    itemLength.addTopDigit(c - '0');
                    break;
                case SLASH:
                    itemLength.addSlash();
                    break;
                case DIVISOR:
                    itemLength.addBottomDigit(c - '0');
                    break;
                default:
                    break;
            }
        }

        private void takeSign(int c) {
            latestSign = c;
            pitches.setSign(c);
            tune.widen(1);
        }
    }

    /** The notes that are played. */
    private static final class Playing {
        private static final int NO_SOUND = -1;
        /** Each bar is come to at most twice; this is well above it. */
        private static final int MOST_STEPS = 64;

        final int[] onset = new int[MOST_PLAYED];
        final int[] duration = new int[MOST_PLAYED];
        final int[] pitch = new int[MOST_PLAYED];
        int count;
        boolean tooMany;
        private int now;
        /** The notes of the latest item that wait for one to be tied to. */
        private final int[] waiting = new int[MOST_IN_CHORD];
        private int waitingCount;
        private final int[] sounding = new int[MOST_IN_CHORD];
        private int soundingCount;

        void perform(Tune tune) {
            count = 0;
            tooMany = false;
            now = 0;
            waitingCount = 0;
            int bar = 0;
            int start = 0;
            int pass = 1;
            for (int step = 0; step < MOST_STEPS && bar < tune.barCount; step++) {
                if ((tune.line[bar] & Tune.OPENS) != 0 && bar != start) {
                    start = bar;
                    pass = 1;
                }
                if (tune.ending[bar] == 1 && pass == 2) {
                    bar++;
                    continue;
                }
                playBar(tune, bar);
                boolean closes = (tune.line[bar + 1] & Tune.CLOSES) != 0;
                if (closes && pass == 1) {
                    pass = 2;
                    bar = start;
                } else {
                    bar++;
                    if (closes) {
                        start = bar;
                        pass = 1;
                    }
                }
            }
        }

        private void playBar(Tune tune, int bar) {
            for (int item = tune.firstItem[bar]; item < tune.firstItem[bar + 1]; item++) {
                playItem(tune, item);
            }
        }

        private void playItem(Tune tune, int item) {
            soundingCount = 0;
            for (int n = tune.firstNote[item]; n < tune.firstNote[item + 1]; n++) {
                sound(tune.pitch[n], tune.itemTicks[item]);
            }
            now += tune.itemTicks[item];
            waitingCount = tune.tied[item] ? soundingCount : 0;
            for (int i = 0; i < waitingCount; i++) {
                waiting[i] = sounding[i];
            }
        }

        private void sound(int itsPitch, int ticks) {
            int which = takeWaiting(itsPitch);
            if (which == NO_SOUND) {
                which = begin(itsPitch);
            }
            if (which == NO_SOUND || soundingCount >= MOST_IN_CHORD) {
                return;
            }
            duration[which] += ticks;
            sounding[soundingCount] = which;
            soundingCount++;
        }

        private int takeWaiting(int itsPitch) {
            for (int i = 0; i < waitingCount; i++) {
                int which = waiting[i];
                if (which != NO_SOUND && pitch[which] == itsPitch) {
                    waiting[i] = NO_SOUND;
                    return which;
                }
            }
            return NO_SOUND;
        }

        private int begin(int itsPitch) {
            if (count >= MOST_PLAYED) {
                tooMany = true;
                return NO_SOUND;
            }
            onset[count] = now;
            duration[count] = 0;
            pitch[count] = itsPitch;
            count++;
            return count - 1;
        }
    }

    /** The bytes of the file that was made last. */
    private static final class NoteFile {
        private static final int[] HEAD = {
            77, 84, 104, 100, 0, 0, 0, 6, 0, 0, 0, 1, 0, 96, 77, 84, 114, 107,
        };
        private static final int[] TAIL = {0, 255, 47, 0};
        private static final int COUNT_BYTES = 4;
        private static final int MOST_EVENTS = 2 * MOST_PLAYED;
        /** No tune takes 2097152 ticks, so three bytes say every time. */
        private static final int MOST_EVENT_BYTES = 6;
        private static final int MOST_BYTES = 18 + COUNT_BYTES + MOST_EVENTS * MOST_EVENT_BYTES + 4;
        /** An event is its time, then this bit if a note begins, then the pitch: so they sort as numbers. */
        private static final int BEGINS = 128;
        private static final int EVENTS_A_TICK = 256;

        final int[] bytes = new int[MOST_BYTES];
        int size;
        private final int[] events = new int[MOST_EVENTS];
        private int eventCount;

        void make(Playing playing) {
            size = 0;
            putAll(HEAD);
            size += COUNT_BYTES;
            gatherEvents(playing);
            putEvents();
            putAll(TAIL);
            putCount(size - HEAD.length - COUNT_BYTES);
        }

        private void gatherEvents(Playing playing) {
            eventCount = 0;
            for (int i = 0; i < playing.count; i++) {
                int begin = playing.onset[i];
                int end = begin + playing.duration[i];
                sortIn(begin * EVENTS_A_TICK + BEGINS + playing.pitch[i]);
                sortIn(end * EVENTS_A_TICK + playing.pitch[i]);
            }
        }

        private void sortIn(int event) {
            if (eventCount >= MOST_EVENTS) {
                return;
            }
            int slot = eventCount;
            for (; slot > 0 && events[slot - 1] > event; slot--) {
                events[slot] = events[slot - 1];
            }
            events[slot] = event;
            eventCount++;
        }

        private void putEvents() {
            int before = 0;
            for (int i = 0; i < eventCount; i++) {
                int time = events[i] / EVENTS_A_TICK;
                int kindAndPitch = events[i] % EVENTS_A_TICK;
                putTicks(time - before);
                put(kindAndPitch >= BEGINS ? 144 : 128);
                put(kindAndPitch % BEGINS);
                put(64);
                before = time;
            }
        }

        private void putTicks(int ticks) {
            if (ticks >= 128 * 128) {
                put(128 + ticks / (128 * 128) % 128);
            }
            if (ticks >= 128) {
                put(128 + ticks / 128 % 128);
            }
            put(ticks % 128);
        }

        private void putCount(int number) {
            for (int i = 0; i < COUNT_BYTES; i++) {
                bytes[HEAD.length + i] = number >> (24 - 8 * i) & 255;
            }
        }

        private void putAll(int[] some) {
            for (int b : some) {
                put(b);
            }
        }

        private void put(int b) {
            if (size < MOST_BYTES) {
                bytes[size] = b;
                size++;
            }
        }
    }

    /** Breaks bars into lines; what stands at bar b is for the bars from b on. */
    private static final class LineBreaker {
        final int[] leastBadness = new int[MOST_BARS + 1];
        final int[] fewestLines = new int[MOST_BARS + 1];

        /** False when a bar is wider than a line. */
        boolean solve(Tune tune, int lineWidth) {
            leastBadness[tune.barCount] = 0;
            fewestLines[tune.barCount] = 0;
            for (int bar = tune.barCount - 1; bar >= 0; bar--) {
                if (tune.barWidth[bar] > lineWidth) {
                    return false;
                }
                solveFrom(tune, bar, lineWidth);
            }
            return true;
        }

        private void solveFrom(Tune tune, int bar, int lineWidth) {
            int left = lineWidth;
            for (int next = bar + 1; next <= tune.barCount; next++) {
                left -= tune.barWidth[next - 1];
                if (left < 0) {
                    return;
                }
                int badness = leastBadness[next] + (next == tune.barCount ? 0 : left * left);
                int lineCount = 1 + fewestLines[next];
                boolean first = next == bar + 1;
                if (first || badness < leastBadness[bar]
                        || badness == leastBadness[bar] && lineCount < fewestLines[bar]) {
                    leastBadness[bar] = badness;
                    fewestLines[bar] = lineCount;
                }
            }
        }
    }
}
