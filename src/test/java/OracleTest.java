import java.util.Arrays;
import java.util.List;
import java.util.Random;

/** Many tunes, well typed and not, read by the class and by the oracle: all answers must agree. */
public final class OracleTest {
    private static final Check CHECK = new Check("OracleTest");
    private static final int TUNES = Integer.getInteger("tunes", 60000);
    private static final String ALPHABET = "ABCDEFGabcdefgz^_=',[]()3-/0123456789|: ||CCzz[1[2x";
    private static final String[] LINES = {"|", "|", "|", "|", "||", "|:", ":|", ":|", "::"};
    private static final String[] SIGNS = {"", "", "", "", "", "^", "^^", "_", "__", "="};

    private final Random random;
    private int unit;
    private int n;
    private int d;
    private int key;

    private OracleTest(long seed) {
        random = new Random(seed);
    }

    public static void main(String[] args) {
        int[] seen = new int[8];
        OracleTest test = new OracleTest(Long.getLong("seed", 20261115L));
        for (int i = 0; i < TUNES; i++) {
            int answer = test.once(i % 3 != 0);
            seen[answer < 0 ? -answer : 0]++;
        }
        System.out.println("OracleTest: read, and by what was wrong: " + Arrays.toString(seen));
        for (int code = 0; code < seen.length; code++) {
            CHECK.due("tunes seen with the answer -" + code, code == 1 || seen[code] > 0, true);
        }
        CHECK.end();
    }

    /** One object, which reads two or three texts. */
    private int once(boolean spoil) {
        TuneSetter setter = new TuneSetter();
        int answer = 0;
        int texts = 1 + random.nextInt(3);
        for (int i = 0; i < texts; i++) {
            settings(setter);
            String text = random.nextInt(20) == 0 ? crowd() : tune();
            if (spoil) {
                text = spoilt(text);
            }
            text = text.substring(0, Math.min(120, text.length()));
            setter.clear();
            Check.typeInto(setter, text);
            answer = compare(setter, text);
        }
        return answer;
    }

    private void settings(TuneSetter setter) {
        unit = 4 << random.nextInt(3);
        n = 1 + random.nextInt(12);
        d = 2 << random.nextInt(3);
        key = random.nextInt(3) == 0 ? 0 : random.nextInt(15) - 7;
        setter.unit(unit);
        setter.metre(n, d);
        setter.key(key);
    }

    private int compare(TuneSetter setter, String text) {
        Oracle oracle = new Oracle(text, n, d, unit, key);
        String what = "\"" + text + "\" in " + n + "/" + d + ", unit " + unit + ", key " + key + ": ";
        CHECK.due(what + "read()", setter.read(), oracle.answer);
        CHECK.due(what + "place()", setter.place(), oracle.place);
        CHECK.due(what + "bars()", setter.bars(), oracle.bars.size());
        CHECK.due(what + "notes()", setter.notes(), oracle.played.size());
        for (int i = 0; i < oracle.played.size(); i++) {
            Oracle.Part part = oracle.played.get(i);
            CHECK.due(what + "onset of " + i, setter.note(i, 0), part.onset);
            CHECK.due(what + "duration of " + i, setter.note(i, 1), part.duration());
            CHECK.due(what + "pitch of " + i, setter.note(i, 2), part.pitch);
        }
        CHECK.due(what + "one note more", setter.note(oracle.played.size(), 0), TuneSetter.BAD);
        compareFile(setter, oracle, what);
        compareLines(setter, oracle, what);
        return oracle.answer;
    }

    private void compareFile(TuneSetter setter, Oracle oracle, String what) {
        if (oracle.answer < 0) {
            CHECK.due(what + "write()", setter.write(), TuneSetter.BAD);
            return;
        }
        List<Integer> bytes = oracle.file();
        CHECK.due(what + "write()", setter.write(), bytes.size());
        for (int i = 0; i < bytes.size(); i++) {
            CHECK.due(what + "byte " + i, setter.byteAt(i), bytes.get(i));
        }
        CHECK.due(what + "one byte more", setter.byteAt(bytes.size()), TuneSetter.BAD);
    }

    private void compareLines(TuneSetter setter, Oracle oracle, String what) {
        int widest = 0;
        int all = 0;
        for (int bar = 0; bar < oracle.bars.size(); bar++) {
            int width = oracle.width(bar);
            CHECK.due(what + "width of " + bar, setter.width(bar), width);
            widest = Math.max(widest, width);
            all += width;
        }
        CHECK.due(what + "one width more", setter.width(oracle.bars.size()), TuneSetter.BAD);
        int[] some = {widest - 1, widest, widest + random.nextInt(all + 5), widest + random.nextInt(30), all};
        for (int l : some) {
            if (l >= 1) {
                int[] best = oracle.breaking(l);
                CHECK.due(what + "breaking(" + l + ")", setter.breaking(l), best[0]);
                CHECK.due(what + "lines(" + l + ")", setter.lines(l), best[1]);
            }
        }
    }

    /** Chords in few bars, played twice: some 64 notes. */
    private String crowd() {
        StringBuilder text = new StringBuilder();
        for (int chords = 6 + random.nextInt(6); chords > 0; chords--) {
            text.append('[');
            for (int i = random.nextInt(6) == 0 ? 3 : 4; i > 0; i--) {
                text.append((char) ('C' + random.nextInt(5)));
            }
            text.append(random.nextInt(10) == 0 ? "]-" : "]");
            text.append(random.nextInt(6) == 0 ? "|" : "");
        }
        return text.append(":|").toString().replace("|:|", ":|");
    }

    private String tune() {
        StringBuilder text = new StringBuilder();
        space(text);
        if (random.nextInt(3) == 0) {
            text.append(oneOf(LINES));
        }
        int bars = 1 + random.nextInt(random.nextInt(12) == 0 ? 10 : 7);
        int density = 1 + random.nextInt(5);
        for (int bar = 0; bar < bars; bar++) {
            space(text);
            if (random.nextInt(5) == 0) {
                text.append(random.nextInt(3) == 0 ? "[2" : "[1");
            }
            boolean whole = bar > 0 && bar < bars - 1 || random.nextInt(3) == 0;
            bar(text, whole, density);
            space(text);
            text.append(oneOf(LINES));
        }
        space(text);
        return text.toString();
    }

    /** Items of some lengths, and one that fills the bar up. */
    private void bar(StringBuilder text, boolean whole, int density) {
        int left = 384 * n / d;
        int unitTicks = 384 / unit;
        for (int i = random.nextInt(density); i > 0; i--) {
            boolean triplet = random.nextInt(6) == 0;
            int ticks = unitTicks * (1 + random.nextInt(3)) / (1 + random.nextInt(2));
            int takes = triplet ? 2 * ticks : ticks;
            if (takes >= left) {
                break;
            }
            left -= takes;
            space(text);
            if (triplet) {
                text.append("(3");
                item(text, ticks);
                space(text);
                item(text, ticks);
            }
            item(text, ticks);
        }
        for (int i = 0; i < 2 && left > 1536; i++) {
            item(text, 768);
            left -= 768;
        }
        space(text);
        item(text, whole ? left : Math.max(1, left - random.nextInt(3) * unitTicks));
    }

    private void item(StringBuilder text, int ticks) {
        int kind = random.nextInt(8);
        if (kind == 0) {
            text.append('z');
        } else if (kind == 1) {
            text.append('[');
            for (int i = random.nextInt(4); i >= 0; i--) {
                note(text);
            }
            text.append(']');
        } else {
            note(text);
        }
        length(text, ticks);
        if (kind != 0 && random.nextInt(3) == 0) {
            text.append('-');
        }
    }

    private void note(StringBuilder text) {
        text.append(oneOf(SIGNS));
        char letter = random.nextBoolean() ? 'C' : (char) ('A' + random.nextInt(7));
        text.append(random.nextInt(4) == 0 ? Character.toLowerCase(letter) : letter);
        int octaves = random.nextInt(40) == 0 ? random.nextInt(8) : random.nextInt(8) == 0 ? 1 : 0;
        text.append((random.nextBoolean() ? "'" : ",").repeat(octaves));
    }

    private void length(StringBuilder text, int ticks) {
        int unitTicks = 384 / unit;
        if (ticks % unitTicks == 0) {
            text.append(ticks == unitTicks && random.nextBoolean() ? "" : "" + ticks / unitTicks);
        } else if (ticks * 2 % unitTicks == 0) {
            text.append(ticks * 2 / unitTicks).append(random.nextBoolean() ? "/" : "/2");
        } else {
            text.append(ticks).append('/').append(unitTicks);
        }
    }

    private void space(StringBuilder text) {
        if (random.nextInt(12) == 0) {
            text.append(" ".repeat(1 + random.nextInt(2)));
        }
    }

    private String oneOf(String[] some) {
        return some[random.nextInt(some.length)];
    }

    private String spoilt(String text) {
        StringBuilder other = new StringBuilder(text);
        for (int i = 1 + random.nextInt(3); i > 0; i--) {
            int where = random.nextInt(other.length() + 1);
            char c = ALPHABET.charAt(random.nextInt(ALPHABET.length()));
            int how = random.nextInt(5);
            if (how == 0 || where == other.length()) {
                other.insert(where, c);
            } else if (how == 1) {
                other.setCharAt(where, c);
            } else if (how == 2) {
                other.deleteCharAt(where);
            } else if (how == 3) {
                other.insert(where, other.charAt(where));
            } else {
                int from = random.nextInt(other.length());
                int to = Math.min(other.length(), from + random.nextInt(8));
                other.insert(where, other.substring(from, to));
            }
        }
        return other.toString();
    }
}
