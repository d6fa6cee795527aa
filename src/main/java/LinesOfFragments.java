import java.util.Arrays;

/** Lines of a paragraph, broken with the least demerits; ../shared/DOC.md says what each call answers. */
public final class LinesOfFragments {
    private static final int NOBODY = -1;
    private static final int OTHER = -2;
    private static final int STATE = -3;
    private static final int BELOW = -4;
    private static final int ROOM = -6;
    private static final int NONE = -9;
    private static final int ALL_RIGHT = 0;
    private static final long REFUSED_LONG = 4000000000000000000L;

    private static final int MOST_TEXT = 96;
    private static final int MOST_LETTERS = 12;
    private static final int MOST_WORDS = 16;
    private static final int MOST_PATTERNS = 8;
    private static final int MOST_PATTERN_LETTERS = 3;
    private static final int MOST_FRAGMENTS = 192;
    private static final int MOST_LINES = 20;
    private static final int MOST_ROW = 16;
    private static final int MOST_BACK = 8;
    private static final int CHANCY_WORDS = 6;
    private static final int MANNERS = 3;
    private static final int KINDS = 6;
    private static final int FIGURES = 10;
    private static final int LEAST_LINE = 10;
    private static final int GREATEST_LINE = 60;
    private static final int[] FIRST_WIDTHS = {3, 4, 3, 4, 3, 2, 4, 4};

    private static final int RAGGED = 1;
    private static final int TIGHT = 2;
    private static final int POEM = 3;
    private static final int NOTE = 4;
    private static final int LOOSE = 5;

    /* In this order: behind an END from FORCED_END on a part of the paragraph is over. */
    private static final int GLUE_END = 0;
    private static final int HYPHEN_END = 1;
    private static final int FORCED_END = 2;
    private static final int LAST_END = 3;

    private final Paragraph now;
    private final Paragraph trial;
    private final Paragraph kept;
    private final History history;
    private final Sheet text;
    private final Typesetter setter;
    private final int[] told;
    private final int[] refusals;
    private int toldCount;
    private boolean isKept;
    private int seed;

    public LinesOfFragments() {
        now = new Paragraph();
        trial = new Paragraph();
        kept = new Paragraph();
        history = new History();
        text = new Sheet();
        setter = new Typesetter();
        told = new int[MOST_ROW];
        refusals = new int[7];
    }

    public int letter(int c) {
        if (c < 0) {
            return refuse(BELOW);
        }
        if (c > 255 || text.isFull()) {
            return refuse(ROOM);
        }
        return text.take(c);
    }

    public int sheet() {
        int place = text.misspelt();
        int kindOfFault = -1000;
        if (place < 0) {
            trial.become(now);
            place = text.tellTo(trial);
            kindOfFault = -2000;
        }
        text.forget();
        if (place >= 0) {
            return kindOfFault - place;
        }
        now.become(trial);
        history.forget();
        return text.statements;
    }

    public int widens(int a, int v) {
        if (!isLetter(a)) {
            return refuse(NOBODY);
        }
        int fault = outside(v, 2, 9);
        if (fault != ALL_RIGHT) {
            return refuse(fault);
        }
        history.remember(now);
        int old = at(now.widths, a);
        put(now.widths, a, v);
        return old;
    }

    public int adds(int a, int b, int c) {
        if (!isLetter(a) || !isLetterOrNone(b) || !isLetterOrNone(c) || b < 0 && c >= 0) {
            return refuse(NOBODY);
        }
        if (now.words.isFull()) {
            return refuse(ROOM);
        }
        history.remember(now);
        int length = c >= 0 ? 3 : b >= 0 ? 2 : 1;
        return now.words.add(spellingOf(a, b, c), length);
    }

    public int forces(int word) {
        if (!now.words.has(word)) {
            return refuse(NOBODY);
        }
        history.remember(now);
        return now.words.turnForced(word);
    }

    public int drops(int word) {
        if (!now.words.has(word)) {
            return refuse(NOBODY);
        }
        history.remember(now);
        return now.words.drop(word);
    }

    public int patterns(int a, int b, int place, int v) {
        int length = b < 0 ? 1 : 2;
        if (!isLetter(a) || !isLetterOrNone(b) || place < 0 || place > length) {
            return refuse(NOBODY);
        }
        int fault = outside(v, 1, 9);
        if (fault != ALL_RIGHT) {
            return refuse(fault);
        }
        long spelling = spellingOf(a, b, -1);
        if (!now.patterns.hasRoomFor(spelling, place)) {
            return refuse(ROOM);
        }
        history.remember(now);
        return now.patterns.take(spelling, length, place, v);
    }

    public int line(int n) {
        int fault = outside(n, LEAST_LINE, GREATEST_LINE);
        if (fault != ALL_RIGHT) {
            return refuse(fault);
        }
        history.remember(now);
        int old = now.line;
        now.line = n;
        return old;
    }

    public int glue(int wide, int stretch, int shrink) {
        int fault = glueFault(wide, stretch, shrink);
        if (fault != ALL_RIGHT) {
            return refuse(fault);
        }
        history.remember(now);
        int old = 100 * now.wide + 10 * now.stretch + now.shrink;
        now.takeGlue(wide, stretch, shrink);
        return old;
    }

    public int tolerance(int n) {
        int fault = outside(n, 0, 40);
        if (fault != ALL_RIGHT) {
            return refuse(fault);
        }
        history.remember(now);
        int old = now.tolerance;
        now.tolerance = n;
        return old;
    }

    public int hyphen(int n) {
        int fault = outside(n, 0, 99);
        if (fault != ALL_RIGHT) {
            return refuse(fault);
        }
        history.remember(now);
        int old = now.hyphen;
        now.hyphen = n;
        return old;
    }

    public int widow(int n) {
        int fault = outside(n, 0, 9);
        if (fault != ALL_RIGHT) {
            return refuse(fault);
        }
        history.remember(now);
        int old = now.widow;
        now.widow = n;
        return old;
    }

    public int manner(int n) {
        if (isOther(n, MANNERS)) {
            return refuse(OTHER);
        }
        history.remember(now);
        int old = now.manner;
        now.manner = n;
        return old;
    }

    public int kind(int kind, int figure) {
        if (isOther(kind, KINDS)) {
            return refuse(OTHER);
        }
        int fault = outside(figure, 0, 9);
        if (fault != ALL_RIGHT) {
            return refuse(fault);
        }
        history.remember(now);
        int old = 10 * now.kind + now.figure;
        now.kind = kind;
        now.figure = figure;
        return old;
    }

    public int back() {
        if (history.count == 0) {
            return refuse(STATE);
        }
        history.restore(now);
        return history.count;
    }

    public int word(int word, int what) {
        if (!now.words.has(word)) {
            return refuse(NOBODY);
        }
        switch (what) {
            case 0:
                return now.words.lengthOf(word);
            case 1:
                return now.widthOf(word);
            case 2:
                return now.words.isForced(word) ? 1 : 0;
            case 3:
                return 1 + Integer.bitCount(now.hyphenPlaces(word));
            case 4:
                return now.hyphenPlaces(word);
            default:
                return refuse(OTHER);
        }
    }

    public int spelt(int word, int i) {
        if (!now.words.has(word) || i < 0 || i >= now.words.lengthOf(word)) {
            return refuse(NOBODY);
        }
        return letterIn(now.words.spellingOf(word), i);
    }

    public int values(int word, int place) {
        if (!now.words.has(word) || place < 0 || place > now.words.lengthOf(word)) {
            return refuse(NOBODY);
        }
        return now.patterns.greatestValue(now.words.spellingOf(word), place);
    }

    public int pattern(int i, int what) {
        if (!now.patterns.has(i)) {
            return refuse(NOBODY);
        }
        switch (what) {
            case 0:
                return at(now.patterns.lengths, i);
            case 1:
                return at(now.patterns.places, i);
            case 2:
                return at(now.patterns.values, i);
            case 3:
                return now.patterns.firstLetter(i);
            default:
                return refuse(OTHER);
        }
    }

    public int lines(int what) {
        if (isOther(what, 6)) {
            return refuse(OTHER);
        }
        int count = setter.set(now, 0);
        if (what == 5) {
            return setter.fragments.count;
        }
        if (what == 0 || count == NONE) {
            return count;
        }
        if (what == 1) {
            return setter.hyphenedLines();
        }
        return what == 2 ? setter.widowLines() : setter.extremeLine(what == 3);
    }

    public int lineOf(int i, int what) {
        if (!showLine(i)) {
            return refuse(NOBODY);
        }
        switch (what) {
            case 0:
                return setter.line.first;
            case 1:
                return setter.line.fragmentCount();
            case 2:
                return setter.line.natural;
            case 3:
                return setter.line.words;
            case 4:
                return setter.line.end;
            default:
                return refuse(OTHER);
        }
    }

    public int ratio(int i) {
        return showLine(i) ? bitsOf(setter.line.ratio) : 0;
    }

    public int badness(int i) {
        return showLine(i) ? bitsOf(setter.line.badnessOfLine()) : 0;
    }

    public int demerits(int i) {
        return showLine(i) ? bitsOf(setter.line.demeritsOfLine()) : 0;
    }

    public int total(int n) {
        if (n < 0 || n > MOST_LINES) {
            return 0;
        }
        setter.set(now, 0);
        return bitsOfTotal(n == 0 ? setter.leastTotal() : setter.totalBy(now, n));
    }

    public int firstFit() {
        setter.fragments.cut(now, 0);
        return setter.greedyLines(now);
    }

    public int with(int n) {
        int fault = outside(n, LEAST_LINE, GREATEST_LINE);
        if (fault != ALL_RIGHT) {
            return refuse(fault);
        }
        beginTrial();
        return linesWith(n);
    }

    public int narrowest(int n) {
        int fault = outside(n, 1, MOST_LINES);
        if (fault != ALL_RIGHT) {
            return refuse(fault);
        }
        beginTrial();
        for (int wide = LEAST_LINE; wide <= GREATEST_LINE; wide++) {
            int count = linesWith(wide);
            if (count != NONE && count <= n) {
                return wide;
            }
        }
        return NONE;
    }

    public int without(int word, int what) {
        if (!now.words.has(word)) {
            return refuse(NOBODY);
        }
        if (isOther(what, 2)) {
            return refuse(OTHER);
        }
        int count = setter.set(now, 1 << word);
        return what == 0 ? count : bitsOfTotal(setter.leastTotal());
    }

    public int worst() {
        setter.set(now, 0);
        float least = setter.leastTotal();
        int worst = NONE;
        for (int word = 0; word < now.words.count; word++) {
            setter.set(now, 1 << word);
            float total = setter.leastTotal();
            if (isLess(total, least)) {
                least = total;
                worst = word;
            }
        }
        return worst;
    }

    public int manners() {
        beginTrial();
        int fewest = NONE;
        int manner = NONE;
        for (int i = 0; i < MANNERS; i++) {
            trial.manner = i;
            int count = setter.solve(trial);
            if (count != NONE && (fewest == NONE || count < fewest)) {
                fewest = count;
                manner = i;
            }
        }
        return manner;
    }

    public int two(int a, int b) {
        if (a < LEAST_LINE || b < LEAST_LINE) {
            return refuse(BELOW);
        }
        if (a > GREATEST_LINE || b > GREATEST_LINE) {
            return refuse(ROOM);
        }
        beginTrial();
        linesWith(a);
        float one = setter.leastTotal();
        linesWith(b);
        float other = setter.leastTotal();
        if (isLess(one, other)) {
            return 0;
        }
        return isLess(other, one) ? 1 : NONE;
    }

    public long lost(int n, int t, int part) {
        if (n < 0 || t < 2) {
            return refuseLong(BELOW);
        }
        if (n > MOST_LINES || t > 20) {
            return refuseLong(ROOM);
        }
        if (isOther(part, 2)) {
            return refuseLong(OTHER);
        }
        int chancy = Math.min(CHANCY_WORDS, now.words.count);
        long above = 0;
        for (int gone = 0; gone < 1 << chancy; gone++) {
            int count = setter.set(now, gone);
            if (count != NONE && count <= n) {
                above += power(t - 1, chancy - Integer.bitCount(gone));
            }
        }
        return partOfFraction(above, power(t, chancy), part);
    }

    public long mean(int part) {
        if (isOther(part, 2)) {
            return refuseLong(OTHER);
        }
        setter.set(now, 0);
        return partOfFraction(setter.naturalOfAll(), setter.count, part);
    }

    public int whatIs(int what) {
        if (isOther(what, 2)) {
            return refuse(OTHER);
        }
        trial.become(now);
        int bits = 0;
        int most = what == 0 ? KINDS : FIGURES;
        for (int i = 0; i < most; i++) {
            if (what == 0) {
                trial.kind = i;
            } else {
                trial.figure = i;
            }
            if (isAsTold()) {
                bits |= 1 << i;
            }
        }
        return bits;
    }

    public int row(int v) {
        if (v < 0) {
            return refuse(BELOW);
        }
        if (v > 99 || toldCount >= told.length) {
            return refuse(ROOM);
        }
        put(told, toldCount, v);
        toldCount++;
        return toldCount;
    }

    public int judge() {
        setter.set(now, 0);
        int answer = firstNotSo();
        toldCount = 0;
        return answer;
    }

    public int clear() {
        int had = toldCount;
        toldCount = 0;
        return had;
    }

    public int lots(int n, int z, int what) {
        int fault = outside(n, 1, 20);
        if (fault != ALL_RIGHT) {
            return refuse(fault);
        }
        if (isOther(what, 2)) {
            return refuse(OTHER);
        }
        beginTrial();
        seed = z;
        int together = 0;
        int none = 0;
        for (int i = 0; i < n; i++) {
            int wide = 10 + drawBelow41();
            trial.tolerance = drawBelow41();
            int count = linesWith(wide);
            if (count == NONE) {
                none++;
            } else {
                together += count;
            }
        }
        return what == 0 ? together : none;
    }

    public int image() {
        kept.become(now);
        isKept = true;
        return now.words.count;
    }

    public int on() {
        if (!isKept) {
            return refuse(STATE);
        }
        now.become(kept);
        history.forget();
        return now.words.count;
    }

    public int count(int what) {
        if (what >= 11 && what <= 16) {
            return at(refusals, what - 10);
        }
        switch (what) {
            case 0:
                return now.words.count;
            case 1:
                return now.patterns.count;
            case 2:
                return now.words.letterCount();
            case 3:
                return now.line;
            case 4:
                return now.kind;
            case 5:
                return history.count;
            case 6:
                return toldCount;
            case 7:
                return text.count;
            default:
                return NONE;
        }
    }

    private int refuse(int number) {
        put(refusals, -number, at(refusals, -number) + 1);
        return number;
    }

    private long refuseLong(int number) {
        return REFUSED_LONG - refuse(number);
    }

    private boolean showLine(int i) {
        setter.fragments.cut(now, 0);
        setter.solve(now);
        if (i < 0 || i >= setter.count) {
            return false;
        }
        setter.show(i);
        return true;
    }

    private void beginTrial() {
        trial.become(now);
        setter.fragments.cut(trial, 0);
    }

    /** How many LINES the trial, cut before, has with another LINE, or NONE. */
    private int linesWith(int wide) {
        trial.line = wide;
        return setter.solve(trial);
    }

    private boolean isAsTold() {
        setter.fragments.cut(trial, 0);
        for (int i = 0; i < toldCount; i++) {
            int count = linesWith(20 + 4 * i);
            if (at(told, i) != (count == NONE ? 0 : count)) {
                return false;
            }
        }
        return true;
    }

    private int firstNotSo() {
        for (int i = 0; i < toldCount; i++) {
            if (i >= setter.count || at(told, i) != at(setter.starts, i)) {
                return i;
            }
        }
        return toldCount < setter.count ? toldCount : NONE;
    }

    private int drawBelow41() {
        seed = seed * 1664525 + 1013904223;
        return (seed & 0x7fffffff) / 256 % 41;
    }

    private static int at(int[] row, int i) {
        return i >= 0 && i < row.length ? row[i] : 0;
    }

    private static void put(int[] row, int i, int v) {
        if (i >= 0 && i < row.length) {
            row[i] = v;
        }
    }

    private static void copyInts(int[] source, int[] goal) {
        System.arraycopy(source, 0, goal, 0, Math.min(source.length, goal.length));
    }

    private static void copyLongs(long[] source, long[] goal) {
        System.arraycopy(source, 0, goal, 0, Math.min(source.length, goal.length));
    }

    private static int outside(int n, int least, int greatest) {
        if (n < least) {
            return BELOW;
        }
        return n > greatest ? ROOM : ALL_RIGHT;
    }

    private static int glueFault(int wide, int stretch, int shrink) {
        if (wide < 2 || stretch < 0 || shrink < 0) {
            return BELOW;
        }
        return wide > 9 || stretch > 9 || shrink > wide ? ROOM : ALL_RIGHT;
    }

    private static boolean isOther(int what, int many) {
        return what < 0 || what >= many;
    }

    private static boolean isLetter(int a) {
        return a >= 0 && a < FIRST_WIDTHS.length;
    }

    private static boolean isLetterOrNone(int a) {
        return a == -1 || isLetter(a);
    }

    /** A spelling has four bits for each LETTER, 0 for none: so a PATTERN is found in a WORD by shifts alone. */
    private static long spelledOn(long spelling, int length, int letter) {
        return spelling | (long) (letter + 1) << 4 * length;
    }

    private static long spellingOf(int a, int b, int c) {
        return spelledOn(spelledOn(spelledOn(0L, 0, a), 1, b), 2, c);
    }

    private static int letterIn(long spelling, int i) {
        return (int) (spelling >>> 4 * i & 15) - 1;
    }

    /** Totals below 0 stand for none: one that has none is no less than any. */
    private static boolean isLess(float one, float other) {
        return one >= 0.0f && (other < 0.0f || one < other);
    }

    private static int bitsOfTotal(float total) {
        return total < 0.0f ? 0 : bitsOf(total);
    }

    /** The bits of a float that is 0 or neither too small nor too great to be told with all its bits. */
    private static int bitsOf(float number) {
        if (number == 0.0f) {
            return 0;
        }
        float rest = number < 0.0f ? -number : number;
        int exponent = 127;
        for (int i = 0; i < 128 && rest >= 2.0f; i++) {
            rest = rest / 2.0f;
            exponent++;
        }
        for (int i = 0; i < 128 && rest < 1.0f; i++) {
            rest = rest * 2.0f;
            exponent--;
        }
        int fraction = (int) (rest * 8388608.0f) - 8388608;
        return (number < 0.0f ? 1 << 31 : 0) | exponent << 23 | fraction;
    }

    private static long power(long base, int times) {
        long product = 1;
        for (int i = 0; i < times; i++) {
            product *= base;
        }
        return product;
    }

    /** Of above by below in least terms the part above (0) or below (1) the line; neither number is below 0. */
    private static long partOfFraction(long above, long below, int part) {
        if (above <= 0 || below <= 0) {
            return part == 0 ? 0 : 1;
        }
        long divisor = commonDivisor(above, below);
        long whole = part == 0 ? above : below;
        return divisor > 0 ? whole / divisor : whole;
    }

    private static long commonDivisor(long one, long other) {
        long a = one;
        long b = other;
        for (int i = 0; i < 200 && b > 0; i++) {
            long rest = a % b;
            a = b;
            b = rest;
        }
        return a;
    }

    /** The WORDS in their order. */
    private static final class Words {
        final long[] spellings;
        final int[] lengths;
        final int[] forced;
        int count;

        Words() {
            spellings = new long[MOST_WORDS];
            lengths = new int[MOST_WORDS];
            forced = new int[MOST_WORDS];
        }

        void become(Words other) {
            copyLongs(other.spellings, spellings);
            copyInts(other.lengths, lengths);
            copyInts(other.forced, forced);
            count = other.count;
        }

        boolean isFull() {
            return count >= MOST_WORDS;
        }

        boolean has(int word) {
            return word >= 0 && word < count;
        }

        int lengthOf(int word) {
            return at(lengths, word);
        }

        boolean isForced(int word) {
            return at(forced, word) == 1;
        }

        long spellingOf(int word) {
            return word >= 0 && word < spellings.length ? spellings[word] : 0L;
        }

        int letterCount() {
            int together = 0;
            for (int i = 0; i < count; i++) {
                together += at(lengths, i);
            }
            return together;
        }

        /** The number of the WORD that came; there is room. */
        int add(long spelling, int length) {
            write(count, spelling, length, 0);
            count++;
            return count - 1;
        }

        int turnForced(int word) {
            put(forced, word, 1 - at(forced, word));
            return at(forced, word);
        }

        /** How many WORDS are left; there is this one. */
        int drop(int word) {
            count--;
            for (int i = word; i < count; i++) {
                write(i, spellingOf(i + 1), at(lengths, i + 1), at(forced, i + 1));
            }
            return count;
        }

        private void write(int word, long spelling, int length, int force) {
            if (word >= 0 && word < spellings.length) {
                spellings[word] = spelling;
            }
            put(lengths, word, length);
            put(forced, word, force);
        }
    }

    /** The PATTERNS in the order in which they came. */
    private static final class Patterns {
        final long[] spellings;
        final int[] lengths;
        final int[] places;
        final int[] values;
        int count;

        Patterns() {
            spellings = new long[MOST_PATTERNS];
            lengths = new int[MOST_PATTERNS];
            places = new int[MOST_PATTERNS];
            values = new int[MOST_PATTERNS];
        }

        void become(Patterns other) {
            copyLongs(other.spellings, spellings);
            copyInts(other.lengths, lengths);
            copyInts(other.places, places);
            copyInts(other.values, values);
            count = other.count;
        }

        boolean has(int i) {
            return i >= 0 && i < count;
        }

        int firstLetter(int i) {
            return letterIn(spellingOf(i), 0);
        }

        boolean hasRoomFor(long spelling, int place) {
            return numberFor(spelling, place) < MOST_PATTERNS;
        }

        /** How many PATTERNS there are with this one; there is room. */
        int take(long spelling, int length, int place, int value) {
            int i = numberFor(spelling, place);
            if (i >= 0 && i < spellings.length) {
                spellings[i] = spelling;
            }
            put(lengths, i, length);
            put(places, i, place);
            put(values, i, value);
            count = Math.max(count, i + 1);
            return count;
        }

        /** The greatest VALUE that a PATTERN has at this place of a spelling, or 0. */
        int greatestValue(long spelling, int place) {
            int greatest = 0;
            for (int i = 0; i < count; i++) {
                int start = place - at(places, i);
                long mask = (1L << 4 * at(lengths, i)) - 1;
                if (start >= 0 && (spelling >>> 4 * start & mask) == spellingOf(i)) {
                    greatest = Math.max(greatest, at(values, i));
                }
            }
            return greatest;
        }

        /** The number of the PATTERN with this spelling and place, or that of a new one. */
        private int numberFor(long spelling, int place) {
            for (int i = 0; i < count; i++) {
                if (spellingOf(i) == spelling && at(places, i) == place) {
                    return i;
                }
            }
            return count;
        }

        private long spellingOf(int i) {
            return i >= 0 && i < spellings.length ? spellings[i] : 0L;
        }
    }

    /** All that part I. of the document tells of, but the letters of a SHEET. */
    private static final class Paragraph {
        final int[] widths;
        final Words words;
        final Patterns patterns;
        int line;
        int wide;
        int stretch;
        int shrink;
        int tolerance;
        int hyphen;
        int widow;
        int manner;
        int kind;
        int figure;

        Paragraph() {
            widths = FIRST_WIDTHS.clone();
            words = new Words();
            patterns = new Patterns();
            line = 30;
            wide = 3;
            stretch = 2;
            shrink = 1;
            tolerance = 12;
            hyphen = 50;
            widow = 1;
        }

        void become(Paragraph other) {
            copyInts(other.widths, widths);
            words.become(other.words);
            patterns.become(other.patterns);
            takeGlue(other.wide, other.stretch, other.shrink);
            line = other.line;
            tolerance = other.tolerance;
            hyphen = other.hyphen;
            widow = other.widow;
            manner = other.manner;
            kind = other.kind;
            figure = other.figure;
        }

        void takeGlue(int newWide, int newStretch, int newShrink) {
            wide = newWide;
            stretch = newStretch;
            shrink = newShrink;
        }

        int widthOf(int word) {
            long spelling = words.spellingOf(word);
            int together = 0;
            for (int i = 0; i < words.lengthOf(word); i++) {
                together += at(widths, letterIn(spelling, i));
            }
            return together;
        }

        /** The places (bits) of a WORD where a HYPHEN may be. */
        int hyphenPlaces(int word) {
            int length = words.lengthOf(word);
            long spelling = words.spellingOf(word);
            int bits = 0;
            if (!mayHyphenate(length)) {
                return bits;
            }
            for (int place = 2; place <= length - 2; place++) {
                if (patterns.greatestValue(spelling, place) % 2 == 1) {
                    bits |= 1 << place;
                }
            }
            return bits;
        }

        int stretchOfGlue() {
            if (kind == LOOSE) {
                return 2 * (stretch + figure);
            }
            return kind == RAGGED || kind == POEM ? stretch + figure : stretch;
        }

        int shrinkOfGlue() {
            return isTight() ? Math.min(shrink + 1, wide) : shrink;
        }

        int penaltyOfHyphen() {
            if (kind == LOOSE) {
                return hyphen + figure;
            }
            return isTight() ? hyphen / 2 : hyphen;
        }

        private boolean isTight() {
            return kind == TIGHT || kind == NOTE;
        }

        private boolean mayHyphenate(int length) {
            return kind != POEM && (kind != NOTE || length > figure);
        }
    }

    /** The paragraphs that were, to be taken back. */
    private static final class History {
        final Paragraph[] ring;
        int start;
        int count;

        History() {
            ring = new Paragraph[MOST_BACK];
            for (int i = 0; i < ring.length; i++) {
                ring[i] = new Paragraph();
            }
        }

        void forget() {
            count = 0;
        }

        /** The eldest goes, if there are as many as can be. */
        void remember(Paragraph now) {
            if (count == MOST_BACK) {
                start = (start + 1) % MOST_BACK;
                count--;
            }
            Paragraph slot = slotAt(count);
            if (slot != null) {
                slot.become(now);
            }
            count++;
        }

        void restore(Paragraph now) {
            count--;
            Paragraph slot = slotAt(count);
            if (slot != null) {
                now.become(slot);
            }
        }

        private Paragraph slotAt(int age) {
            int i = (start + age) % MOST_BACK;
            return i >= 0 && i < ring.length ? ring[i] : null;
        }
    }

    /** The letters that become a SHEET: read twice, for how they are spelt and for what they tell. */
    private static final class Sheet {
        final int[] letters;
        int count;
        int statements;
        private int place;

        Sheet() {
            letters = new int[MOST_TEXT];
        }

        boolean isFull() {
            return count >= MOST_TEXT;
        }

        int take(int c) {
            put(letters, count, c);
            count++;
            return count;
        }

        void forget() {
            count = 0;
        }

        /** The place of the first letter with which no SHEET can go on, or -1. */
        int misspelt() {
            place = 0;
            if (!readStatement()) {
                return place;
            }
            for (int i = 1; i < MOST_TEXT && place < count; i++) {
                if (!readStatement()) {
                    return place;
                }
            }
            return -1;
        }

        /** The place of the first STATEMENT that can't be told to the paragraph, or -1; it is spelt well. */
        int tellTo(Paragraph paragraph) {
            place = 0;
            statements = 0;
            for (int i = 0; i < MOST_TEXT && place < count; i++) {
                int start = place;
                if (!tellStatement(paragraph)) {
                    return start;
                }
                place++;
                statements++;
            }
            return -1;
        }

        private int here() {
            return place < count ? at(letters, place) : -1;
        }

        private boolean isLetterHere() {
            return here() >= 'a' && here() <= 'h';
        }

        private boolean isDigitHere() {
            return here() >= '0' && here() <= '9';
        }

        private boolean readStatement() {
            int head = here();
            if (digitsBehind(head) < 0) {
                return false;
            }
            place++;
            if (head == 'w' && !readLetters(MOST_LETTERS)) {
                return false;
            }
            if (head == 'p' && !readLetters(MOST_PATTERN_LETTERS)) {
                return false;
            }
            if (!readDigits(digitsBehind(head)) || here() != ';') {
                return false;
            }
            place++;
            return true;
        }

        /** How many digits a STATEMENT with this first letter has, or -1 if there is none with it. */
        private static int digitsBehind(int head) {
            switch (head) {
                case 'w':
                case 'n':
                    return 0;
                case 'o':
                case 'm':
                    return 1;
                case 'p':
                case 'l':
                case 't':
                case 'h':
                case 'k':
                    return 2;
                case 'g':
                    return 3;
                default:
                    return -1;
            }
        }

        private boolean readLetters(int most) {
            int many = 0;
            while (many < most && isLetterHere()) {
                place++;
                many++;
            }
            return many > 0;
        }

        private boolean readDigits(int many) {
            for (int i = 0; i < many; i++) {
                if (!isDigitHere()) {
                    return false;
                }
                place++;
            }
            return true;
        }

        private boolean tellStatement(Paragraph paragraph) {
            int head = here();
            place++;
            switch (head) {
                case 'w':
                    return tellWord(paragraph.words);
                case 'n':
                    return tellForced(paragraph.words);
                case 'p':
                    return tellPattern(paragraph.patterns);
                case 'g':
                    return tellGlue(paragraph);
                case 'k':
                    return tellKind(paragraph);
                default:
                    return tellNumber(head, paragraph);
            }
        }

        private boolean tellWord(Words words) {
            long spelling = 0;
            int length = 0;
            while (length < MOST_LETTERS && isLetterHere()) {
                spelling = spelledOn(spelling, length, here() - 'a');
                place++;
                length++;
            }
            if (words.isFull()) {
                return false;
            }
            words.add(spelling, length);
            return true;
        }

        private boolean tellForced(Words words) {
            if (words.count == 0) {
                return false;
            }
            words.turnForced(words.count - 1);
            return true;
        }

        private boolean tellPattern(Patterns patterns) {
            long spelling = 0;
            int length = 0;
            while (length < MOST_PATTERN_LETTERS && isLetterHere()) {
                spelling = spelledOn(spelling, length, here() - 'a');
                place++;
                length++;
            }
            int behind = number(1);
            int value = number(1);
            if (behind > length || value < 1 || !patterns.hasRoomFor(spelling, behind)) {
                return false;
            }
            patterns.take(spelling, length, behind, value);
            return true;
        }

        private boolean tellGlue(Paragraph paragraph) {
            int wide = number(1);
            int stretch = number(1);
            int shrink = number(1);
            if (glueFault(wide, stretch, shrink) != ALL_RIGHT) {
                return false;
            }
            paragraph.takeGlue(wide, stretch, shrink);
            return true;
        }

        private boolean tellKind(Paragraph paragraph) {
            int kind = number(1);
            int figure = number(1);
            if (isOther(kind, KINDS)) {
                return false;
            }
            paragraph.kind = kind;
            paragraph.figure = figure;
            return true;
        }

        private boolean tellNumber(int head, Paragraph paragraph) {
            int told = number(digitsBehind(head));
            switch (head) {
                case 'l':
                    paragraph.line = told;
                    return outside(told, LEAST_LINE, GREATEST_LINE) == ALL_RIGHT;
                case 't':
                    paragraph.tolerance = told;
                    return outside(told, 0, 40) == ALL_RIGHT;
                case 'h':
                    paragraph.hyphen = told;
                    return true;
                case 'o':
                    paragraph.widow = told;
                    return true;
                case 'm':
                    paragraph.manner = told;
                    return !isOther(told, MANNERS);
                default:
                    return false;
            }
        }

        /** The number of so many digits that stands here. */
        private int number(int digits) {
            int sum = 0;
            for (int i = 0; i < digits; i++) {
                sum = 10 * sum + here() - '0';
                place++;
            }
            return sum;
        }
    }

    /** The FRAGMENTS of a paragraph. */
    private static final class Fragments {
        final int[] widths;
        final int[] wordNumbers;
        final int[] ends;
        int count;

        Fragments() {
            widths = new int[MOST_FRAGMENTS];
            wordNumbers = new int[MOST_FRAGMENTS];
            ends = new int[MOST_FRAGMENTS];
        }

        /** Cuts the WORDS but those that are gone (bits). */
        void cut(Paragraph paragraph, int gone) {
            count = 0;
            int last = lastLeft(paragraph.words.count, gone);
            int left = 0;
            for (int word = 0; word <= last; word++) {
                if ((gone >> word & 1) == 0) {
                    cutWord(paragraph, word, left, endOf(paragraph.words, word, last));
                    left++;
                }
            }
        }

        private static int lastLeft(int words, int gone) {
            int last = -1;
            for (int word = 0; word < words; word++) {
                if ((gone >> word & 1) == 0) {
                    last = word;
                }
            }
            return last;
        }

        private static int endOf(Words words, int word, int last) {
            if (words.isForced(word)) {
                return FORCED_END;
            }
            return word == last ? LAST_END : GLUE_END;
        }

        private void cutWord(Paragraph paragraph, int word, int number, int end) {
            int length = paragraph.words.lengthOf(word);
            long spelling = paragraph.words.spellingOf(word);
            int hyphens = paragraph.hyphenPlaces(word);
            int width = 0;
            for (int place = 1; place <= length; place++) {
                width += at(paragraph.widths, letterIn(spelling, place - 1));
                if (place == length) {
                    add(width, number, end);
                } else if ((hyphens >> place & 1) == 1) {
                    add(width, number, HYPHEN_END);
                    width = 0;
                }
            }
        }

        private void add(int width, int number, int end) {
            put(widths, count, width);
            put(wordNumbers, count, number);
            put(ends, count, end);
            count++;
        }
    }

    /** One LINE, which grows by a FRAGMENT at a time. */
    private static final class Line {
        final Fragments fragments;
        int first;
        int last;
        int words;
        int natural;
        int end;
        float ratio;
        private int endAhead;
        private int letters;
        private int glues;
        private int goal;
        private int wide;
        private int stretch;
        private int shrink;
        private int penalty;
        private int manner;
        private int widow;
        private float loosest;

        Line() {
            fragments = new Fragments();
        }

        void measureBy(Paragraph paragraph) {
            goal = paragraph.line;
            wide = paragraph.wide;
            stretch = paragraph.stretchOfGlue();
            shrink = paragraph.shrinkOfGlue();
            penalty = paragraph.penaltyOfHyphen();
            manner = paragraph.manner;
            widow = paragraph.widow;
            loosest = (float) paragraph.tolerance / 4.0f;
        }

        /** An empty LINE behind a BREAK; there is no END ahead of BREAK 0, and GLUE counts for nothing there. */
        void beginAt(int place) {
            first = place;
            last = place - 1;
            endAhead = place > 0 ? at(fragments.ends, place - 1) : GLUE_END;
            letters = 0;
            glues = 0;
        }

        void grow() {
            if (last >= first && end == GLUE_END) {
                glues++;
            }
            last++;
            letters += at(fragments.widths, last);
            end = at(fragments.ends, last);
            words = at(fragments.wordNumbers, last) - at(fragments.wordNumbers, first) + 1;
            natural = letters + glues * wide + (end == HYPHEN_END ? 2 : 0);
            ratio = ratioOfLine();
        }

        int fragmentCount() {
            return last - first + 1;
        }

        /** No LINE from the same BREAK fits that goes on behind this one's: what comes is wider than it shrinks. */
        boolean isFull() {
            return end == FORCED_END || letters + glues * (wide - shrink) > goal;
        }

        boolean fits() {
            return ratio >= -1.0f && ratio <= loosest;
        }

        float badnessOfLine() {
            float unsigned = ratio < 0.0f ? -ratio : ratio;
            return unsigned * unsigned * unsigned * 100.0f;
        }

        float demeritsOfLine() {
            float cost = end == HYPHEN_END ? (float) penalty : 0.0f;
            float sum = demeritsByManner(1.0f + badnessOfLine(), cost);
            if (end == HYPHEN_END && endAhead == HYPHEN_END) {
                sum = sum + 3000.0f;
            }
            if (isWidow()) {
                sum = sum + (float) widow * 1000.0f;
            }
            return sum;
        }

        boolean isWidow() {
            return words == 1 && end >= FORCED_END && first > 0 && endAhead < FORCED_END;
        }

        private float ratioOfLine() {
            int rest = goal - natural;
            if (rest == 0 || rest > 0 && end >= FORCED_END) {
                return 0.0f;
            }
            int room = glues * (rest > 0 ? stretch : shrink);
            if (room == 0) {
                return rest > 0 ? 99.0f : -99.0f;
            }
            return (float) rest / (float) room;
        }

        private float demeritsByManner(float bad, float cost) {
            if (manner == 0) {
                return bad * bad + cost * cost;
            }
            float both = bad + cost;
            return manner == 1 ? both * both : both;
        }
    }

    /** Sets FRAGMENTS in LINES; a BEST below 0 stands for none. */
    private static final class Typesetter {
        final Fragments fragments;
        final Line line;
        final int[] starts;
        int count;
        private final float[] best;
        private final float[] ahead;
        private final float[] next;
        private final int[] from;

        Typesetter() {
            line = new Line();
            fragments = line.fragments;
            starts = new int[MOST_FRAGMENTS];
            best = new float[MOST_FRAGMENTS + 1];
            ahead = new float[MOST_FRAGMENTS + 1];
            next = new float[MOST_FRAGMENTS + 1];
            from = new int[MOST_FRAGMENTS + 1];
        }

        /** Finds the LINES of a paragraph without the WORDS that are gone (bits): how many, or NONE. */
        int set(Paragraph paragraph, int gone) {
            fragments.cut(paragraph, gone);
            return solve(paragraph);
        }

        /** Finds the LINES of what is cut: how many, or NONE. */
        int solve(Paragraph paragraph) {
            line.measureBy(paragraph);
            beginBests(best);
            for (int i = 0; i < fragments.count; i++) {
                reachFrom(i, best, best);
            }
            count = 0;
            if (leastTotal() < 0.0f) {
                return NONE;
            }
            traceBack();
            return count;
        }

        /** TOTAL of what was solved; below 0, if there is none. */
        float leastTotal() {
            return bestAt(best, fragments.count);
        }

        /** TOTAL BY so many LINES of what is cut; below 0, if there is none. */
        float totalBy(Paragraph paragraph, int many) {
            line.measureBy(paragraph);
            beginBests(ahead);
            for (int k = 0; k < many; k++) {
                Arrays.fill(next, -1.0f);
                for (int i = 0; i < fragments.count; i++) {
                    reachFrom(i, ahead, next);
                }
                System.arraycopy(next, 0, ahead, 0, Math.min(next.length, ahead.length));
            }
            return bestAt(ahead, fragments.count);
        }

        /** How many LINES there are if each takes what it can, or NONE. */
        int greedyLines(Paragraph paragraph) {
            line.measureBy(paragraph);
            int reached = 0;
            int many = 0;
            while (many < MOST_FRAGMENTS && reached < fragments.count) {
                reached = farthestFrom(reached);
                if (reached < 0) {
                    return NONE;
                }
                many++;
            }
            return many;
        }

        /** Makes the LINE the i-th of those that were solved. */
        void show(int i) {
            int behind = i + 1 < count ? at(starts, i + 1) : fragments.count;
            line.beginAt(at(starts, i));
            for (int k = line.first; k < behind; k++) {
                line.grow();
            }
        }

        int hyphenedLines() {
            int many = 0;
            for (int i = 0; i < count; i++) {
                show(i);
                if (line.end == HYPHEN_END) {
                    many++;
                }
            }
            return many;
        }

        int widowLines() {
            int many = 0;
            for (int i = 0; i < count; i++) {
                show(i);
                if (line.isWidow()) {
                    many++;
                }
            }
            return many;
        }

        /** The first LINE with the greatest RATIO, or with the least one, or NONE. */
        int extremeLine(boolean greatest) {
            int found = NONE;
            float extreme = 0.0f;
            for (int i = 0; i < count; i++) {
                show(i);
                if (found == NONE || (greatest ? line.ratio > extreme : line.ratio < extreme)) {
                    found = i;
                    extreme = line.ratio;
                }
            }
            return found;
        }

        int naturalOfAll() {
            int together = 0;
            for (int i = 0; i < count; i++) {
                show(i);
                together += line.natural;
            }
            return together;
        }

        private static float bestAt(float[] bests, int i) {
            return i >= 0 && i < bests.length ? bests[i] : -1.0f;
        }

        private static void beginBests(float[] bests) {
            Arrays.fill(bests, -1.0f);
            if (bests.length > 0) {
                bests[0] = 0.0f;
            }
        }

        /** Offers all LINES from BREAK i on to the BREAKS they reach; i comes up, so of several the least i stays. */
        private void reachFrom(int i, float[] here, float[] there) {
            float sum = bestAt(here, i);
            if (sum < 0.0f) {
                return;
            }
            line.beginAt(i);
            for (int behind = i + 1; behind <= fragments.count; behind++) {
                line.grow();
                if (line.fits()) {
                    offer(there, behind, sum + line.demeritsOfLine());
                }
                if (line.isFull()) {
                    return;
                }
            }
        }

        private void offer(float[] bests, int i, float sum) {
            float old = bestAt(bests, i);
            if (i >= 0 && i < bests.length && (old < 0.0f || sum < old)) {
                bests[i] = sum;
                put(from, i, line.first);
            }
        }

        private int farthestFrom(int i) {
            int farthest = -1;
            line.beginAt(i);
            for (int behind = i + 1; behind <= fragments.count; behind++) {
                line.grow();
                if (line.fits()) {
                    farthest = behind;
                }
                if (line.isFull()) {
                    return farthest;
                }
            }
            return farthest;
        }

        private void traceBack() {
            int place = fragments.count;
            while (count < MOST_FRAGMENTS && place > 0) {
                place = at(from, place);
                count++;
            }
            place = fragments.count;
            for (int i = count - 1; i >= 0; i--) {
                place = at(from, place);
                put(starts, i, place);
            }
        }
    }
}
