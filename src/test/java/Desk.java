import java.io.IOException;
import java.nio.file.Files;
import java.nio.file.Path;
import java.util.Arrays;

/** What the tests of edges share: the object looked at, the sentence that is tested, and what was not as due. */
class Desk {
    static final int LEAST = Integer.MIN_VALUE;
    static final int GREATEST = Integer.MAX_VALUE;
    static final int PROMISES = 43;

    private static final long REFUSED_LONG = 4000000000000000000L;
    private static final int WAYS = 4;
    private static final String[] PARTS = new String[PROMISES + 1];
    private static final boolean[][] TOLD = new boolean[PROMISES + 1][];
    private static final LinesOfFragments NOTHING = null;

    static LinesOfFragments x = NOTHING;
    private static Page page = Page.USED;
    private static String sentence = "";
    private static int wrong;

    interface Call {
        long to(LinesOfFragments y);
    }

    /** What an object is like before a call that must change nothing. */
    enum Page { EMPTY, USED, KEPT, FULL }

    /** Reads the document: part 0 is all ahead of the promises, the others are one promise each. */
    static void readDocument() throws IOException {
        StringBuilder[] parts = new StringBuilder[PROMISES + 1];
        Arrays.setAll(parts, i -> new StringBuilder());
        int part = 0;
        boolean isFace = false;
        for (String line : Files.readAllLines(Path.of("../shared/DOC.md"))) {
            if (line.startsWith("## Not promised")) {
                break;
            }
            isFace = line.startsWith("```") ? line.equals("```java") : isFace;
            if (line.startsWith("## Promise ")) {
                part = Integer.parseInt(line.substring(11, line.indexOf(':')));
            } else if (!isFace && !line.startsWith("#") && !line.startsWith("```") && !line.startsWith("Lines of a")) {
                parts[part].append(line.replaceAll("^`[^`]*`: ", "")).append(' ');
            }
        }
        for (int i = 0; i <= PROMISES; i++) {
            PARTS[i] = parts[i].toString().replaceAll("==== I+\\.", "").replaceAll("\\s+", " ").trim();
            TOLD[i] = new boolean[PARTS[i].length()];
        }
    }

    /** The tests that come now are those of these words of the document, on a new object. */
    static void says(int promise, String words) {
        sentence = (promise == 0 ? "" : "promise " + promise + ": ") + words;
        int at = PARTS[promise].indexOf(words);
        if (at < 0) {
            fault("the document does not say so");
        } else {
            Arrays.fill(TOLD[promise], at, at + words.length(), true);
        }
        page = Page.USED;
        fresh();
    }

    static void says(String words) {
        says(0, words);
    }

    /** Every word of the document must have been told by a test. */
    static void dueWholeDocument() {
        for (int i = 0; i <= PROMISES; i++) {
            StringBuilder left = new StringBuilder();
            for (int k = 0; k < PARTS[i].length(); k++) {
                left.append(TOLD[i][k] ? ' ' : PARTS[i].charAt(k));
            }
            String untold = left.toString().replaceAll(" +", " ").trim();
            if (untold.matches(".*[A-Za-z0-9].*")) {
                sentence = (i == 0 ? "" : "promise " + i + ": ") + untold;
                fault("no test tells of it");
            }
        }
    }

    static int faults() {
        return wrong;
    }

    static void fault(String what) {
        wrong++;
        System.out.println("\"" + sentence + "\": " + what);
    }

    static void fresh() {
        x = new LinesOfFragments();
    }

    static void due(String call, long got, long want) {
        if (got != want) {
            fault(call + " answered " + got + ", due is " + want);
        }
    }

    static void dueFloat(String call, int got, float want) {
        if (got != Float.floatToIntBits(want)) {
            fault(call + " answered " + Float.intBitsToFloat(got) + ", due is " + want);
        }
    }

    static int sheet(String text) {
        for (char c : text.toCharArray()) {
            x.letter(c);
        }
        return x.sheet();
    }

    static void dueSheet(String text, int want) {
        due("the sheet " + text, sheet(text), want);
    }

    /** A new object that has what this SHEET tells. */
    static void freshSheet(String text) {
        fresh();
        int statements = (int) text.chars().filter(c -> c == ';').count();
        dueSheet(text, statements);
    }

    /** So many WORDS "abc": 10 wide each. */
    static void words(int many) {
        for (int i = 0; i < many; i++) {
            x.adds(0, 1, 2);
        }
    }

    static void on(Page next) {
        page = next;
    }

    /** The call is refused with this number, which is counted; nothing else changes. */
    static void refuses(int number, String call, Call c) {
        unchanged(number, call, c, number);
    }

    static void refusesLong(int number, String call, Call c) {
        unchanged(number, call, c, REFUSED_LONG - number);
    }

    /** The call answers this and changes nothing at all; what it changes and takes back counts for nothing. */
    static void asks(long want, String call, Call c) {
        unchanged(0, call, c, want);
    }

    /** The call, whatever it answers, changes nothing at all. */
    static void looks(String call, Call c) {
        unchanged(0, call, c, c.to(made()));
    }

    private static void unchanged(int number, String call, Call c, long want) {
        for (int way = 0; way < WAYS; way++) {
            LinesOfFragments one = made();
            LinesOfFragments twin = made();
            due(call, c.to(one), want);
            for (int k = 1; k <= 6; k++) {
                int more = k == -number ? 1 : 0;
                due("count of -" + k + " behind " + call, one.count(10 + k), twin.count(10 + k) + more);
            }
            String seen = seen(one, way);
            String wanted = seen(twin, way);
            if (!seen.equals(wanted)) {
                fault(call + " changed " + wanted + " to " + seen);
            }
        }
    }

    /** The page as it is made for calls that must change nothing. */
    static LinesOfFragments made() {
        LinesOfFragments before = x;
        fresh();
        if (page == Page.FULL) {
            fullPage();
        } else if (page != Page.EMPTY) {
            usedPage();
        }
        if (page == Page.KEPT) {
            x.on();
        }
        LinesOfFragments made = x;
        x = before;
        return made;
    }

    /** Five WORDS, four PATTERNS, all numbers others than at first, and an IMAGE with three WORDS. */
    private static void usedPage() {
        sheet("wabcd;wef;n;waabbaa;paa21;pbc12;l25;g431;t33;h44;o2;m1;k12;");
        x.widens(2, 5);
        x.image();
        sheet("wg;pcc03;");
        x.widens(0, 4);
        x.adds(0, 1, 2);
        x.forces(1);
        x.patterns(1, 1, 2, 7);
        x.line(26);
        x.glue(4, 5, 2);
        x.tolerance(38);
        x.hyphen(41);
        x.widow(3);
        x.manner(2);
        x.kind(5, 1);
        x.row(3);
        x.row(2);
        x.letter('w');
        x.letter('h');
        x.letter(';');
        x.forces(99);
        x.manner(3);
        x.line(9);
        x.line(61);
    }

    /** As many WORDS, PATTERNS, letters and numbers of the ROW as there can be. */
    private static void fullPage() {
        for (int i = 0; i < 16; i++) {
            x.adds(i % 8, (i + 1) % 8, (i + 2) % 8);
        }
        for (int a = 0; a < 8; a++) {
            x.patterns(a, (a + 1) % 8, 1, a + 1);
        }
        x.tolerance(40);
        x.image();
        for (int i = 0; i < 16; i++) {
            x.row(i < 8 ? 5 : 4);
        }
        for (int i = 0; i < 24; i++) {
            x.letter('l');
            x.letter('4');
            x.letter((char) ('0' + i % 10));
            x.letter(';');
        }
    }

    /** What can be seen of an object: as it is, behind each back(), behind on(), or of its ROW and letters. */
    private static String seen(LinesOfFragments y, int way) {
        StringBuilder s = new StringBuilder();
        if (way == 0) {
            seeAll(y, s);
        } else if (way == 1) {
            for (int left = y.back(); left >= 0; left = y.back()) {
                seeCounts(y, s);
            }
            seeAll(y, s);
        } else if (way == 2) {
            s.append(y.on()).append(' ');
            seeAll(y, s);
        } else {
            s.append(y.whatIs(0)).append(' ').append(y.whatIs(1)).append(' ').append(y.judge()).append(' ');
            s.append(y.sheet()).append(' ');
            seeCounts(y, s);
        }
        return s.toString();
    }

    private static void seeCounts(LinesOfFragments y, StringBuilder s) {
        for (int what = 0; what <= 7; what++) {
            s.append(y.count(what)).append(' ');
        }
        s.append(y.lines(0)).append(' ').append(y.total(0)).append("; ");
    }

    private static void seeAll(LinesOfFragments y, StringBuilder s) {
        seeCounts(y, s);
        for (int w = 0; w < y.count(0); w++) {
            s.append(y.word(w, 1)).append(' ').append(y.word(w, 2)).append(' ').append(y.word(w, 4)).append(' ');
            s.append(y.spelt(w, 0)).append(' ');
        }
        for (int p = 0; p < y.count(1); p++) {
            s.append(y.pattern(p, 1)).append(' ').append(y.pattern(p, 2)).append(' ').append(y.pattern(p, 3)).append(' ');
        }
        for (int a = 0; a < 8; a++) {
            s.append(y.widens(a, 2)).append(' ');
        }
        s.append(y.line(10)).append(' ').append(y.glue(2, 0, 0)).append(' ').append(y.tolerance(0)).append(' ');
        s.append(y.hyphen(0)).append(' ').append(y.widow(0)).append(' ').append(y.manner(0)).append(' ');
        s.append(y.kind(0, 0));
    }
}
