/** The promises, each by the least and the greatest that its call takes, and what is just beyond, in their order. */
final class EdgesOfCalls extends Desk {
    private static final int[] FAR = {LEAST, GREATEST};

    private EdgesOfCalls() {
    }

    static void all() {
        newObject();
        letter();
        sheet();
        widens();
        adds();
        forces();
        drops();
        patterns();
        line();
        glue();
        tolerance();
        hyphen();
        widow();
        manner();
        kind();
        back();
        word();
        spelt();
        values();
        pattern();
        lines();
        lineOf();
        ratio();
        badness();
        demerits();
        total();
        firstFit();
        with();
        narrowest();
        without();
        worst();
        manners();
        two();
        lost();
        mean();
        whatIs();
        row();
        judge();
        clear();
        lots();
        image();
        on();
        count();
    }

    private static void newObject() {
        says(1, "No WORDS, no PATTERNS, all as told at first.");
        int[] counts = {0, 0, 0, 30, 0, 0, 0, 0, -9, -9, -9, 0, 0, 0, 0, 0, 0, -9};
        for (int what = 0; what < counts.length; what++) {
            due("count(" + what + ")", x.count(what), counts[what]);
        }
        due("lines(5)", x.lines(5), 0);
        due("glue", x.glue(2, 0, 0), 321);
        due("tolerance", x.tolerance(0), 12);
        due("hyphen", x.hyphen(0), 50);
        due("widow", x.widow(0), 1);
        due("manner", x.manner(1), 0);
        due("kind", x.kind(1, 1), 0);
        LinesOfFragments other = x;
        fresh();
        due("another object has its own LINE", x.line(20), 30);
        due("and its own GLUE", x.glue(4, 4, 4), 321);
        due("the one stays", other.glue(3, 2, 1), 200);
    }

    private static void letter() {
        says(2, "A letter (0 .. 255) comes: how many there are. -4; -6 (255; 96, too).");
        due("letter(0)", x.letter(0), 1);
        due("letter(255)", x.letter(255), 2);
        for (int i = 3; i <= 96; i++) {
            due("letter", x.letter('n'), i);
        }
        due("the ninety-seventh", x.letter('n'), -6);
        due("count(7)", x.count(7), 96);
        due("a letter that never stands in a SHEET", x.sheet(), -1000);
        due("the first again", x.letter('n'), 1);
        refuses(-4, "letter(-1)", y -> y.letter(-1));
        refuses(-4, "letter(least)", y -> y.letter(LEAST));
        refuses(-6, "letter(256)", y -> y.letter(256));
        refuses(-6, "letter(greatest)", y -> y.letter(GREATEST));
        on(Page.FULL);
        refuses(-6, "letter(0), full", y -> y.letter(0));
        refuses(-6, "letter(255), full", y -> y.letter(255));
        refuses(-6, "letter(256), full", y -> y.letter(256));
        refuses(-4, "letter(-1), full", y -> y.letter(-1));
        refuses(-4, "letter(least), full", y -> y.letter(LEAST));
    }

    private static void sheet() {
        says(3, "The letters become a SHEET, and are no more (with a FAULT neither): how many STATEMENTS; the FAULT (nothing"
            + " is counted).");
        due("no letter", x.sheet(), -1000);
        dueSheet("wa;", 1);
        due("count(7)", x.count(7), 0);
        due("no letter any more", x.sheet(), -1000);
        dueSheet("wax", -1002);
        due("count(7), a FAULT", x.count(7), 0);
        dueSheet("l99;", -2000);
        due("count(7), a FAULT", x.count(7), 0);
        due("no letter any more", x.sheet(), -1000);
        dueSheet("n;".repeat(48), 48);
        for (int what = 11; what <= 16; what++) {
            due("nothing is counted, " + what, x.count(what), 0);
        }
        due("count(0)", x.count(0), 1);
    }

    private static void widens() {
        says(4, "WIDTH of a LETTER (0 .. 7) becomes v: the old. -1; -4 2; -6 9.");
        int[] first = {3, 4, 3, 4, 3, 2, 4, 4};
        for (int a = 0; a < 8; a++) {
            due("widens(" + a + ", 2)", x.widens(a, 2), first[a]);
        }
        for (int a = 0; a < 8; a++) {
            due("widens(" + a + ", 9)", x.widens(a, 9), 2);
            due("widens(" + a + ", 9)", x.widens(a, 9), 9);
        }
        int[] letters = {-1, 8, LEAST, GREATEST};
        int[] values = {2, 9, 1, 10, LEAST, GREATEST};
        for (int a : letters) {
            for (int v : values) {
                refuses(-1, "widens(" + a + ", " + v + ")", y -> y.widens(a, v));
            }
        }
        for (int a = 0; a < 8; a += 7) {
            int letter = a;
            refuses(-4, "widens(.., 1)", y -> y.widens(letter, 1));
            refuses(-4, "widens(.., least)", y -> y.widens(letter, LEAST));
            refuses(-6, "widens(.., 10)", y -> y.widens(letter, 10));
            refuses(-6, "widens(.., greatest)", y -> y.widens(letter, GREATEST));
        }
    }

    private static void adds() {
        says(5, "A WORD more of LETTERS a, b, c (0 .. 7; b or c -1: it ends ahead of that): its number. -1 (a, b, c; c"
            + " without b); -6 16.");
        int[][] taken = {{0, -1, -1, 1}, {7, -1, -1, 1}, {0, 0, -1, 2}, {7, 7, -1, 2}, {0, 0, 0, 3}, {7, 7, 7, 3},
            {0, 7, 0, 3}};
        for (int i = 0; i < taken.length; i++) {
            int[] t = taken[i];
            due("adds", x.adds(t[0], t[1], t[2]), i);
            due("word(" + i + ", 0)", x.word(i, 0), t[3]);
            for (int k = 0; k < 3; k++) {
                due("spelt(" + i + ", " + k + ")", x.spelt(i, k), k < t[3] ? t[k] : -1);
            }
        }
        int[][] beyond = {{-1, 0, 0}, {8, 0, 0}, {0, -2, 0}, {0, 8, 0}, {0, 0, -2}, {0, 0, 8}, {0, -2, -1}, {0, 8, -1},
            {0, -1, 0}, {0, -1, 7}, {0, -1, 8}, {0, -1, -2}, {-1, -1, -1}, {8, -1, -1}};
        Page[] pages = {Page.USED, Page.FULL};
        for (Page page : pages) {
            on(page);
            for (int[] b : beyond) {
                refuses(-1, "adds(" + b[0] + ", " + b[1] + ", " + b[2] + ")", y -> y.adds(b[0], b[1], b[2]));
            }
            for (int far : FAR) {
                refuses(-1, "adds(" + far + ", 0, 0)", y -> y.adds(far, 0, 0));
                refuses(-1, "adds(0, " + far + ", 0)", y -> y.adds(0, far, 0));
                refuses(-1, "adds(0, " + far + ", -1)", y -> y.adds(0, far, -1));
                refuses(-1, "adds(0, 0, " + far + ")", y -> y.adds(0, 0, far));
            }
        }
        for (int[] t : taken) {
            refuses(-6, "adds, full", y -> y.adds(t[0], t[1], t[2]));
        }
        for (int i = taken.length; i < 16; i++) {
            due("adds", x.adds(1, 2, 3), i);
        }
        due("the seventeenth", x.adds(1, 2, 3), -6);
    }

    /** No such WORD: on a page with none, with five, and with all that there can be. */
    private static void refusesWords(String call, CallOfWord c) {
        Page[] pages = {Page.EMPTY, Page.USED, Page.KEPT, Page.FULL};
        int[] words = {0, 5, 3, 16};
        for (int k = 0; k < pages.length; k++) {
            on(pages[k]);
            int[] beyond = {-1, words[k], words[k] + 1, LEAST, GREATEST};
            for (int w : beyond) {
                refuses(-1, call + " of WORD " + w, y -> c.to(y, w));
            }
        }
        on(Page.USED);
    }

    private interface CallOfWord {
        long to(LinesOfFragments y, int word);
    }

    private static void forces() {
        says(6, "FORCED or no more: 1, 0. -1.");
        words(16);
        for (int w = 0; w < 16; w += 15) {
            due("forces(" + w + ")", x.forces(w), 1);
            due("word(" + w + ", 2)", x.word(w, 2), 1);
            due("forces(" + w + ")", x.forces(w), 0);
            due("word(" + w + ", 2)", x.word(w, 2), 0);
        }
        refusesWords("forces", (y, w) -> y.forces(w));
    }

    private static void drops() {
        says(7, "DROPPED: how many WORDS there are. -1.");
        words(16);
        due("drops(15)", x.drops(15), 15);
        due("drops(15)", x.drops(15), -1);
        for (int left = 14; left >= 0; left--) {
            due("drops(0)", x.drops(0), left);
        }
        due("drops(0)", x.drops(0), -1);
        refusesWords("drops", (y, w) -> y.drops(w));
    }

    private static void patterns() {
        says(8, "A PATTERN of LETTERS a, b (b -1: a alone), PLACE, VALUE: how many PATTERNS there are. -1 (a, b; PLACE); -4;"
            + " -6 (9; no room).");
        int[][] taken = {{0, -1, 0, 1}, {7, -1, 1, 9}, {0, 0, 0, 1}, {7, 7, 2, 9}, {0, 0, 1, 1}, {7, -1, 0, 9}};
        for (int i = 0; i < taken.length; i++) {
            int[] t = taken[i];
            due("patterns", x.patterns(t[0], t[1], t[2], t[3]), i + 1);
            due("pattern(" + i + ", 0)", x.pattern(i, 0), t[1] < 0 ? 1 : 2);
            due("pattern(" + i + ", 1)", x.pattern(i, 1), t[2]);
            due("pattern(" + i + ", 2)", x.pattern(i, 2), t[3]);
            due("pattern(" + i + ", 3)", x.pattern(i, 3), t[0]);
        }
        due("one that is there", x.patterns(7, 7, 2, 1), 6);
        due("the seventh", x.patterns(1, 1, 1, 1), 7);
        due("the eighth", x.patterns(2, 2, 2, 2), 8);
        due("the ninth", x.patterns(3, 3, 1, 1), -6);
        due("one that is there", x.patterns(2, 2, 2, 9), 8);
        patternsBeyond();
    }

    private static void patternsBeyond() {
        int[][] nobody = {{-1, -1, 0}, {8, -1, 0}, {0, -2, 0}, {0, 8, 0}, {0, -1, -1}, {0, -1, 2}, {0, 0, -1}, {0, 0, 3},
            {LEAST, 0, 0}, {GREATEST, 0, 0}, {0, LEAST, 0}, {0, GREATEST, 0}, {0, 0, LEAST}, {0, 0, GREATEST},
            {0, -1, LEAST}, {0, -1, GREATEST}};
        int[] values = {1, 0, 10};
        Page[] pages = {Page.USED, Page.FULL};
        for (Page page : pages) {
            on(page);
            for (int[] n : nobody) {
                for (int v : values) {
                    refuses(-1, "patterns(" + n[0] + ", " + n[1] + ", " + n[2] + ", " + v + ")",
                        y -> y.patterns(n[0], n[1], n[2], v));
                }
            }
            refuses(-4, "patterns(0, 1, 2, 0)", y -> y.patterns(0, 1, 2, 0));
            refuses(-4, "patterns(0, 1, 2, least)", y -> y.patterns(0, 1, 2, LEAST));
            refuses(-6, "patterns(0, 1, 2, 10)", y -> y.patterns(0, 1, 2, 10));
            refuses(-6, "patterns(0, 1, 2, greatest)", y -> y.patterns(0, 1, 2, GREATEST));
        }
        refuses(-4, "patterns(0, 1, 1, 0), full, one that is there", y -> y.patterns(0, 1, 1, 0));
        refuses(-6, "patterns(0, 1, 1, 10), full, one that is there", y -> y.patterns(0, 1, 1, 10));
        refuses(-6, "patterns(0, 1, 0, 1), full, another PLACE", y -> y.patterns(0, 1, 0, 1));
        refuses(-6, "patterns(0, -1, 1, 9), full, fewer LETTERS", y -> y.patterns(0, -1, 1, 9));
    }

    /** A call of one number: just below and far below, just above and far above. */
    private static void refusesBeyond(int below, int above, String call, CallOfWord c, int least, int greatest) {
        int[] less = {least - 1, LEAST};
        for (int n : less) {
            refuses(below, call + " of " + n, y -> c.to(y, n));
        }
        int[] more = {greatest + 1, GREATEST};
        for (int n : more) {
            refuses(above, call + " of " + n, y -> c.to(y, n));
        }
    }

    private static void line() {
        says(9, "LINE: the old. -4 10; -6 60.");
        due("line(10)", x.line(10), 30);
        due("count(3)", x.count(3), 10);
        due("line(60)", x.line(60), 10);
        due("count(3)", x.count(3), 60);
        refusesBeyond(-4, -6, "line", (y, n) -> y.line(n), 10, 60);
    }

    private static void glue() {
        says(10, "GLUE: 100 times wide, 10 times stretch, and shrink that were. -4 (wide 2; stretch, shrink 0); -6 (wide,"
            + " stretch above 9; shrink above wide).");
        due("glue(2, 0, 0)", x.glue(2, 0, 0), 321);
        due("glue(9, 9, 9)", x.glue(9, 9, 9), 200);
        due("glue(2, 9, 2)", x.glue(2, 9, 2), 999);
        due("glue(9, 0, 0)", x.glue(9, 0, 0), 292);
        due("glue(8, 1, 8)", x.glue(8, 1, 8), 900);
        int[][] below = {{1, 0, 0}, {2, -1, 0}, {2, 0, -1}, {1, 10, 0}, {1, 0, 10}, {10, -1, 0}, {10, 0, -1}, {9, 10, -1},
            {9, -1, 10}, {LEAST, GREATEST, GREATEST}, {GREATEST, LEAST, GREATEST}, {GREATEST, GREATEST, LEAST}};
        for (int[] g : below) {
            refuses(-4, "glue(" + g[0] + ", " + g[1] + ", " + g[2] + ")", y -> y.glue(g[0], g[1], g[2]));
        }
        int[][] above = {{10, 0, 0}, {2, 10, 0}, {2, 0, 3}, {9, 9, 10}, {8, 9, 9}, {GREATEST, 0, 0}, {2, GREATEST, 0},
            {2, 0, GREATEST}, {10, 0, 10}, {10, 10, 11}};
        for (int[] g : above) {
            refuses(-6, "glue(" + g[0] + ", " + g[1] + ", " + g[2] + ")", y -> y.glue(g[0], g[1], g[2]));
        }
    }

    private static void tolerance() {
        says(11, "TOLERANCE: the old. -4; -6 40.");
        due("tolerance(0)", x.tolerance(0), 12);
        due("tolerance(40)", x.tolerance(40), 0);
        due("tolerance(1)", x.tolerance(1), 40);
        refusesBeyond(-4, -6, "tolerance", (y, n) -> y.tolerance(n), 0, 40);
    }

    private static void hyphen() {
        says(12, "HYPHEN: the old. -4; -6 99.");
        due("hyphen(0)", x.hyphen(0), 50);
        due("hyphen(99)", x.hyphen(99), 0);
        due("hyphen(1)", x.hyphen(1), 99);
        refusesBeyond(-4, -6, "hyphen", (y, n) -> y.hyphen(n), 0, 99);
    }

    private static void widow() {
        says(13, "WIDOW: the old. -4; -6 9.");
        due("widow(0)", x.widow(0), 1);
        due("widow(9)", x.widow(9), 0);
        due("widow(1)", x.widow(1), 9);
        refusesBeyond(-4, -6, "widow", (y, n) -> y.widow(n), 0, 9);
    }

    private static void manner() {
        says(14, "MANNER: the old. -2.");
        due("manner(2)", x.manner(2), 0);
        due("manner(0)", x.manner(0), 2);
        due("manner(1)", x.manner(1), 0);
        refusesBeyond(-2, -2, "manner", (y, n) -> y.manner(n), 0, 2);
    }

    private static void kind() {
        says(15, "KIND, FIGURE become others: 10 times the KIND and the FIGURE that were. -2; -4; -6 9.");
        due("kind(0, 9)", x.kind(0, 9), 0);
        due("kind(5, 0)", x.kind(5, 0), 9);
        due("kind(5, 9)", x.kind(5, 9), 50);
        due("kind(0, 0)", x.kind(0, 0), 59);
        int[] kinds = {-1, 6, LEAST, GREATEST};
        int[] figures = {0, 9, -1, 10, LEAST, GREATEST};
        for (int k : kinds) {
            for (int f : figures) {
                refuses(-2, "kind(" + k + ", " + f + ")", y -> y.kind(k, f));
            }
        }
        refusesBeyond(-4, -6, "kind 0 and the FIGURE", (y, n) -> y.kind(0, n), 0, 9);
        refusesBeyond(-4, -6, "kind 5 and the FIGURE", (y, n) -> y.kind(5, n), 0, 9);
    }

    private static void back() {
        says(16, "TAKEN BACK: how many can still be. -3.");
        x.line(20);
        due("one", x.back(), 0);
        for (int i = 0; i < 9; i++) {
            x.line(20);
        }
        for (int left = 7; left >= 0; left--) {
            due("of eight", x.back(), left);
        }
        on(Page.EMPTY);
        refuses(-3, "back(), a new object", y -> y.back());
        on(Page.KEPT);
        refuses(-3, "back(), behind on()", y -> y.back());
    }

    private static void word() {
        says(17, "Of a WORD: 0 how many LETTERS, 1 WIDTHS together, 2 FORCED (1, 0), 3 how many FRAGMENTS, 4 places (bits)"
            + " where a HYPHEN may be. -1; -2.");
        freshSheet("wa;wabcdefghabcd;n;pb11;pc11;");
        int[][] want = {{1, 3, 0, 1, 0}, {12, 41, 1, 4, 1 << 2 | 1 << 3 | 1 << 10}};
        for (int w = 0; w < 2; w++) {
            for (int what = 0; what < 5; what++) {
                due("word(" + w + ", " + what + ")", x.word(w, what), want[w][what]);
                int number = what;
                refusesWords("word " + what, (y, n) -> y.word(n, number));
            }
        }
        for (int far : FAR) {
            refusesWords("word " + far, (y, n) -> y.word(n, far));
        }
        refusesWords("word -1", (y, n) -> y.word(n, -1));
        refusesWords("word 5", (y, n) -> y.word(n, 5));
        refusesBeyond(-2, -2, "word(0, ..)", (y, n) -> y.word(0, n), 0, 4);
        refusesBeyond(-2, -2, "word(4, ..)", (y, n) -> y.word(4, n), 0, 4);
        looks("word(4, 4)", y -> y.word(4, 4));
    }

    private static void spelt() {
        says(18, "The i-th LETTER of a WORD (0 .. 7). -1 either.");
        freshSheet("wh;wabcdefghhgfa;");
        due("spelt(0, 0)", x.spelt(0, 0), 7);
        due("spelt(1, 0)", x.spelt(1, 0), 0);
        due("spelt(1, 7)", x.spelt(1, 7), 7);
        due("spelt(1, 11)", x.spelt(1, 11), 0);
        due("spelt(0, 1)", x.spelt(0, 1), -1);
        due("spelt(1, 12)", x.spelt(1, 12), -1);
        refusesWords("spelt 0", (y, w) -> y.spelt(w, 0));
        refusesWords("spelt -1", (y, w) -> y.spelt(w, -1));
        refusesBeyond(-1, -1, "spelt(0, ..)", (y, i) -> y.spelt(0, i), 0, 3);
        refusesBeyond(-1, -1, "spelt(3, ..)", (y, i) -> y.spelt(3, i), 0, 0);
        looks("spelt(4, 2)", y -> y.spelt(4, 2));
    }

    private static void values() {
        says(19, "The VALUE of a place (0 .. as many as it has LETTERS; there may be one where no HYPHEN can be). -1 either.");
        freshSheet("wa;wabcdefghabcd;pa09;pa18;pd17;");
        due("values(0, 0)", x.values(0, 0), 9);
        due("values(0, 1)", x.values(0, 1), 8);
        due("values(0, 2)", x.values(0, 2), -1);
        due("values(1, 0)", x.values(1, 0), 9);
        due("values(1, 12)", x.values(1, 12), 7);
        due("values(1, 13)", x.values(1, 13), -1);
        due("values(1, -1)", x.values(1, -1), -1);
        due("no HYPHEN there", x.word(1, 4), 1 << 4 | 1 << 8);
        x.kind(3, 0);
        due("a POEM: no HYPHEN", x.word(1, 4), 0);
        due("a POEM: the VALUE", x.values(1, 4), 7);
        refusesWords("values 0", (y, w) -> y.values(w, 0));
        refusesWords("values -1", (y, w) -> y.values(w, -1));
        refusesBeyond(-1, -1, "values(0, ..)", (y, p) -> y.values(0, p), 0, 4);
        refusesBeyond(-1, -1, "values(3, ..)", (y, p) -> y.values(3, p), 0, 1);
        looks("values(2, 6)", y -> y.values(2, 6));
    }

    private static void pattern() {
        says(20, "Of the i-th PATTERN (as they came): 0 how many LETTERS, 1 PLACE, 2 VALUE, 3 its first LETTER. -1; -2.");
        freshSheet("phba39;pa01;pgh22;pb13;pc14;pd15;pe16;pf17;");
        int[][] want = {{3, 3, 9, 7}, {1, 0, 1, 0}, {2, 2, 2, 6}, {1, 1, 3, 1}, {1, 1, 4, 2}, {1, 1, 5, 3}, {1, 1, 6, 4},
            {1, 1, 7, 5}};
        for (int i = 0; i < want.length; i++) {
            for (int what = 0; what < 4; what++) {
                due("pattern(" + i + ", " + what + ")", x.pattern(i, what), want[i][what]);
            }
        }
        Page[] pages = {Page.EMPTY, Page.USED, Page.KEPT, Page.FULL};
        int[] many = {0, 4, 2, 8};
        int[] whats = {0, 3, -1, 4};
        for (int k = 0; k < pages.length; k++) {
            on(pages[k]);
            for (int what : whats) {
                refusesBeyond(-1, -1, "pattern(.., " + what + ")", (y, i) -> y.pattern(i, what), 0, many[k] - 1);
            }
        }
        refusesBeyond(-2, -2, "pattern(0, ..)", (y, n) -> y.pattern(0, n), 0, 3);
        refusesBeyond(-2, -2, "pattern(7, ..)", (y, n) -> y.pattern(7, n), 0, 3);
        looks("pattern(7, 3)", y -> y.pattern(7, 3));
    }

    private static void lines() {
        says(21, "LINES (what 0; -9), HYPHENED (1; -9), WIDOWS (2; -9), LOOSEST (3; -9), TIGHTEST (4; -9), FRAGMENTS in all"
            + " (5). -2.");
        int[] nothing = {0, 0, 0, -9, -9, 0};
        int[] none = {-9, -9, -9, -9, -9, 3};
        int[] two = {2, 0, 1, 0, 0, 3};
        for (int what = 0; what < 6; what++) {
            fresh();
            due("no WORD: lines(" + what + ")", x.lines(what), nothing[what]);
            words(3);
            due("none: lines(" + what + ")", x.lines(what), none[what]);
            x.line(23);
            due("two LINES: lines(" + what + ")", x.lines(what), two[what]);
            int number = what;
            looks("lines(" + what + ")", y -> y.lines(number));
        }
        Page[] pages = {Page.EMPTY, Page.USED, Page.FULL};
        for (Page page : pages) {
            on(page);
            refusesBeyond(-2, -2, "lines", (y, n) -> y.lines(n), 0, 5);
        }
    }

    private static void lineOf() {
        says(22, "Of the i-th LINE: 0 FRAGMENT it begins with, 1 how many FRAGMENTS, 2 NATURAL, 3 WORDS, 4 its last END (0"
            + " GLUE, 1 HYPHEN, 2 FORCED, 3 LAST). -1; -2.");
        freshSheet("paa21;wccb;waaccb;wccb;n;waaaa;l10;");
        x.widens(0, 4);
        int[][] want = {{0, 1, 10, 1, 0}, {1, 1, 10, 1, 1}, {2, 1, 10, 1, 0}, {3, 1, 10, 1, 2}, {4, 1, 10, 1, 1},
            {5, 1, 8, 1, 3}};
        for (int i = 0; i < want.length; i++) {
            for (int what = 0; what < 5; what++) {
                due("lineOf(" + i + ", " + what + ")", x.lineOf(i, what), want[i][what]);
            }
        }
        due("lineOf(6, 0)", x.lineOf(6, 0), -1);
        due("lineOf(0, 5)", x.lineOf(0, 5), -2);
        due("lineOf(5, -1)", x.lineOf(5, -1), -2);
        due("lineOf(6, 5)", x.lineOf(6, 5), -1);
        x.line(11);
        due("lines(0)", x.lines(0), -9);
        due("none: lineOf(0, 0)", x.lineOf(0, 0), -1);
        due("none: lineOf(0, 5)", x.lineOf(0, 5), -1);
        fresh();
        words(16);
        x.line(10);
        due("sixteen LINES: the last", x.lineOf(15, 0), 15);
        due("sixteen LINES: beyond", x.lineOf(16, 0), -1);
        Page[] pages = {Page.EMPTY, Page.USED, Page.FULL};
        int[] whats = {0, 4, -1, 5};
        for (Page page : pages) {
            on(page);
            x = made();
            int many = Math.max(0, x.lines(0));
            for (int what : whats) {
                refusesBeyond(-1, -1, "lineOf(.., " + what + ")", (y, i) -> y.lineOf(i, what), 0, many - 1);
            }
            if (many > 0) {
                refusesBeyond(-2, -2, "lineOf(" + (many - 1) + ", ..)", (y, n) -> y.lineOf(many - 1, n), 0, 4);
            }
            looks("lineOf(0, 2)", y -> many > 0 ? y.lineOf(0, 2) : 0);
        }
    }

    /** 0 beyond the LINES there are, and nothing is refused. */
    private static void asksBeyondLines(String call, CallOfWord c) {
        Page[] pages = {Page.EMPTY, Page.USED, Page.FULL};
        for (Page page : pages) {
            on(page);
            x = made();
            int[] beyond = {-1, Math.max(0, x.lines(0)), LEAST, GREATEST};
            for (int i : beyond) {
                asks(0, call + "(" + i + ")", y -> c.to(y, i));
            }
            looks(call + "(0)", y -> c.to(y, 0));
        }
        fresh();
        words(3);
        due("none: " + call + "(0)", c.to(x, 0), 0);
        due("nothing is refused", x.count(11), 0);
    }

    /** Two LINES "abc abc", one wider than LINE, and one "abc". */
    private static void threeLines() {
        fresh();
        words(5);
        x.line(22);
    }

    private static void ratio() {
        says(23, "Bits of RATIO of the i-th LINE; 0.");
        threeLines();
        dueFloat("ratio(0)", x.ratio(0), -1.0f);
        dueFloat("ratio(1)", x.ratio(1), -1.0f);
        due("ratio(2)", x.ratio(2), 0);
        due("ratio(3)", x.ratio(3), 0);
        asksBeyondLines("ratio", (y, i) -> y.ratio(i));
    }

    private static void badness() {
        says(24, "Bits of BADNESS; 0.");
        threeLines();
        dueFloat("badness(0)", x.badness(0), 100.0f);
        dueFloat("badness(1)", x.badness(1), 100.0f);
        due("badness(2)", x.badness(2), 0);
        due("badness(3)", x.badness(3), 0);
        asksBeyondLines("badness", (y, i) -> y.badness(i));
    }

    private static void demerits() {
        says(25, "Bits of DEMERITS; 0.");
        threeLines();
        dueFloat("demerits(0)", x.demerits(0), 10201.0f);
        dueFloat("demerits(1)", x.demerits(1), 10201.0f);
        dueFloat("demerits(2)", x.demerits(2), 1001.0f);
        due("demerits(3)", x.demerits(3), 0);
        asksBeyondLines("demerits", (y, i) -> y.demerits(i));
    }

    private static void total() {
        says(26, "Bits of TOTAL (n 0), BY n LINES (1 .. 20); 0 there is none.");
        threeLines();
        dueFloat("total(0)", x.total(0), 10201.0f + 10201.0f + 1001.0f);
        dueFloat("total(3)", x.total(3), 10201.0f + 10201.0f + 1001.0f);
        int[] none = {1, 2, 4, 5, 19, 20, 21, 32, -1, LEAST, GREATEST};
        for (int n : none) {
            due("total(" + n + ")", x.total(n), 0);
        }
        Page[] pages = {Page.EMPTY, Page.USED, Page.FULL};
        for (Page page : pages) {
            on(page);
            for (int i = 2; i < none.length; i++) {
                int n = none[i];
                if (n < 1 || n > 20) {
                    asks(0, "total(" + n + ")", y -> y.total(n));
                } else {
                    looks("total(" + n + ")", y -> y.total(n));
                }
            }
            looks("total(0)", y -> y.total(0));
        }
        on(Page.EMPTY);
        asks(0, "total(0)", y -> y.total(0));
    }

    private static void firstFit() {
        says(27, "FIRST FIT; -9.");
        due("no WORD", x.firstFit(), 0);
        words(3);
        due("none", x.firstFit(), -9);
        x.line(23);
        due("two", x.firstFit(), 2);
        looks("firstFit()", y -> y.firstFit());
        on(Page.FULL);
        looks("firstFit()", y -> y.firstFit());
    }

    private static void with() {
        says(28, "WITH LINE n; -9. -4 10; -6 60.");
        words(5);
        due("with(10)", x.with(10), 5);
        due("with(11)", x.with(11), -9);
        due("with(60)", x.with(60), 1);
        refusesBeyond(-4, -6, "with", (y, n) -> y.with(n), 10, 60);
        looks("with(10)", y -> y.with(10));
        looks("with(60)", y -> y.with(60));
        on(Page.FULL);
        looks("with(40)", y -> y.with(40));
    }

    private static void narrowest() {
        says(29, "NARROWEST; -9. -4 1; -6 20.");
        words(5);
        due("narrowest(1): 62 shrinks by 4", x.narrowest(1), 58);
        due("narrowest(20)", x.narrowest(20), 10);
        words(4);
        due("narrowest(1)", x.narrowest(1), -9);
        due("narrowest(20)", x.narrowest(20), 10);
        refusesBeyond(-4, -6, "narrowest", (y, n) -> y.narrowest(n), 1, 20);
        looks("narrowest(1)", y -> y.narrowest(1));
        looks("narrowest(20)", y -> y.narrowest(20));
    }

    private static void without() {
        says(30, "WITHOUT: LINES (what 0; -9), bits of TOTAL (1; 0). -1; -2.");
        words(4);
        due("without(0, 0): none", x.without(0, 0), -9);
        due("without(3, 1): none", x.without(3, 1), 0);
        x.line(23);
        due("without(0, 0)", x.without(0, 0), 2);
        dueFloat("without(3, 1)", x.without(3, 1), 1.0f + 1001.0f);
        int[] whats = {0, 1, -1, 2, LEAST, GREATEST};
        for (int what : whats) {
            refusesWords("without .. " + what, (y, w) -> y.without(w, what));
        }
        for (int w = 0; w < 5; w += 4) {
            int word = w;
            refusesBeyond(-2, -2, "without(" + w + ", ..)", (y, n) -> y.without(word, n), 0, 1);
            looks("without(" + w + ", 0)", y -> y.without(word, 0));
            looks("without(" + w + ", 1)", y -> y.without(word, 1));
        }
        on(Page.FULL);
        looks("without(15, 0)", y -> y.without(15, 0));
    }

    private static void worst() {
        says(31, "WORST; -9.");
        due("no WORD", x.worst(), -9);
        words(2);
        due("none is less", x.worst(), -9);
        words(1);
        due("the first", x.worst(), 0);
        looks("worst()", y -> y.worst());
        on(Page.FULL);
        looks("worst()", y -> y.worst());
    }

    private static void manners() {
        says(32, "MANNERS; -9.");
        due("no WORD", x.manners(), 0);
        words(3);
        due("none", x.manners(), -9);
        x.line(23);
        due("alike", x.manners(), 0);
        looks("manners()", y -> y.manners());
        on(Page.FULL);
        looks("manners()", y -> y.manners());
    }

    private static void two() {
        says(33, "TWO; -9. -4 10 either; -6 60 either.");
        words(4);
        due("two(10, 60)", x.two(10, 60), 1);
        due("two(60, 10)", x.two(60, 10), 0);
        due("two(10, 10)", x.two(10, 10), -9);
        due("two(60, 60)", x.two(60, 60), -9);
        int[][] below = {{9, 10}, {10, 9}, {9, 9}, {9, 61}, {61, 9}, {LEAST, 60}, {60, LEAST}, {LEAST, GREATEST},
            {GREATEST, LEAST}};
        for (int[] t : below) {
            refuses(-4, "two(" + t[0] + ", " + t[1] + ")", y -> y.two(t[0], t[1]));
        }
        int[][] above = {{61, 60}, {60, 61}, {61, 61}, {10, 61}, {61, 10}, {GREATEST, 10}, {10, GREATEST}};
        for (int[] t : above) {
            refuses(-6, "two(" + t[0] + ", " + t[1] + ")", y -> y.two(t[0], t[1]));
        }
        looks("two(10, 60)", y -> y.two(10, 60));
    }

    private static void lost() {
        says(34, "LOST, part 0 above, 1 below the line. Refused as told: -4 (n; t below 2); -6 20 either; -2.");
        words(1);
        due("lost(0, 2, 0)", x.lost(0, 2, 0), 1);
        due("lost(0, 2, 1)", x.lost(0, 2, 1), 2);
        due("lost(0, 20, 1)", x.lost(0, 20, 1), 20);
        due("lost(20, 20, 0)", x.lost(20, 20, 0), 1);
        due("lost(20, 2, 1)", x.lost(20, 2, 1), 1);
        int[] parts = {0, 1, -1, 2, LEAST, GREATEST};
        int[][] below = {{-1, 2}, {0, 1}, {-1, 1}, {-1, 21}, {21, 1}, {LEAST, 2}, {0, LEAST}, {0, 0}, {GREATEST, LEAST},
            {LEAST, GREATEST}};
        int[][] above = {{21, 2}, {0, 21}, {21, 21}, {20, 21}, {21, 20}, {GREATEST, 2}, {0, GREATEST}};
        for (int part : parts) {
            for (int[] b : below) {
                refusesLong(-4, "lost(" + b[0] + ", " + b[1] + ", " + part + ")", y -> y.lost(b[0], b[1], part));
            }
            for (int[] a : above) {
                refusesLong(-6, "lost(" + a[0] + ", " + a[1] + ", " + part + ")", y -> y.lost(a[0], a[1], part));
            }
            if (part != 0 && part != 1) {
                refusesLong(-2, "lost(0, 2, " + part + ")", y -> y.lost(0, 2, part));
                refusesLong(-2, "lost(20, 20, " + part + ")", y -> y.lost(20, 20, part));
            } else {
                looks("lost(1, 3, " + part + ")", y -> y.lost(1, 3, part));
            }
        }
    }

    private static void mean() {
        says(35, "MEAN. Refused as told: -2.");
        words(1);
        due("mean(0)", x.mean(0), 10);
        due("mean(1)", x.mean(1), 1);
        int[] beyond = {-1, 2, LEAST, GREATEST};
        Page[] pages = {Page.EMPTY, Page.USED, Page.FULL};
        for (Page page : pages) {
            on(page);
            for (int part : beyond) {
                refusesLong(-2, "mean(" + part + ")", y -> y.mean(part));
            }
            looks("mean(0)", y -> y.mean(0));
            looks("mean(1)", y -> y.mean(1));
        }
    }

    private static void whatIs() {
        says(36, "WHAT KIND by the ROW (it stays): KINDS (what 0, bits), FIGURES (1). -2.");
        due("no number: KINDS", x.whatIs(0), 63);
        due("no number: FIGURES", x.whatIs(1), 1023);
        words(1);
        for (int i = 0; i < 16; i++) {
            x.row(1);
        }
        due("sixteen numbers: KINDS", x.whatIs(0), 63);
        due("sixteen numbers: FIGURES", x.whatIs(1), 1023);
        due("it stays", x.count(6), 16);
        Page[] pages = {Page.EMPTY, Page.USED, Page.FULL};
        for (Page page : pages) {
            on(page);
            refusesBeyond(-2, -2, "whatIs", (y, n) -> y.whatIs(n), 0, 1);
            looks("whatIs(0)", y -> y.whatIs(0));
            looks("whatIs(1)", y -> y.whatIs(1));
        }
    }

    private static void row() {
        says(37, "A number more of the ROW (0 .. 99): how many. -4; -6 (99; 16, too).");
        due("row(0)", x.row(0), 1);
        due("row(99)", x.row(99), 2);
        for (int i = 3; i <= 16; i++) {
            due("row", x.row(1), i);
        }
        due("the seventeenth", x.row(1), -6);
        due("clear", x.clear(), 16);
        due("the first again", x.row(1), 1);
        refusesBeyond(-4, -6, "row", (y, v) -> y.row(v), 0, 99);
        on(Page.FULL);
        refusesBeyond(-4, -6, "row, full,", (y, v) -> y.row(v), 0, 99);
        refuses(-6, "row(0), full", y -> y.row(0));
        refuses(-6, "row(99), full", y -> y.row(99));
    }

    private static void judge() {
        says(38, "JUDGED; -9 (whichever it answers, the ROW has none then).");
        due("none told, no LINES", x.judge(), -9);
        words(2);
        x.row(0);
        due("all so", x.judge(), -9);
        due("the ROW has none", x.count(6), 0);
        x.row(0);
        x.row(1);
        due("one too many", x.judge(), 1);
        due("the ROW has none", x.count(6), 0);
        due("none told, one LINE", x.judge(), 0);
        for (int i = 0; i < 16; i++) {
            x.row(0);
        }
        due("fifteen too many", x.judge(), 1);
        due("room for the first again", x.row(0), 1);
        due("the numbers that were are none", x.judge(), -9);
        on(Page.USED);
        asks(3, "judge, and the ROW again", y -> {
            y.judge();
            y.row(3);
            y.row(2);
            return y.count(6) + 1;
        });
    }

    private static void clear() {
        says(39, "The ROW has none then: how many it had.");
        due("none", x.clear(), 0);
        x.row(5);
        due("one", x.clear(), 1);
        due("count(6)", x.count(6), 0);
        for (int i = 0; i < 17; i++) {
            x.row(0);
        }
        due("sixteen", x.clear(), 16);
        due("none", x.clear(), 0);
        due("of none all is so", x.whatIs(0), 63);
        due("judge of none", x.judge(), -9);
        asks(2, "clear, and the ROW again", y -> {
            int had = y.clear();
            y.row(3);
            y.row(2);
            return had;
        });
    }

    private static void lots() {
        says(40, "LOTS: LINES (what 0), how many have none (1). -4; -6 20; -2.");
        words(1);
        due("one paragraph", x.lots(1, 9, 0), 1);
        due("twenty paragraphs", x.lots(20, 9, 0), 20);
        due("none has none", x.lots(20, 9, 1), 0);
        int[] whats = {0, 1, -1, 2, LEAST, GREATEST};
        int[] seeds = {0, LEAST, GREATEST};
        for (int z : seeds) {
            for (int what : whats) {
                refusesBeyond(-4, -6, "lots(.., " + z + ", " + what + ")", (y, n) -> y.lots(n, z, what), 1, 20);
            }
            refusesBeyond(-2, -2, "lots(1, " + z + ", ..)", (y, what) -> y.lots(1, z, what), 0, 1);
            refusesBeyond(-2, -2, "lots(20, " + z + ", ..)", (y, what) -> y.lots(20, z, what), 0, 1);
            looks("lots(20, " + z + ", 0)", y -> y.lots(20, z, 0));
            looks("lots(20, " + z + ", 1)", y -> y.lots(20, z, 1));
        }
        due("the seed is of the call alone", x.lots(1, 9, 0), 1);
    }

    private static void image() {
        says(41, "THE IMAGE is taken: how many WORDS.");
        due("none", x.image(), 0);
        words(16);
        due("sixteen", x.image(), 16);
        due("it leaves what can be taken back", x.count(5), 8);
        x.drops(0);
        due("fifteen", x.image(), 15);
        on(Page.KEPT);
        looks("image() of what it is", y -> y.image());
    }

    private static void on() {
        says(42, "ON from it: how many WORDS. -3 there is none.");
        due("none", x.on(), -3);
        words(16);
        due("none", x.on(), -3);
        due("nothing changed", x.count(0), 16);
        x.image();
        x.drops(0);
        due("on", x.on(), 16);
        due("on", x.on(), 16);
        on(Page.EMPTY);
        refuses(-3, "on()", y -> y.on());
        due("sixteen of it", x.count(0), 16);
        fresh();
        words(2);
        x.line(40);
        due("on(), two WORDS to take back", x.on(), -3);
        due("count(5)", x.count(5), 3);
        due("back", x.back(), 2);
    }

    private static void count() {
        says(43, "0 WORDS, 1 PATTERNS, 2 LETTERS of all WORDS, 3 LINE, 4 KIND, 5 what can be TAKEN BACK, 6 in the ROW, 7"
            + " letters, 11 .. 16 REFUSALS -1 .. -6. -9 for another what.");
        on(Page.USED);
        int[] used = {5, 4, 16, 26, 5, 8, 2, 3, -9, -9, -9, 1, 1, 0, 1, 0, 1, -9};
        for (int what = 0; what < used.length; what++) {
            int number = what;
            asks(used[what], "count(" + what + ")", y -> y.count(number));
        }
        on(Page.FULL);
        int[] full = {16, 8, 48, 30, 0, 8, 16, 96, -9, -9, -9, 0, 0, 0, 0, 0, 0, -9};
        for (int what = 0; what < full.length; what++) {
            int number = what;
            asks(full[what], "count(" + what + ")", y -> y.count(number));
        }
        int[] others = {-1, 8, 10, 17, 18, 20, LEAST, GREATEST, -11, -16};
        for (int what : others) {
            asks(-9, "count(" + what + ")", y -> y.count(what));
        }
        fresh();
        for (int i = 0; i < 16; i++) {
            dueSheet("waaaaaaaaaaaa;", 1);
        }
        due("as many LETTERS as can be", x.count(2), 192);
    }
}
