/** The sentences of part I. of the document, each by calls just on and just beyond what it names. */
final class EdgesOfPartOne extends Desk {
    private EdgesOfPartOne() {
    }

    static void all() {
        lastCall();
        widths();
        wordsAtMost();
        lettersOfWords();
        forcedOrNot();
        patternsAtMost();
        patternsLeastAndGreatest();
        patternsThatAreThere();
        numbersByCallsAndSheets();
        glueLeastAndGreatest();
        kindsAndFigures();
        stretches();
        shrinks();
        hyphensByKinds();
        penalties();
        placesOfHyphens();
        valuesOfPlaces();
        fragments();
        ends();
        linesFromBreakToBreak();
        natural();
        ratioOfNothing();
        ratios();
        ratiosOfNoGlue();
        fitsByTolerance();
        fitsByShrinking();
        badness();
        demeritsByManners();
        demeritsOfHyphens();
        demeritsOfWidows();
        bests();
        withoutWords();
    }

    private static void lastCall() {
        says("An object is used for at most 512 calls after it has been made; what later calls answer is free.");
        for (int i = 1; i <= 511; i++) {
            x.line(10 + i % 51);
        }
        due("count(3), call 512", x.count(3), 10 + 511 % 51);
        fresh();
        for (int i = 1; i <= 511; i++) {
            x.line(9);
        }
        due("count(14), call 512", x.count(14), 511);
        fresh();
        for (int i = 1; i <= 511; i++) {
            x.letter('a');
        }
        due("count(16), call 512", x.count(16), 511 - 96);
    }

    private static void widths() {
        says("LETTERS a .. h, each with a WIDTH (2 .. 9; 3 4 3 4 3 2 4 4 at first).");
        int[] first = {3, 4, 3, 4, 3, 2, 4, 4};
        for (int a = 0; a < 8; a++) {
            due("adds(" + a + ", -1, -1)", x.adds(a, -1, -1), a);
            due("word(" + a + ", 1) at first", x.word(a, 1), first[a]);
        }
        for (int a = 0; a < 8; a++) {
            due("widens(" + a + ", 2)", x.widens(a, 2), first[a]);
            due("widens(" + a + ", 9)", x.widens(a, 9), 2);
            due("widens(" + a + ", 1)", x.widens(a, 1), -4);
            due("widens(" + a + ", 10)", x.widens(a, 10), -6);
            due("word(" + a + ", 1)", x.word(a, 1), 9);
        }
        due("widens(-1, 2)", x.widens(-1, 2), -1);
        due("widens(8, 2)", x.widens(8, 2), -1);
        dueSheet("w`;", -1001);
        dueSheet("wi;", -1001);
        dueSheet("wa;wh;", 2);
    }

    private static void wordsAtMost() {
        says("WORDS 0 .. as they come (16 at most), 1 .. 12 LETTERS each,");
        due("word(0, 0), no WORD", x.word(0, 0), -1);
        for (int i = 0; i < 15; i++) {
            due("adds", x.adds(i % 8, -1, -1), i);
        }
        dueSheet("wa;wb;", -2003);
        due("count(0)", x.count(0), 15);
        due("the sixteenth", x.adds(7, -1, -1), 15);
        due("the seventeenth", x.adds(0, -1, -1), -6);
        dueSheet("wa;", -2000);
        due("count(0)", x.count(0), 16);
        due("spelt(15, 0)", x.spelt(15, 0), 7);
        due("word(16, 0)", x.word(16, 0), -1);
        due("drops(15)", x.drops(15), 15);
        due("room for one again", sheet("wb;"), 1);
        due("spelt(15, 0)", x.spelt(15, 0), 1);
        fresh();
        for (int i = 0; i < 16; i++) {
            dueSheet("wc;", 1);
        }
        dueSheet("wc;", -2000);
        due("adds, full by sheets", x.adds(0, -1, -1), -6);
    }

    private static void lettersOfWords() {
        says("1 .. 12 LETTERS each");
        dueSheet("w;", -1001);
        dueSheet("wh;", 1);
        due("one LETTER", x.word(0, 0), 1);
        dueSheet("wabcdefghabch;", 1);
        due("twelve LETTERS", x.word(1, 0), 12);
        due("the twelfth", x.spelt(1, 11), 7);
        due("no thirteenth", x.spelt(1, 12), -1);
        dueSheet("wabcdefghabcda;", -1013);
        due("count(2)", x.count(2), 13);
    }

    private static void forcedOrNot() {
        says("FORCED (a break must be behind it) or not (not at first).");
        x.line(60);
        words(2);
        sheet("wa;");
        for (int i = 0; i < 3; i++) {
            due("word(" + i + ", 2) at first", x.word(i, 2), 0);
        }
        due("no break must be", x.lines(0), 1);
        x.forces(0);
        due("a break behind the first", x.lines(0), 2);
        x.forces(1);
        due("and behind the second", x.lines(0), 3);
        x.forces(2);
        due("behind the last there is one", x.lines(0), 3);
        x.drops(2);
        x.adds(0, -1, -1);
        due("a WORD that comes where a FORCED one was", x.word(2, 2), 0);
        x.drops(1);
        due("WORDS that come ahead", x.word(1, 2), 0);
        x.forces(1);
        x.back();
        due("taken back", x.word(1, 2), 0);
    }

    private static void patternsAtMost() {
        says("PATTERNS as they come (8 at most): 1 .. 3 LETTERS, a PLACE (0 .. as many as it has LETTERS),"
            + " a VALUE (1 .. 9);");
        due("pattern(0, 0), no PATTERN", x.pattern(0, 0), -1);
        for (int i = 0; i < 7; i++) {
            due("patterns", x.patterns(i, -1, 0, 1), i + 1);
        }
        dueSheet("ph01;ph11;", -2005);
        due("count(1)", x.count(1), 7);
        due("the eighth", x.patterns(7, 7, 2, 9), 8);
        due("the ninth", x.patterns(7, 7, 1, 9), -6);
        dueSheet("phh19;", -2000);
        due("pattern(7, 1)", x.pattern(7, 1), 2);
        due("pattern(8, 1)", x.pattern(8, 1), -1);
        due("count(1)", x.count(1), 8);
    }

    private static void patternsLeastAndGreatest() {
        says("1 .. 3 LETTERS, a PLACE (0 .. as many as it has LETTERS), a VALUE (1 .. 9);");
        dueSheet("p11;", -1001);
        dueSheet("pa01;pa11;pab01;pab29;pabc01;pabc39;", 6);
        dueSheet("pabcd11;", -1004);
        int[][] told = {{1, 0, 1}, {1, 1, 1}, {2, 0, 1}, {2, 2, 9}, {3, 0, 1}, {3, 3, 9}};
        for (int i = 0; i < told.length; i++) {
            for (int what = 0; what < 3; what++) {
                due("pattern(" + i + ", " + what + ")", x.pattern(i, what), told[i][what]);
            }
        }
        String[] beyond = {"pa21;", "pab31;", "pabc41;", "pa00;", "pab10;", "pabc30;", "pabc90;", "pa91;"};
        for (String fault : beyond) {
            dueSheet(fault, -2000);
        }
        due("patterns(0, -1, 2, 1)", x.patterns(0, -1, 2, 1), -1);
        due("patterns(0, 1, 3, 1)", x.patterns(0, 1, 3, 1), -1);
        due("patterns(0, -1, -1, 1)", x.patterns(0, -1, -1, 1), -1);
        due("patterns(0, -1, 1, 0)", x.patterns(0, -1, 1, 0), -4);
        due("patterns(0, -1, 1, 10)", x.patterns(0, -1, 1, 10), -6);
        due("count(1)", x.count(1), 6);
        due("pattern(1, 2)", x.pattern(1, 2), 1);
    }

    private static void patternsThatAreThere() {
        says("one with LETTERS and PLACE of one that is there takes its place.");
        freshSheet("pab11;pa11;pab21;pba11;pabc11;pb11;pc11;");
        due("the same by a call", x.patterns(0, 1, 1, 8), 7);
        due("its VALUE", x.pattern(0, 2), 8);
        due("another PLACE of the same LETTERS", x.pattern(2, 2), 1);
        due("other LETTERS of the same PLACE", x.pattern(1, 2), 1);
        due("LETTERS the other way round", x.pattern(3, 2), 1);
        due("more LETTERS", x.pattern(4, 2), 1);
        dueSheet("pabc12;pb13;", 2);
        due("the same by a sheet", x.pattern(4, 2), 2);
        due("the same by a sheet", x.pattern(5, 2), 3);
        due("no more of them", x.count(1), 7);
        due("a new PLACE is one more", x.patterns(0, -1, 0, 4), 8);
        due("one that is there needs no room", x.patterns(2, -1, 1, 5), 8);
        dueSheet("pc16;pab17;", 2);
        due("pattern(6, 2)", x.pattern(6, 2), 6);
        due("pattern(0, 2)", x.pattern(0, 2), 7);
        dueSheet("pabc13;pabc21;", -2007);
        due("with a FAULT nothing comes", x.pattern(4, 2), 2);
        due("pattern(7, 1)", x.pattern(7, 1), 0);
    }

    /** The number by a call; it answers the old one. */
    private static long change(char head, int n) {
        switch (head) {
            case 'l': return x.line(n);
            case 't': return x.tolerance(n);
            case 'h': return x.hyphen(n);
            case 'o': return x.widow(n);
            default: return x.manner(n);
        }
    }

    private static void numbersByCallsAndSheets() {
        says("LINE (10 .. 60; 30 at first).");
        number('l', 10, 60, 30, "l10;", "l60;", "l09;", "l61;", "l00;", "l99;");
        says("TOLERANCE (0 .. 40 fourths; 12 at first).");
        number('t', 0, 40, 12, "t00;", "t40;", "t41;", "t99;");
        says("HYPHEN (a penalty, 0 .. 99; 50 at first).");
        number('h', 0, 99, 50, "h00;", "h99;");
        says("WIDOW (0 .. 9; 1 at first).");
        number('o', 0, 9, 1, "o0;", "o9;");
        says("MANNER (0 .. 2; 0 at first).");
        number('m', 0, 2, 0, "m0;", "m2;", "m3;", "m9;");
    }

    private static void number(char head, int least, int greatest, int first, String... sheets) {
        boolean isManner = head == 'm';
        due("the least", change(head, least), first);
        due("the greatest", change(head, greatest), least);
        due("below the least", change(head, least - 1), isManner ? -2 : -4);
        due("far below", change(head, LEAST), isManner ? -2 : -4);
        due("above the greatest", change(head, greatest + 1), isManner ? -2 : -6);
        due("far above", change(head, GREATEST), isManner ? -2 : -6);
        dueSheet(sheets[0], 1);
        due("the least by a sheet", change(head, greatest), least);
        change(head, least);
        dueSheet(sheets[1], 1);
        due("the greatest by a sheet", change(head, least), greatest);
        for (int i = 2; i < sheets.length; i++) {
            dueSheet("pa11;" + sheets[i], -2005);
            dueSheet(sheets[i], -2000);
        }
        due("as it was before the faults", change(head, first), least);
    }

    private static void glueLeastAndGreatest() {
        says("GLUE: wide (2 .. 9; 3 at first), stretch (0 .. 9; 2), shrink (0 .. 9, not above wide; 1).");
        due("the least", x.glue(2, 0, 0), 321);
        due("the greatest", x.glue(9, 9, 9), 200);
        due("shrink as wide", x.glue(2, 0, 2), 999);
        due("wide below", x.glue(1, 0, 0), -4);
        due("stretch below", x.glue(2, -1, 0), -4);
        due("shrink below", x.glue(2, 0, -1), -4);
        due("wide above", x.glue(10, 0, 0), -6);
        due("stretch above", x.glue(2, 10, 0), -6);
        due("shrink above wide", x.glue(2, 0, 3), -6);
        due("shrink above all", x.glue(9, 0, 10), -6);
        dueSheet("g200;", 1);
        due("the least by a sheet", x.glue(3, 2, 1), 200);
        dueSheet("g999;", 1);
        due("the greatest by a sheet", x.glue(3, 2, 1), 999);
        dueSheet("g898;", 1);
        String[] beyond = {"g100;", "g099;", "g190;", "g203;", "g899;", "g000;"};
        for (String fault : beyond) {
            dueSheet(fault, -2000);
        }
        due("as it was before the faults", x.glue(3, 2, 1), 898);
    }

    private static void kindsAndFigures() {
        says("KIND of the paragraph, FIGURE (0 .. 9): 0 JUSTIFIED (at first, FIGURE 0); 1 RAGGED under JUSTIFIED;"
            + " 2 TIGHT under JUSTIFIED; 3 POEM under RAGGED; 4 NOTE under TIGHT; 5 LOOSE under RAGGED.");
        due("count(4) at first", x.count(4), 0);
        int old = 0;
        for (int kind = 0; kind <= 5; kind++) {
            due("kind(" + kind + ", 0)", x.kind(kind, 0), old);
            due("kind(" + kind + ", 9)", x.kind(kind, 9), 10 * kind);
            due("count(4)", x.count(4), kind);
            old = 10 * kind + 9;
        }
        due("kind(-1, 0)", x.kind(-1, 0), -2);
        due("kind(6, 0)", x.kind(6, 0), -2);
        due("kind(0, -1)", x.kind(0, -1), -4);
        due("kind(0, 10)", x.kind(0, 10), -6);
        dueSheet("k00;", 1);
        due("the least by a sheet", x.kind(1, 1), 0);
        dueSheet("k59;", 1);
        dueSheet("k60;", -2000);
        dueSheet("k99;", -2000);
        due("the greatest by a sheet", x.kind(1, 1), 59);
    }

    private static void stretches() {
        says("STRETCHES (each GLUE): JUSTIFIED: stretch; RAGGED FIGURE more; LOOSE twice a RAGGED one's.");
        words(4);
        x.tolerance(40);
        int[] ends = {0, 9};
        for (int stretch : ends) {
            x.glue(3, stretch, 1);
            for (int figure : ends) {
                int more = stretch + figure;
                int[] want = {stretch, more, stretch, more, stretch, 2 * more};
                for (int kind = 0; kind < 6; kind++) {
                    x.kind(kind, figure);
                    String call = "KIND " + kind + " FIGURE " + figure + " stretch " + stretch;
                    due("lines(0) of " + call, x.lines(0), want[kind] == 0 ? -9 : 2);
                    // "abc abc" is 7 short of 30
                    dueFloat("ratio(0) of " + call, x.ratio(0), want[kind] == 0 ? 0.0f : 7.0f / want[kind]);
                }
            }
        }
    }

    private static void shrinks() {
        says("SHRINKS: JUSTIFIED: shrink; TIGHT 1 more, not above wide; NOTE a TIGHT one's.");
        words(4);
        int[][] glues = {{3, 0, 1}, {3, 2, 3}, {3, 3, 3}, {2, 1, 2}, {2, 2, 2}, {9, 8, 9}, {9, 9, 9}};
        for (int[] g : glues) {
            x.glue(g[0], 2, g[1]);
            x.line(20 + g[0] - 1);
            int[] want = {g[1], g[1], g[2], g[1], g[2], g[1]};
            for (int kind = 0; kind < 6; kind++) {
                x.kind(kind, 9);
                String call = "KIND " + kind + " wide " + g[0] + " shrink " + g[1];
                due("lines(0) of " + call, x.lines(0), want[kind] == 0 ? -9 : 2);
                dueFloat("ratio(0) of " + call, x.ratio(0), want[kind] == 0 ? 0.0f : -1.0f / want[kind]);
            }
        }
    }

    private static void hyphensByKinds() {
        says("HYPHENS: JUSTIFIED: by PATTERNS; POEM: none; NOTE: only in WORDS of more than FIGURE LETTERS.");
        freshSheet("pa11;waaaa;waaaaa;waaaaaaaaa;waaaaaaaaaa;");
        int[] lengths = {4, 5, 9, 10};
        int[] figures = {0, 3, 4, 5, 8, 9};
        for (int figure : figures) {
            for (int kind = 0; kind < 6; kind++) {
                x.kind(kind, figure);
                for (int w = 0; w < lengths.length; w++) {
                    boolean none = kind == 3 || kind == 4 && lengths[w] <= figure;
                    due("fragments of " + lengths[w] + " LETTERS, KIND " + kind + ", FIGURE " + figure, x.word(w, 3),
                        none ? 1 : lengths[w] - 2);
                }
            }
        }
        fresh();
        words(1);
        due("no PATTERN, no HYPHEN", x.word(0, 3), 1);
    }

    /** aa-bb-aa in LINES of 10: each "aa-" is 10 wide. */
    private static void hyphenedPage() {
        freshSheet("paa21;pbb01;pbb21;waabbaa;l10;m2;");
        x.widens(0, 4);
    }

    private static void penalties() {
        says("PENALTY of a HYPHEN: JUSTIFIED: HYPHEN; TIGHT half, cut; LOOSE FIGURE more. Others as what they are under.");
        int[] hyphens = {0, 1, 2, 98, 99};
        int[] figures = {0, 5, 6, 9};
        hyphenedPage();
        for (int h : hyphens) {
            x.hyphen(h);
            for (int figure : figures) {
                int[] want = {h, h, h / 2, -1, figure < 6 ? h / 2 : -1, h + figure};
                for (int kind = 0; kind < 6; kind++) {
                    x.kind(kind, figure);
                    String call = "demerits(0) of KIND " + kind + ", FIGURE " + figure + ", HYPHEN " + h;
                    dueFloat(call, x.demerits(0), want[kind] < 0 ? 0.0f : 1.0f + want[kind]);
                }
            }
        }
    }

    private static void placesOfHyphens() {
        says("HYPHENS of a WORD: its places 2 .. 2 less than its LETTERS (behind so many LETTERS):");
        freshSheet("pa11;pa01;waaa;waaaa;waaaaa;waaaaaaaaaaaa;wa;waa;");
        int[] lengths = {3, 4, 5, 12, 1, 2};
        int[] places = {0, 1 << 2, 3 << 2, 511 << 2, 0, 0};
        for (int w = 0; w < lengths.length; w++) {
            due("places of " + lengths[w] + " LETTERS", x.word(w, 4), places[w]);
            due("fragments of " + lengths[w] + " LETTERS", x.word(w, 3), 1 + Integer.bitCount(places[w]));
            for (int place = 0; place <= lengths[w]; place++) {
                due("values(" + w + ", " + place + ")", x.values(w, place), 1);
            }
        }
        due("lines(5)", x.lines(5), 1 + 2 + 3 + 10 + 1 + 1);
    }

    private static void valuesOfPlaces() {
        says("the VALUE of a place: the greatest VALUE of all PATTERNS whose LETTERS stand in the WORD so that their"
            + " PLACE is there (0: none); odd: a HYPHEN may be there.");
        freshSheet("wabcdabcd;");
        due("no PATTERN", x.values(0, 4), 0);
        due("no PATTERN", x.word(0, 4), 0);
        int[][] greatest = {{9, 4, 2, 9}, {2, 9, 4, 9}, {4, 2, 9, 9}, {7, 8, 1, 8}, {1, 1, 1, 1}, {2, 1, 2, 2}, {1, 2, 3, 3}};
        for (int[] g : greatest) {
            // all three PLACES are between d and a
            x.patterns(3, -1, 1, g[0]);
            x.patterns(0, -1, 0, g[1]);
            x.patterns(3, 0, 1, g[2]);
            due("the greatest of " + g[0] + ", " + g[1] + ", " + g[2], x.values(0, 4), g[3]);
            due("odd", x.word(0, 4), g[3] % 2 == 1 ? 1 << 4 : 0);
        }
        for (int v = 1; v <= 9; v++) {
            freshSheet("wabcdabcd;");
            x.patterns(1, 2, 1, v);
            due("VALUE " + v, x.word(0, 4), v % 2 == 1 ? 1 << 2 | 1 << 6 : 0);
            due("VALUE " + v, x.values(0, 6), v);
        }
        freshSheet("wabc;pab02;pbc28;pca15;pcd17;pabc03;pabc34;pbcd19;pdab13;");
        int[] want = {3, 0, 0, 8};
        for (int place = 0; place < want.length; place++) {
            due("no LETTERS stand beyond the WORD, place " + place, x.values(0, place), want[place]);
        }
        freshSheet("waaaaaaaaaaab;pab19;paab37;pb16;paaa01;");
        due("at the end of twelve LETTERS", x.values(0, 12), 7);
        due("just ahead of the last", x.values(0, 11), 9);
        due("no place for a HYPHEN", x.word(0, 4), 127 << 2);
        due("the last place of aaa", x.values(0, 8), 1);
        due("beyond it", x.values(0, 9), 0);
    }

    private static void fragments() {
        says("FRAGMENTS: each WORD is cut at all places where a HYPHEN may be, one behind the other.");
        due("lines(5), no WORD", x.lines(5), 0);
        for (int i = 0; i < 16; i++) {
            dueSheet("waaaaaaaaaaaa;", 1);
        }
        due("each WORD is one", x.lines(5), 16);
        x.patterns(0, -1, 1, 1);
        due("ten in each", x.word(15, 3), 10);
        due("as many as can be", x.lines(5), 160);
        x.kind(3, 0);
        due("a POEM", x.lines(5), 16);
        due("a POEM", x.word(15, 3), 1);
    }

    private static void ends() {
        says("A FRAGMENT's END: HYPHEN (its WORD goes on), FORCED, LAST (of the last WORD), or GLUE.");
        freshSheet("paa21;wccb;waaccb;wccb;n;waaaa;l10;");
        x.widens(0, 4);
        int[] want = {0, 1, 0, 2, 1, 3};
        due("lines(0)", x.lines(0), want.length);
        for (int i = 0; i < want.length; i++) {
            due("lineOf(" + i + ", 4)", x.lineOf(i, 4), want[i]);
        }
        x.forces(1);
        due("a HYPHEN in a FORCED WORD", x.lineOf(1, 4), 1);
        due("its last FRAGMENT", x.lineOf(2, 4), 2);
        x.forces(3);
        due("a HYPHEN in the last WORD", x.lineOf(4, 4), 1);
        due("the last WORD, FORCED", x.lineOf(5, 4), 2);
    }

    private static void linesFromBreakToBreak() {
        says("BREAKS: 0 ahead of all FRAGMENTS, k behind FRAGMENT k less 1. A LINE from BREAK i to j (i below j) has"
            + " FRAGMENTS i .. j less 1; none but the last of them has a FORCED END.");
        x.line(60);
        words(4);
        due("one LINE of all", x.lineOf(0, 1), 4);
        due("it begins with the first", x.lineOf(0, 0), 0);
        int[][] forced = {{0}, {1}, {2}, {0, 1}, {0, 2}, {1, 2}, {0, 1, 2}, {0, 1, 2, 3}, {3}};
        int[][] sizes = {{1, 3}, {2, 2}, {3, 1}, {1, 1, 2}, {1, 2, 1}, {2, 1, 1}, {1, 1, 1, 1}, {1, 1, 1, 1}, {4}};
        for (int k = 0; k < forced.length; k++) {
            for (int w : forced[k]) {
                x.forces(w);
            }
            due("lines(0)", x.lines(0), sizes[k].length);
            due("firstFit", x.firstFit(), sizes[k].length);
            int first = 0;
            for (int i = 0; i < sizes[k].length; i++) {
                due("lineOf(" + i + ", 0)", x.lineOf(i, 0), first);
                due("lineOf(" + i + ", 1)", x.lineOf(i, 1), sizes[k][i]);
                first += sizes[k][i];
            }
            for (int w : forced[k]) {
                x.forces(w);
            }
        }
    }

    private static void natural() {
        says("NATURAL: WIDTHS of all its LETTERS, GLUE's wide for each GLUE END but its last, and 2, if its last END is"
            + " a HYPHEN.");
        words(1);
        due("one WORD: no GLUE", x.lineOf(0, 2), 10);
        words(1);
        int[] wides = {2, 9};
        for (int wide : wides) {
            x.glue(wide, 2, 1);
            due("two WORDS, wide " + wide, x.lineOf(0, 2), 20 + wide);
        }
        words(2);
        x.line(29);
        due("the last END is GLUE", x.lineOf(0, 2), 29);
        due("the last END is LAST", x.lineOf(1, 2), 29);
        x.forces(1);
        due("the last END is FORCED", x.lineOf(0, 2), 29);
        freshSheet("paa21;wccb;waaccff;wc;l24;g240;t40;");
        // "ccb aaccff" is beyond 24, so "ccb aa-" and "ccff c"
        due("the last END is a HYPHEN", x.lineOf(0, 2), 10 + 2 + 6 + 2);
        due("a HYPHEN ahead is none of it", x.lineOf(1, 2), 10 + 2 + 3);
        freshSheet("paa21;waaaa;");
        due("a HYPHEN inside is none of it", x.lineOf(0, 2), 12);
    }

    private static void ratioOfNothing() {
        says("RATIO (a float): 0, if NATURAL is LINE, or less and its last END is FORCED or LAST;");
        words(4);
        x.tolerance(0);
        x.line(23);
        due("NATURAL is LINE, GLUE", x.ratio(0), 0);
        due("NATURAL is LINE, LAST", x.ratio(1), 0);
        x.line(10);
        due("NATURAL is LINE of one WORD", x.lines(0), 4);
        x.line(24);
        due("one less, GLUE: it fits not", x.lines(0), -9);
        x.forces(1);
        due("one less, FORCED", x.lines(0), 2);
        due("one less, FORCED", x.ratio(0), 0);
        due("one less, LAST", x.ratio(1), 0);
        x.line(60);
        due("much less, FORCED", x.ratio(0), 0);
        due("much less, LAST", x.ratio(1), 0);
        x.line(22);
        dueFloat("one more, FORCED", x.ratio(0), -1.0f);
        dueFloat("one more, LAST", x.ratio(1), -1.0f);
        hyphenedPage();
        x.tolerance(0);
        due("NATURAL is LINE, HYPHEN", x.ratio(0), 0);
        due("lines(0)", x.lines(0), 3);
        x.line(11);
        due("one less, HYPHEN: it fits not", x.lines(0), -9);
    }

    private static void ratios() {
        says("below LINE: (LINE less NATURAL, as a float) divided by (STRETCHES of its GLUE ENDS but its last together,"
            + " as a float); above: LINE less NATURAL by SHRINKS likewise (below 0);");
        words(4);
        x.tolerance(40);
        x.glue(3, 7, 3);
        x.line(24);
        dueFloat("one below", x.ratio(0), 1.0f / 7.0f);
        x.line(22);
        dueFloat("one above", x.ratio(0), -1.0f / 3.0f);
        x.line(20);
        dueFloat("all that it shrinks", x.ratio(0), -3.0f / 3.0f);
        freshSheet("wf;wf;wf;wf;wf;wabcd;l20;g343;t40;o0;");
        // "f f f f" is 17 (three GLUES), with one more 22 (four)
        dueFloat("four GLUES shrink", x.ratio(0), -2.0f / 12.0f);
        x.line(21);
        dueFloat("four GLUES shrink", x.ratio(0), -1.0f / 12.0f);
        x.glue(3, 4, 0);
        dueFloat("three GLUES stretch, the last END is none", x.ratio(0), 4.0f / 12.0f);
        freshSheet("paa21;wccb;waaccff;wc;l24;g270;t40;");
        dueFloat("one GLUE ahead of a HYPHEN", x.ratio(0), 4.0f / 7.0f);
    }

    private static void ratiosOfNoGlue() {
        says("if these are 0: 99, or -99.");
        x.tolerance(40);
        words(2);
        x.line(10);
        due("one WORD as wide as LINE", x.lines(0), 2);
        x.line(11);
        due("one WORD below LINE, no GLUE", x.lines(0), -9);
        x.line(19);
        due("one WORD below LINE, no GLUE", x.lines(0), -9);
        x.drops(0);
        x.line(10);
        x.widens(0, 4);
        due("the last WORD above LINE, no GLUE", x.lines(0), -9);
        fresh();
        x.tolerance(40);
        words(4);
        x.glue(3, 0, 1);
        x.line(24);
        due("a GLUE that stretches by 0", x.lines(0), -9);
        x.line(22);
        due("it shrinks", x.lines(0), 2);
        x.glue(3, 1, 0);
        due("a GLUE that shrinks by 0", x.lines(0), -9);
        x.line(24);
        due("it stretches", x.lines(0), 2);
    }

    private static void fitsByTolerance() {
        says("and not above TOLERANCE (as a float) divided by 4.0f.");
        words(4);
        // "abc abc" is 23: RATIO is (LINE less 23) by stretch
        int[][] cases = {{0, 23, 2, 2}, {0, 24, 9, -9}, {1, 24, 4, 2}, {1, 24, 3, -9}, {2, 24, 2, 2}, {3, 26, 4, 2},
            {3, 25, 2, -9}, {4, 24, 1, 2}, {39, 33, 1, -9}, {40, 33, 1, 2}, {40, 34, 1, -9}, {13, 30, 2, -9},
            {14, 30, 2, 2}, {15, 30, 2, 2}};
        for (int[] c : cases) {
            x.tolerance(c[0]);
            x.line(c[1]);
            x.glue(3, c[2], 0);
            String call = "TOLERANCE " + c[0] + " LINE " + c[1] + " stretch " + c[2];
            due("lines(0) by " + call, x.lines(0), c[3]);
            due("firstFit by " + call, x.firstFit(), c[3]);
        }
        x.tolerance(0);
        x.line(22);
        x.glue(3, 0, 1);
        due("a RATIO below 0 by TOLERANCE 0", x.lines(0), 2);
    }

    private static void fitsByShrinking() {
        says("It FITS: RATIO is -1 or more,");
        words(4);
        int[][] cases = {{22, 1, 2}, {21, 1, -9}, {21, 2, 2}, {20, 2, -9}, {20, 3, 2}, {19, 3, -9}};
        for (int[] c : cases) {
            x.line(c[0]);
            x.glue(3, 0, c[1]);
            due("lines(0) by LINE " + c[0] + " shrink " + c[1], x.lines(0), c[2]);
            due("firstFit by LINE " + c[0] + " shrink " + c[1], x.firstFit(), c[2]);
        }
        freshSheet("wf;wf;wf;wf;wf;wf;g300;");
        x.glue(3, 0, 2);
        // six of 2 by five GLUES of 3 are 27, and shrink by 10
        x.line(17);
        dueFloat("five GLUES shrink by ten", x.total(1), 101.0f * 101.0f);
        due("firstFit", x.firstFit(), 1);
        x.line(16);
        due("eleven is too much", x.total(1), 0);
        due("firstFit", x.firstFit(), 2);
        x.line(12);
        x.glue(2, 0, 2);
        dueFloat("GLUES that shrink to nothing", x.total(1), 101.0f * 101.0f);
        due("firstFit", x.firstFit(), 1);
        x.line(11);
        due("LETTERS do not shrink", x.total(1), 0);
        due("firstFit", x.firstFit(), 2);
        x.kind(2, 0);
        x.glue(2, 0, 1);
        x.line(12);
        dueFloat("GLUES of a TIGHT one that shrink to nothing", x.total(1), 101.0f * 101.0f);
    }

    private static void badness() {
        says("All that follows in floats, step by step, as told: BADNESS: RATIO without its sign, times that, times"
            + " that, times 100.");
        words(4);
        x.tolerance(40);
        int[][] cases = {{24, 7}, {25, 7}, {34, 9}, {35, 9}, {24, 1}, {33, 1}};
        for (int[] c : cases) {
            x.line(c[0]);
            x.glue(3, c[1], 0);
            dueBadness((float) (c[0] - 23) / (float) c[1]);
        }
        x.line(22);
        x.glue(3, 9, 3);
        dueBadness(1.0f / 3.0f);
        x.line(21);
        dueBadness(2.0f / 3.0f);
        x.glue(3, 9, 2);
        dueBadness(1.0f);
        fresh();
        words(4);
        x.glue(7, 0, 7);
        x.line(26);
        dueBadness(1.0f / 7.0f);
        x.line(27);
        due("RATIO 0", x.badness(0), 0);
    }

    private static void dueBadness(float ratio) {
        float bad = ratio * ratio;
        bad = bad * ratio;
        bad = bad * 100.0f;
        dueFloat("badness of RATIO " + ratio, x.badness(0), bad);
    }

    private static void demeritsByManners() {
        says("DEMERITS, p the PENALTY (0, if its last END is no HYPHEN): MANNER 0: (1 plus BADNESS) times itself, plus p"
            + " times p; MANNER 1: ((1 plus BADNESS) plus p) times itself; MANNER 2: (1 plus BADNESS) plus p;");
        // "f ff-" is 11 wide; by RATIOS of 2 by 9 and 6 by 7 another order of the steps would answer others
        int[][] cases = {{13, 9, 2}, {17, 7, 6}, {12, 7, 1}, {11, 1, 0}};
        int[] penalties = {0, 7, 50, 99};
        freshSheet("wf;wffccc;pff21;t40;");
        for (int[] c : cases) {
            x.line(c[0]);
            x.glue(3, c[1], 0);
            float ratio = (float) c[2] / (float) c[1];
            float bad = ratio * ratio;
            bad = bad * ratio;
            bad = bad * 100.0f;
            bad = 1.0f + bad;
            for (int p : penalties) {
                x.hyphen(p);
                float both = bad + p;
                float square = bad * bad;
                float penalty = (float) p * p;
                float[] want = {square + penalty, both * both, both};
                for (int m = 0; m < 3; m++) {
                    x.manner(m);
                    dueFloat("demerits(0) of MANNER " + m + " HYPHEN " + p + " LINE " + c[0], x.demerits(0), want[m]);
                    due("the last END is LAST", x.lineOf(1, 4), 3);
                    dueFloat("demerits(1), no PENALTY", x.demerits(1), 1001.0f);
                }
            }
        }
    }

    private static void demeritsOfHyphens() {
        says("then 3000 more, if the END ahead of the LINE is a HYPHEN, and its own;");
        hyphenedPage();
        dueFloat("nothing ahead, its own a HYPHEN", x.demerits(0), 51.0f);
        dueFloat("a HYPHEN ahead, and its own", x.demerits(1), 3051.0f);
        dueFloat("a HYPHEN ahead, its own LAST: a widow alone", x.demerits(2), 1001.0f);
        freshSheet("paa21;wccb;waaaa;n;waaaa;l10;m2;");
        x.widens(0, 4);
        dueFloat("GLUE ahead, its own a HYPHEN", x.demerits(1), 51.0f);
        dueFloat("a HYPHEN ahead, its own FORCED: a widow alone", x.demerits(2), 1001.0f);
        dueFloat("FORCED ahead, its own a HYPHEN", x.demerits(3), 51.0f);
        freshSheet("paa21;waaccb;wccb;l10;m2;");
        x.widens(0, 4);
        dueFloat("a HYPHEN ahead, its own GLUE", x.demerits(1), 1.0f);
    }

    private static void demeritsOfWidows() {
        says("then WIDOW times 1000 more, if its last END is FORCED or LAST, letters of just one WORD are in it, and the"
            + " END ahead of the LINE (there is one) is neither FORCED nor LAST.");
        words(1);
        dueFloat("nothing ahead", x.demerits(0), 1.0f);
        words(2);
        x.line(23);
        int[] widows = {0, 1, 9};
        for (int w : widows) {
            x.widow(w);
            dueFloat("GLUE ahead, LAST, one WORD, WIDOW " + w, x.demerits(1), 1.0f + 1000.0f * w);
        }
        dueFloat("its last END is GLUE", x.demerits(0), 1.0f);
        x.forces(1);
        dueFloat("FORCED ahead", x.demerits(1), 1.0f);
        x.forces(0);
        dueFloat("nothing ahead, FORCED", x.demerits(0), 1.0f);
        dueFloat("FORCED ahead, FORCED", x.demerits(1), 1.0f);
        x.forces(0);
        x.forces(1);
        words(1);
        dueFloat("two WORDS", x.demerits(1), 1.0f);
        x.line(10);
        dueFloat("one WORD, its last END is GLUE, GLUE ahead", x.demerits(1), 1.0f);
        x.forces(2);
        dueFloat("GLUE ahead, FORCED, one WORD", x.demerits(2), 9001.0f);
        dueFloat("FORCED ahead, LAST", x.demerits(3), 1.0f);
        x.line(22);
        x.forces(2);
        x.manner(2);
        dueFloat("two WORDS, shrunk", x.demerits(1), 101.0f);
        hyphenedPage();
        dueFloat("a HYPHEN ahead, LAST, a part of one WORD", x.demerits(2), 1001.0f);
        dueFloat("a HYPHEN at its end", x.demerits(1), 3051.0f);
        twoFragmentsOfOneWord();
    }

    private static void twoFragmentsOfOneWord() {
        freshSheet("paa21;wccb;waaff;l10;m2;");
        due("aa and ff are one LINE", x.lineOf(1, 1), 2);
        dueFloat("aaff, GLUE ahead: letters of one WORD", x.demerits(1), 1001.0f);
        freshSheet("pff21;wccb;wffff;wf;l10;m2;g202;");
        due("lineOf(1, 1)", x.lineOf(1, 1), 3);
        dueFloat("ffff f: letters of two WORDS", x.demerits(1), 1.0f + 100.0f);
    }

    private static void bests() {
        says("BEST of BREAK 0 is 0. BEST of BREAK j: the least of BEST of i and DEMERITS of the LINE from i to j, added,"
            + " of all i that have a BEST by which it FITS; of several the least i.");
        words(1);
        dueFloat("from BREAK 0", x.total(0), 1.0f);
        freshSheet("wf;wf;wf;wf;l10;g331;t40;o0;");
        // "f f" stretches by a RATIO of 1, "f f f" shrinks by one; "f f" or "f" is left
        dueFloat("alike", x.total(0), 101.0f * 101.0f + 1.0f);
        due("the least i", x.lineOf(1, 0), 2);
        x.widow(1);
        due("a widow is more", x.lineOf(1, 0), 2);
        x.widow(0);
        x.glue(3, 2, 1);
        due("f f is worse by a RATIO of 3 by 2", x.lineOf(1, 0), 3);
        fresh();
        words(2);
        x.line(11);
        due("a BREAK without BEST: behind it LAST would fit", x.lines(0), -9);
        freshSheet("wf;wf;wf;wf;wf;wf;wf;l12;g350;t40;m2;");
        // 12, 12, 2 (a widow: 1001), or 12, 7, 7, or 7, 12, 7 (101 twice)
        dueFloat("the least of three", x.total(0), 1.0f + 101.0f + 1.0f);
        due("the least i", x.lineOf(2, 0), 5);
        due("the least i", x.lineOf(1, 0), 2);
    }

    private static void withoutWords() {
        says("LINES: those of the last BREAK's BEST, from there back. Without WORDS there are 0 LINES.");
        due("lines(0)", x.lines(0), 0);
        due("lineOf(0, 0)", x.lineOf(0, 0), -1);
        due("total(0)", x.total(0), 0);
        x.tolerance(0);
        due("by TOLERANCE 0", x.lines(0), 0);
        words(1);
        due("one WORD", x.lines(0), 1);
        x.drops(0);
        due("no more WORDS", x.lines(0), 0);
        freshSheet("wcb;wf;wf;wf;wcb;l12;g240;t40;m2;");
        due("lines(0)", x.lines(0), 3);
        due("lineOf(0, 0)", x.lineOf(0, 0), 0);
        due("lineOf(1, 0)", x.lineOf(1, 0), 2);
        due("lineOf(2, 0)", x.lineOf(2, 0), 4);
    }
}
