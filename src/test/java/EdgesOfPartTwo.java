/** The sentences on SHEETS and of parts II. and III. of the document, by calls just on and just beyond what they name. */
final class EdgesOfPartTwo extends Desk {
    private EdgesOfPartTwo() {
    }

    static void all() {
        sheetsAtMost();
        statementsEnd();
        statementsOfLetters();
        statementsOfNumbers();
        atLeastOneStatement();
        faultsOfSpelling();
        faultsOfNumbers();
        faultsOfRoom();
        nothingComesWithAFault();
        linesInMind();
        totals();
        totalsByLines();
        firstFits();
        withOtherLines();
        narrowest();
        withoutWords();
        worst();
        manners();
        hyphenedAndWidows();
        loosestAndTightest();
        valuesAndFragments();
        two();
        lost();
        lostOfManyLines();
        mean();
        whatKind();
        judged();
        lots();
        draws();
        takenBack();
        takenBackOfEachCall();
        noneToTakeBack();
        dropped();
        image();
        fractions();
        refusals();
        refusalsOfFloatsAndLongs();
    }

    private static String times(int many, String text) {
        return text.repeat(many);
    }

    private static void sheetsAtMost() {
        says("A SHEET is told in letters, one by one (96 at most):");
        dueSheet("wab;" + times(46, "n;"), 47);
        due("FORCED and not, in turn", x.word(0, 2), 0);
        dueSheet(times(48, "n;"), 48);
        due("count(16)", x.count(16), 0);
        dueSheet("n;", 1);
        due("FORCED", x.word(0, 2), 1);
        dueSheet(times(47, "n;") + "o3;", -1096);
        due("the letter that found no room", x.count(16), 1);
        dueSheet("o3;" + times(46, "n;") + "n", -1096);
        due("count(16)", x.count(16), 1);
        due("with a FAULT nothing comes", x.widow(1), 1);
    }

    private static void statementsEnd() {
        says("STATEMENTS, each with \";\" behind:");
        dueSheet("wa", -1002);
        dueSheet("wa,", -1002);
        dueSheet("wa;wb", -1005);
        dueSheet("wa;n", -1004);
        dueSheet("wa;;", -1003);
        dueSheet(";wa;", -1000);
        dueSheet("wa;n;wb;", 3);
    }

    /** Each text ahead of its end lacks something; with a sign that never stands there nothing can go on. */
    private static void spelt(String statement) {
        for (int i = 0; i < statement.length(); i++) {
            String ahead = statement.substring(0, i);
            dueSheet(ahead, -1000 - i);
            String signs = "/:`ixyzA W?\u0000\u007f\u00ff";
            for (char sign : signs.toCharArray()) {
                if (i % 4 == sign % 4 || i < 2) {
                    dueSheet(ahead + sign + statement.substring(i + 1), -1000 - i);
                }
            }
            fresh();
            words(1);
        }
        dueSheet(statement, 1);
        dueSheet("o4;" + statement + statement, 3);
    }

    private static void statementsOfLetters() {
        says("\"w\" LETTERS (1 .. 12): a WORD more;");
        spelt("wabcdefghhgfe;");
        due("LETTERS in their order", x.spelt(1, 7), 7);
        due("LETTERS in their order", x.spelt(1, 11), 4);
        due("two more", x.count(0), 4);
        dueSheet("w1;", -1001);
        dueSheet("wa1;", -1002);
        dueSheet("wabcdefghhgfea;", -1013);
        dueSheet("wabcdefghhgfe1;", -1013);
        says("\"n\": the last WORD is FORCED (or, told again, not);");
        words(2);
        dueSheet("n;", 1);
        due("the last", x.word(1, 2), 1);
        due("none but the last", x.word(0, 2), 0);
        dueSheet("n;", 1);
        due("told again", x.word(1, 2), 0);
        dueSheet("n;wa;n;n;n;", 5);
        due("the last that was", x.word(1, 2), 1);
        due("the last that came", x.word(2, 2), 1);
        dueSheet("n1;", -1001);
        dueSheet("na;", -1001);
        x.drops(2);
        dueSheet("n;", 1);
        due("the last that is left", x.word(1, 2), 0);
        says("\"p\" LETTERS (1 .. 3), PLACE, VALUE (a digit each): a PATTERN;");
        words(1);
        spelt("phag39;");
        due("PLACE", x.pattern(0, 1), 3);
        due("VALUE", x.pattern(0, 2), 9);
        due("its first LETTER", x.pattern(0, 3), 7);
        due("told twice", x.count(1), 1);
        dueSheet("p11;", -1001);
        dueSheet("pa1;", -1003);
        dueSheet("pab1a;", -1004);
        dueSheet("phaga;", -1004);
        dueSheet("phag391;", -1006);
    }

    private static void statementsOfNumbers() {
        number("\"l\" LINE (2 digits);", "l60;");
        due("LINE", x.line(30), 60);
        number("\"g\" wide, stretch, shrink (a digit each);", "g574;");
        due("GLUE", x.glue(3, 2, 1), 574);
        number("\"t\" TOLERANCE (2 digits);", "t40;");
        due("TOLERANCE", x.tolerance(12), 40);
        number("\"h\" HYPHEN (2 digits);", "h98;");
        due("HYPHEN", x.hyphen(50), 98);
        number("\"o\" WIDOW (a digit);", "o9;");
        due("WIDOW", x.widow(1), 9);
        number("\"m\" MANNER (a digit);", "m2;");
        due("MANNER", x.manner(0), 2);
        number("\"k\" KIND (a digit), FIGURE (a digit).", "k59;");
        due("KIND, FIGURE", x.kind(0, 0), 59);
    }

    private static void number(String sentence, String statement) {
        says(sentence);
        words(1);
        spelt(statement);
        int end = statement.length() - 1;
        dueSheet(statement.substring(0, end - 1) + ";", -1000 - (end - 1));
        dueSheet(statement.substring(0, end) + "1;", -1000 - end);
        dueSheet(statement.substring(0, 1) + "a" + statement.substring(2), -1001);
        dueSheet(statement.substring(0, 1) + "-" + statement.substring(2), -1001);
    }

    private static void atLeastOneStatement() {
        says("At least one STATEMENT.");
        dueSheet("", -1000);
        dueSheet("", -1000);
        dueSheet("o1;", 1);
        dueSheet("", -1000);
    }

    private static void faultsOfSpelling() {
        says("FAULT: kind 1 the place of the first letter with which no SHEET can go on (the end, if something lacks):"
            + " -1000 less the place;");
        dueSheet("x", -1000);
        dueSheet("xx", -1000);
        dueSheet("wax", -1002);
        dueSheet("wa;xwa;x", -1003);
        dueSheet("l99;m9;x", -1007);
        dueSheet("n;n;w", -1005);
        dueSheet("wa;l6", -1005);
        dueSheet("wa;l6;", -1005);
        dueSheet(times(31, "wa;") + "wax", -1095);
        dueSheet(times(31, "wa;") + "wab", -1096);
        dueSheet(times(31, "wa;") + "l60", -1096);
    }

    private static void faultsOfNumbers() {
        says("else kind 2 the place of the first letter of the first STATEMENT that, behind all ahead of it in the text,"
            + " is not as it must be (a number out of range, no room, no WORD (\"n\")): -2000 less the place.");
        dueSheet("l09;l61;", -2000);
        dueSheet("l10;l61;l09;", -2004);
        dueSheet("o0;m2;k59;t40;h99;g200;l60;pa19;wa;n;m3;", -2037);
        dueSheet("n;wa;", -2000);
        dueSheet("o1;n;wa;", -2003);
        dueSheet("wa;n;", 2);
        x.drops(0);
        dueSheet("n;", -2000);
        dueSheet("pa21;", -2000);
        dueSheet("pa11;pa10;", -2005);
        dueSheet(times(23, "l60;") + "m3;", -2092);
        dueSheet(times(23, "l60;") + "l61;", -2092);
        dueSheet(times(24, "l60;"), 24);
    }

    private static void faultsOfRoom() {
        says("no room, no WORD (\"n\")");
        dueSheet(times(16, "wa;"), 16);
        dueSheet("wa;", -2000);
        dueSheet("n;wa;", -2002);
        fresh();
        dueSheet(times(17, "wa;"), -2048);
        due("count(0)", x.count(0), 0);
        dueSheet("pa01;pa11;pb01;pb11;pc01;pc11;pd01;pd11;pe01;", -2040);
        dueSheet("pa01;pa11;pb01;pb11;pc01;pc11;pd01;pd11;pa02;", 9);
        dueSheet("pa03;pe01;", -2005);
        due("pattern(0, 2)", x.pattern(0, 2), 2);
    }

    /** The SHEET of these letters more, behind which the page has again the letters it had. */
    private static Call told(String more) {
        return y -> {
            for (char c : more.toCharArray()) {
                y.letter(c);
            }
            int answer = y.sheet();
            y.letter('w');
            y.letter('h');
            y.letter(';');
            return answer;
        };
    }

    private static void nothingComesWithAFault() {
        says("Without FAULT all of it comes, with one nothing.");
        String all = "wab;n;pab19;l35;g450;t22;h07;o4;m2;k59;";
        asks(-2003 - all.length(), "a sheet with a FAULT at its end", told(all + "m3;"));
        asks(-1003 - all.length(), "a sheet that goes not on", told(all + "x"));
        asks(-1004 - all.length(), "a sheet that lacks something", told(all + "m"));
        asks(-2003, "a sheet with a FAULT ahead", told("t41;" + all));
        freshSheet(all);
        due("count(0)", x.count(0), 1);
        due("word(0, 2)", x.word(0, 2), 1);
        due("pattern(0, 2)", x.pattern(0, 2), 9);
        due("LINE", x.line(30), 35);
        due("GLUE", x.glue(3, 2, 1), 450);
        due("TOLERANCE", x.tolerance(12), 22);
        due("HYPHEN", x.hyphen(50), 7);
        due("WIDOW", x.widow(1), 4);
        due("MANNER", x.manner(0), 2);
        due("KIND", x.kind(0, 0), 59);
        freshSheet("l10;l20;m1;m0;g200;g999;k11;k22;t01;t02;");
        due("the latest LINE", x.line(30), 20);
        due("the latest GLUE", x.glue(3, 2, 1), 999);
        due("the latest MANNER", x.manner(0), 0);
        due("the latest KIND", x.kind(0, 0), 22);
        due("the latest TOLERANCE", x.tolerance(12), 2);
    }

    private static void linesInMind() {
        says("In mind: LINES: how many, of the i-th: FRAGMENT it begins with, how many FRAGMENTS, NATURAL, bits of RATIO,"
            + " BADNESS, DEMERITS, how many WORDS are in it, its last END.");
        words(5);
        x.tolerance(14);
        x.forces(2);
        due("how many", x.lines(0), 3);
        int[][] want = {{0, 2, 23, 2, 0}, {2, 1, 10, 1, 2}, {3, 2, 23, 2, 3}};
        for (int i = 0; i < 3; i++) {
            for (int what = 0; what < 5; what++) {
                due("lineOf(" + i + ", " + what + ")", x.lineOf(i, what), want[i][what]);
            }
        }
        dueFloat("ratio(0)", x.ratio(0), 3.5f);
        dueFloat("badness(0)", x.badness(0), 4287.5f);
        dueFloat("demerits(0)", x.demerits(0), 4288.5f * 4288.5f);
        for (int i = 3; i >= -1; i -= 4) {
            due("lineOf(" + i + ", 0)", x.lineOf(i, 0), -1);
            due("ratio(" + i + ")", x.ratio(i), 0);
            due("badness(" + i + ")", x.badness(i), 0);
            due("demerits(" + i + ")", x.demerits(i), 0);
        }
        dueFloat("demerits(2), the last", x.demerits(2), 1.0f);
        freshSheet("paa21;wff;waaff;wff;l15;");
        due("a WORD of which there are but parts", x.lineOf(0, 3), 2);
        due("a WORD of which there are but parts", x.lineOf(1, 3), 2);
    }

    private static void totals() {
        says("TOTAL: BEST of the last BREAK: its bits.");
        due("no WORD", x.total(0), 0);
        words(1);
        dueFloat("one WORD", x.total(0), 1.0f);
        words(2);
        due("none", x.total(0), 0);
        x.tolerance(14);
        dueFloat("two LINES", x.total(0), 4288.5f * 4288.5f + 1001.0f);
        x.widens(2, 9);
        x.line(15);
        due("none", x.total(0), 0);
    }

    /** Twenty LINES: three WORDS of six "ab-" and "ab", and two WORDS, all FORCED. */
    private static void twentyLines() {
        freshSheet("wabababababab;n;wabababababab;n;wabababababab;n;wa;n;wb;n;pba11;l10;h00;");
        x.widens(0, 4);
    }

    private static void totalsByLines() {
        says("BY n LINES (1 .. 20): TOTAL as above, but of just n LINES (BEST of a BREAK with k LINES by BEST of i with k"
            + " less 1): its bits.");
        for (int n = 1; n <= 20; n++) {
            due("no WORD, BY " + n, x.total(n), 0);
        }
        words(1);
        dueFloat("BY 1", x.total(1), 1.0f);
        due("BY 2", x.total(2), 0);
        twentyLines();
        float sum = 20.0f + 12 * 3000.0f + 3 * 1000.0f;
        dueFloat("BY 20", x.total(20), sum);
        dueFloat("TOTAL", x.total(0), sum);
        due("BY 19", x.total(19), 0);
        due("BY 1", x.total(1), 0);
        x.adds(0, -1, -1);
        due("one LINE more, BY 20", x.total(20), 0);
        due("n above 20", x.total(21), 0);
        due("n below 0", x.total(-1), 0);
        x.drops(5);
        x.drops(4);
        dueFloat("BY 19", x.total(19), sum - 1.0f);
        due("BY 20", x.total(20), 0);
        freshSheet("wf;wf;wf;wf;wf;wf;l12;g350;t40;");
        due("BY 1: six are 27", x.total(1), 0);
        dueFloat("BY 2: three, three", x.total(2), 2.0f);
        dueFloat("BY 3: three, two, one", x.total(3), 1.0f + 101.0f * 101.0f + 1001.0f);
        due("BY 4", x.total(4), 0);
        x.widow(0);
        x.manner(2);
        dueFloat("BY 3, without WIDOW", x.total(3), 1.0f + 101.0f + 1.0f);
        x.widow(9);
        dueFloat("BY 3: two, two, two", x.total(3), 101.0f + 101.0f + 1.0f);
    }

    private static void firstFits() {
        says("FIRST FIT: from BREAK 0 on each time the farthest j to which the LINE FITS: how many LINES; -9 (there is"
            + " none for some).");
        due("no WORD", x.firstFit(), 0);
        words(1);
        due("one WORD", x.firstFit(), 1);
        x.line(10);
        due("as wide as LINE", x.firstFit(), 1);
        x.widens(0, 4);
        due("wider by one", x.firstFit(), -9);
        freshSheet("wf;wf;wf;wf;wf;wab;l10;g351;t40;");
        due("f f f shrinks, f f stretches, ab", x.firstFit(), 3);
        freshSheet("wf;wf;wf;waf;wbb;l10;g353;t40;");
        due("there are LINES", x.lines(0), 3);
        due("the farthest j: none fits behind it", x.firstFit(), -9);
        freshSheet("wf;wf;wff;l12;g350;t40;");
        // "f f" is 7; with ff it is 14, and "f" alone fits nowhere
        due("the last is LAST", x.firstFit(), 2);
        freshSheet("wh;wh;wh;wh;l14;g212;");
        // "h h" stretches by a RATIO of 4, too much; "h h h" shrinks by 1 by 2
        due("a farther one fits, though a nearer one does not", x.firstFit(), 2);
        twentyLines();
        due("twenty", x.firstFit(), 20);
    }

    private static void withOtherLines() {
        says("WITH another LINE: how many LINES; -9.");
        due("no WORD, with(10)", x.with(10), 0);
        due("no WORD, with(60)", x.with(60), 0);
        words(1);
        due("with(10): as wide", x.with(10), 1);
        due("with(60)", x.with(60), 1);
        x.widens(0, 4);
        due("with(10): wider", x.with(10), -9);
        due("with(11)", x.with(11), 1);
        freshSheet("waaaaaaaaaaaa;");
        x.widens(0, 5);
        due("60 wide, with(60)", x.with(60), 1);
        due("60 wide, with(59)", x.with(59), -9);
        due("LINE stays", x.count(3), 30);
        due("with(30)", x.with(30), x.lines(0));
    }

    private static void narrowest() {
        says("NARROWEST: the least LINE (10 .. 60) with which there are at most n LINES (1 .. 20) by BEST; -9.");
        due("no WORD", x.narrowest(1), 10);
        due("no WORD", x.narrowest(20), 10);
        words(1);
        due("10 wide", x.narrowest(1), 10);
        x.widens(0, 4);
        due("11 wide", x.narrowest(1), 11);
        x.widens(0, 2);
        due("9 wide", x.narrowest(1), 10);
        freshSheet("waaaaaaaaaaab;");
        x.widens(0, 5);
        x.widens(1, 5);
        due("60 wide", x.narrowest(1), 60);
        due("60 wide", x.narrowest(20), 60);
        x.widens(1, 6);
        due("61 wide", x.narrowest(1), -9);
        due("61 wide", x.narrowest(20), -9);
        fresh();
        words(4);
        x.tolerance(14);
        int[] want = {46, 22, 22, 10, 10};
        for (int n = 1; n <= 5; n++) {
            due("narrowest(" + n + ")", x.narrowest(n), want[n - 1]);
        }
        twentyLines();
        due("just twenty", x.narrowest(20), 10);
        // "ab-" is 10 and "abab-" 18: with a LINE between them none fits
        due("one less", x.narrowest(19), 18);
        x.adds(0, -1, -1);
        due("twenty-one with 10", x.narrowest(20), 18);
        freshSheet("wc;wc;wc;g351;t40;");
        // "c c c" is 15, shrunk to 13: by BEST of MANNER 0 two LINES are less
        due("one LINE with 13 is not BEST", x.with(13), 2);
        due("with 14 it is", x.narrowest(1), 14);
    }

    private static void withoutWords() {
        says("WITHOUT a WORD (the last one that is left has the END LAST): bits of TOTAL; how many LINES.");
        words(1);
        due("no WORD left: LINES", x.without(0, 0), 0);
        due("no WORD left: TOTAL", x.without(0, 1), 0);
        words(2);
        due("all", x.lines(0), -9);
        for (int w = 0; w < 3; w++) {
            due("without(" + w + ", 0)", x.without(w, 0), 1);
            dueFloat("without(" + w + ", 1)", x.without(w, 1), 1.0f);
        }
        words(1);
        due("none", x.without(3, 0), -9);
        due("none", x.without(3, 1), 0);
        x.forces(1);
        due("the last is LAST", x.without(3, 0), 2);
        due("FORCED goes with its WORD", x.without(1, 0), -9);
        due("nothing is dropped", x.count(0), 4);
        fresh();
        words(16);
        x.line(10);
        due("of sixteen the last", x.without(15, 0), 15);
        dueFloat("of sixteen the last", x.without(15, 1), 15.0f + 1000.0f);
    }

    private static void worst() {
        says("WORST: the WORD without which TOTAL is least, less than with all (or there is one then, and none with all),"
            + " of several the least; -9.");
        due("no WORD", x.worst(), -9);
        words(1);
        due("one WORD: without it 0 is less", x.worst(), 0);
        words(1);
        due("alike", x.worst(), -9);
        words(1);
        due("none with all, all alike without", x.worst(), 0);
        words(1);
        due("none with all, none without any", x.worst(), -9);
        freshSheet("wf;wf;wf;wf;wb;wf;wf;l12;g350;t40;");
        due("just without b there are two of 12", x.worst(), 4);
        dueFloat("without(4, 1)", x.without(4, 1), 2.0f);
        freshSheet("wabc;wabc;wabcd;l23;");
        // with all a widow; without 0 or 1 none at all, for "abc abcd" is 27; without 2 one LINE
        due("the last", x.worst(), 2);
        fresh();
        words(3);
        x.line(23);
        dueFloat("with all", x.total(0), 1.0f + 1001.0f);
        due("of several the least", x.worst(), 0);
        fresh();
        words(16);
        x.line(23);
        due("of sixteen none is less", x.worst(), -9);
        x.drops(0);
        due("of fifteen, a widow less", x.worst(), 0);
    }

    private static void manners() {
        says("MANNERS: the MANNER by which there are fewest LINES, of several the least; -9.");
        due("no WORD", x.manners(), 0);
        words(3);
        due("none", x.manners(), -9);
        x.tolerance(14);
        for (int m = 2; m >= 0; m--) {
            x.manner(m);
            due("alike, MANNER is " + m, x.manners(), 0);
        }
        freshSheet("wc;wc;wc;l13;g351;t40;");
        int[] lines = {2, 2, 1};
        for (int m = 0; m < 3; m++) {
            x.manner(m);
            due("LINES by MANNER " + m, x.lines(0), lines[m]);
            due("manners", x.manners(), 2);
        }
        x.widow(9);
        // then even 101 squared is less than a widow's 9001 and "c c" by 4 by 5
        x.line(14);
        due("alike", x.manners(), 0);
    }

    private static void hyphenedAndWidows() {
        says("HYPHENED: how many LINES end with a HYPHEN; WIDOWS: how many LINES have WIDOW's DEMERITS (whatever WIDOW"
            + " is).");
        due("no WORD: HYPHENED", x.lines(1), 0);
        due("no WORD: WIDOWS", x.lines(2), 0);
        words(3);
        due("none: HYPHENED", x.lines(1), -9);
        due("none: WIDOWS", x.lines(2), -9);
        x.line(23);
        int[] widows = {0, 1, 9};
        for (int w : widows) {
            x.widow(w);
            due("WIDOWS, WIDOW " + w, x.lines(2), 1);
        }
        due("HYPHENED", x.lines(1), 0);
        x.forces(1);
        due("behind FORCED none is", x.lines(2), 0);
        twentyLines();
        due("HYPHENED", x.lines(1), 15);
        due("WIDOWS", x.lines(2), 3);
        for (int w = 0; w < 16; w++) {
            if (w < 5) {
                x.drops(0);
            }
            x.adds(0, -1, -1);
            x.forces(w < 5 ? 4 : w);
        }
        due("the first has nothing ahead, the others FORCED", x.lines(2), 0);
        due("no HYPHEN", x.lines(1), 0);
    }

    private static void loosestAndTightest() {
        says("LOOSEST: the LINE with the greatest RATIO, of several the first; TIGHTEST: the least likewise; -9.");
        due("no WORD: LOOSEST", x.lines(3), -9);
        due("no WORD: TIGHTEST", x.lines(4), -9);
        words(4);
        due("none: LOOSEST", x.lines(3), -9);
        due("none: TIGHTEST", x.lines(4), -9);
        x.line(22);
        due("alike below 0: LOOSEST", x.lines(3), 0);
        due("alike below 0: TIGHTEST", x.lines(4), 0);
        x.line(24);
        due("a RATIO of 1 by 2: LOOSEST", x.lines(3), 0);
        due("LAST is 0: TIGHTEST", x.lines(4), 1);
        // "abc f" (15: RATIO 1/2), "abc ff" (17: -1/3), "abc f", "abc ff", "a"
        freshSheet("wabc;wf;wabc;wff;wabc;wf;wabc;wff;wa;l16;g323;t20;");
        due("LOOSEST, of two the first", x.lines(3), 0);
        due("TIGHTEST, of two the first", x.lines(4), 1);
        x.drops(0);
        x.drops(0);
        due("LOOSEST, the second", x.lines(3), 1);
        due("TIGHTEST, the first", x.lines(4), 0);
        fresh();
        words(1);
        due("one LINE", x.lines(3), 0);
        due("one LINE", x.lines(4), 0);
    }

    private static void valuesAndFragments() {
        says("VALUES: the VALUE of a place of a WORD; FRAGMENTS: how many in all; in a WORD.");
        due("no WORD", x.lines(5), 0);
        freshSheet("paa11;waaaa;wfffff;waaaaa;");
        int[] places = {0, 1, 1, 1, 0};
        for (int p = 0; p < places.length; p++) {
            due("values(0, " + p + ")", x.values(0, p), places[p]);
            due("values(1, " + p + ")", x.values(1, p), 0);
        }
        due("in a WORD", x.word(0, 3), 2);
        due("in a WORD", x.word(1, 3), 1);
        due("in a WORD", x.word(2, 3), 3);
        due("in all", x.lines(5), 6);
        x.tolerance(0);
        x.line(10);
        due("in all, though there are no LINES", x.lines(5), 6);
        due("none", x.lines(0), -9);
    }

    private static void two() {
        says("TWO: of two LINE widths which has less TOTAL (0 the one, 1 the other one; -9 both alike, or none both; one"
            + " that has none is no less).");
        due("no WORD", x.two(10, 60), -9);
        words(1);
        due("both alike", x.two(10, 60), -9);
        x.widens(0, 4);
        due("just the other one has", x.two(10, 60), 1);
        due("just the one has", x.two(60, 10), 0);
        due("none both", x.two(10, 10), -9);
        x.widens(0, 3);
        words(3);
        due("both have: 22 shrinks, 23 is just so", x.two(22, 23), 1);
        due("both have: 22 shrinks, 23 is just so", x.two(23, 22), 0);
        due("the same", x.two(23, 23), -9);
        due("one LINE is less than four", x.two(10, 60), 1);
        due("one LINE is less than four", x.two(60, 10), 0);
        due("none both", x.two(11, 12), -9);
        due("LINE stays", x.count(3), 30);
    }

    private static void lost() {
        says("LOST: each of the first 6 WORDS (fewer, if there are fewer), by itself, with odds 1 in t (2 .. 20) is not"
            + " there: how likely there are n LINES (0 .. 20) at most: a fraction (if no WORD is left, there are 0 LINES:"
            + " so; if those left can't be set in LINES: not so).");
        fraction("no WORD", 0, 2, 1, 1);
        fraction("no WORD", 20, 20, 1, 1);
        words(1);
        fraction("one WORD, not there", 0, 2, 1, 2);
        fraction("one WORD, not there", 0, 20, 1, 20);
        fraction("one WORD", 1, 20, 1, 1);
        words(1);
        x.forces(0);
        fraction("two LINES only if both are there", 1, 20, 400 - 361, 400);
        fraction("two LINES", 2, 20, 1, 1);
        fresh();
        x.line(10);
        words(6);
        // k WORDS are k LINES
        fraction("six of six", 5, 2, 63, 64);
        fraction("all six", 6, 2, 1, 1);
        fraction("none of six", 0, 20, 1, 64000000);
        fraction("none of six", 0, 3, 1, 729);
        fraction("one at most", 1, 3, 13, 729);
        words(1);
        fraction("the seventh is always there", 0, 2, 0, 1);
        fraction("the seventh is always there", 1, 2, 1, 64);
        fraction("all seven", 6, 2, 63, 64);
        fresh();
        words(3);
        fraction("three can't be set", 20, 2, 7, 8);
        x.line(11);
        fraction("one WORD is LAST, more can't be set", 20, 2, 1, 2);
        fraction("one WORD is LAST, more can't be set", 20, 3, 7, 27);
        freshSheet("wff;wabc;n;wabc;n;wabc;n;wabc;n;wabc;n;l10;");
        fraction("ff is 4, and fits not ahead of abc", 20, 2, 33, 64);
    }

    private static void fraction(String call, int n, int t, long above, long below) {
        due(call + ": lost(" + n + ", " + t + ", 0)", x.lost(n, t, 0), above);
        due(call + ": lost(" + n + ", " + t + ", 1)", x.lost(n, t, 1), below);
    }

    private static void lostOfManyLines() {
        says("how likely there are n LINES (0 .. 20) at most");
        twentyLines();
        fraction("twenty LINES at most", 20, 2, 1, 1);
        fraction("all five are there: not so", 19, 2, 31, 32);
        x.adds(0, -1, -1);
        fraction("twenty-one LINES, if all are there", 20, 2, 63, 64);
        fraction("twenty-one LINES, if all are there", 20, 20, 64000000 - 47045881, 64000000);
    }

    private static void mean() {
        says("MEAN: NATURAL of all LINES by how many there are: a fraction.");
        words(1);
        due("one LINE, above", x.mean(0), 10);
        due("one LINE, below", x.mean(1), 1);
        words(2);
        x.line(23);
        due("23 and 10, above", x.mean(0), 33);
        due("23 and 10, below", x.mean(1), 2);
        words(1);
        due("23 and 23, above", x.mean(0), 23);
        due("23 and 23, below", x.mean(1), 1);
        x.line(10);
        x.adds(0, -1, -1);
        // four of 10 and one of 3
        due("43 by 5, above", x.mean(0), 43);
        due("43 by 5, below", x.mean(1), 5);
        twentyLines();
        // 15 of "ab-", 10 each, three "ab" of 8, "a" 4 and "b" 4
        due("182 by 20, above", x.mean(0), 91);
        due("182 by 20, below", x.mean(1), 10);
    }

    private static void row(int... numbers) {
        x.clear();
        for (int v : numbers) {
            x.row(v);
        }
    }

    private static void whatKind() {
        says("WHAT KIND: a ROW tells how many LINES there are WITH LINE 20, 24, 28, .. (0: there are none; 16 numbers at"
            + " most, LINE 80 at most: beyond 60, too): KINDS (bits) by which, FIGURE as it is, all of it is so (of none"
            + " all is so); FIGURES (bits 0 .. 9) by which, KIND as it is.");
        due("no number: KINDS", x.whatIs(0), 63);
        due("no number: FIGURES", x.whatIs(1), 1023);
        row(0);
        due("no WORD: 0 LINES", x.whatIs(0), 63);
        row(1);
        due("no WORD: not 1", x.whatIs(0), 0);
        due("no WORD: not 1", x.whatIs(1), 0);
        whatKindOfWidths();
        fresh();
        words(3);
        x.tolerance(8);
        x.kind(3, 4);
        row(0, 2, 2, 2, 1);
        due("KINDS that stretch by 5 at least", x.whatIs(0), 1 << 1 | 1 << 3 | 1 << 5);
        due("FIGURES of 3 at least", x.whatIs(1), 1023 - 7);
        row(0, 2, 2, 2, 0);
        due("all but the last number", x.whatIs(0), 0);
        row(1, 2, 2, 2, 1);
        due("all but the first number", x.whatIs(0), 0);
        row(0, 2, 0);
        x.kind(1, 0);
        due("KINDS by FIGURE 0 that stretch by less", x.whatIs(0), 31);
        due("FIGURES of RAGGED that stretch by less", x.whatIs(1), 1);
        x.kind(5, 9);
        due("FIGURES of LOOSE that stretch by less", x.whatIs(1), 0);
        row(0, 2, 2);
        x.kind(1, 9);
        due("FIGURES up to 9", x.whatIs(1), 1022);
        due("KINDS by FIGURE 9", x.whatIs(0), 1 << 1 | 1 << 3 | 1 << 5);
        due("KIND and FIGURE stay", x.kind(0, 0), 19);
        due("the ROW stays", x.count(6), 3);
    }

    /** One WORD: there is one LINE from its width on. */
    private static void whatKindOfWidths() {
        int[][] cases = {{20, 0}, {21, 1}, {24, 1}, {25, 2}, {60, 10}, {61, 11}, {64, 11}, {65, 12}, {76, 14}, {77, 15},
            {80, 15}, {81, 16}};
        for (int[] c : cases) {
            int width = c[0];
            freshSheet("w" + times(9, "a") + times(3, "b") + ";");
            // nine of 2 .. 9 and three of 2 .. 9 make most widths; else the WORD is shorter
            setWidth(width);
            int[] ones = new int[16];
            for (int i = 0; i < 16; i++) {
                ones[i] = i >= c[1] ? 1 : 0;
            }
            row(ones);
            due("a WORD " + width + " wide: KINDS", x.whatIs(0), 63);
            due("a WORD " + width + " wide: FIGURES", x.whatIs(1), 1023);
            if (c[1] < 16) {
                ones[c[1]] = 0;
                row(ones);
                due("a WORD " + width + " wide, one 0 too many", x.whatIs(0), 0);
            }
            if (c[1] > 0) {
                ones[c[1] - 1] = 1;
                row(ones);
                due("a WORD " + width + " wide, one 1 too many", x.whatIs(0), 0);
            }
        }
    }

    private static void setWidth(int width) {
        for (int many = 1; many <= 12; many++) {
            for (int a = 2; a <= 9; a++) {
                int b = width - (many - 1) * a;
                if (b >= 2 && b <= 9) {
                    fresh();
                    sheet("w" + times(many - 1, "a") + "b;");
                    x.widens(0, a);
                    x.widens(1, b);
                    due("the width of the WORD", x.word(0, 1), width);
                    return;
                }
            }
        }
        fault("no WORD is " + width + " wide");
    }

    private static void judged() {
        says("A ROW of numbers (0 .. 99; 16 at most): JUDGED: FRAGMENTS the LINES begin with, one behind the other: the"
            + " first that is not so (one too many, too); too few: how many it tells; -9.");
        due("no LINES, none told", x.judge(), -9);
        row(0);
        due("no LINES, one told", x.judge(), 0);
        words(5);
        x.tolerance(14);
        x.forces(2);
        int[][] rows = {{0, 2, 3}, {1, 2, 3}, {0, 1, 3}, {0, 2, 2}, {0, 2, 4}, {0, 2, 3, 4}, {0, 2, 3, 0, 0}, {0, 2}, {0},
            {}, {99}, {0, 0}};
        int[] want = {-9, 0, 1, 2, 2, 3, 3, 2, 1, 0, 0, 1};
        for (int k = 0; k < rows.length; k++) {
            row(rows[k]);
            due("judge of row " + k, x.judge(), want[k]);
            due("the ROW has none then", x.count(6), 0);
        }
        fresh();
        x.line(10);
        words(16);
        for (int last = 14; last <= 16; last++) {
            x.clear();
            for (int i = 0; i < 16; i++) {
                x.row(i < 15 ? i : last);
            }
            due("sixteen LINES, sixteen told", x.judge(), last == 15 ? -9 : 15);
        }
        for (int i = 0; i < 15; i++) {
            x.row(i);
        }
        due("sixteen LINES, fifteen told", x.judge(), 15);
        due("row(-1)", x.row(-1), -4);
        due("row(100)", x.row(100), -6);
        twentyLines();
        int[] starts = {0, 1, 2, 3, 4, 5, 6, 7, 8, 9, 10, 11, 12, 13, 14, 15};
        row(starts);
        due("twenty LINES: too few", x.judge(), 16);
    }

    /** One WORD of this width: a LINE, where LINE is not less. */
    private static int drawnBelow(int width, int n, int z) {
        int below = 0;
        long s = z;
        for (int i = 0; i < n; i++) {
            s = (int) (s * 1664525L + 1013904223L);
            below += ((s & 0x7fffffffL) / 256) % 41 + 10 < width ? 1 : 0;
            s = (int) (s * 1664525L + 1013904223L);
        }
        return below;
    }

    /** The least seed from 0 on of which the first DRAW below 41 is this. */
    private static int seedOf(int draw) {
        for (int z = 0; z < 1000000; z++) {
            int s = (int) (z * 1664525L + 1013904223L);
            if ((s & 0x7fffffff) / 256 % 41 == draw) {
                return z;
            }
        }
        return -1;
    }

    private static void lots() {
        says("LOTS with a seed z: n paragraphs (1 .. 20), each from now: LINE by a DRAW below 41 and 10, TOLERANCE by a"
            + " DRAW below 41: LINES of all, together; how many have none.");
        for (int n = 1; n <= 20; n += 19) {
            due("no WORD", x.lots(n, 5, 0), 0);
            due("no WORD", x.lots(n, 5, 1), 0);
        }
        int[] widths = {10, 11, 12, 49, 50, 51};
        int[] draws = {0, 1, 2, 39, 40};
        for (int width : widths) {
            setWidth(width);
            for (int draw : draws) {
                int z = seedOf(draw);
                int want = draw + 10 < width ? 0 : 1;
                due("a WORD " + width + " wide, LINE " + (draw + 10), x.lots(1, z, 0), want);
                due("a WORD " + width + " wide, LINE " + (draw + 10), x.lots(1, z, 1), 1 - want);
            }
            due("LINE stays", x.count(3), 30);
            due("TOLERANCE stays", x.tolerance(12), 12);
        }
        setWidth(30);
        for (int n = 1; n <= 20; n++) {
            int none = drawnBelow(30, n, 77);
            due("lots(" + n + ", 77, 0)", x.lots(n, 77, 0), n - none);
            due("lots(" + n + ", 77, 1)", x.lots(n, 77, 1), none);
        }
        lotsByTolerance();
    }

    /** Four WORDS "abc" as LINE and TOLERANCE are drawn: as many LINES as WITH that LINE by that TOLERANCE. */
    private static void lotsByTolerance() {
        fresh();
        words(4);
        x.glue(3, 1, 1);
        for (int z = 100; z < 150; z++) {
            int s = (int) (z * 1664525L + 1013904223L);
            int line = (s & 0x7fffffff) / 256 % 41 + 10;
            s = (int) (s * 1664525L + 1013904223L);
            x.tolerance((s & 0x7fffffff) / 256 % 41);
            int lines = x.with(line);
            x.tolerance(12);
            due("lots(1, " + z + ", 0)", x.lots(1, z, 0), Math.max(lines, 0));
            due("lots(1, " + z + ", 1)", x.lots(1, z, 1), lines < 0 ? 1 : 0);
        }
    }

    private static void draws() {
        says("A DRAW below m: z becomes z times 1664525 and 1013904223 (an int); (z without its sign's bit by 256, cut)"
            + " modulo m.");
        int[] seeds = {0, 1, -1, 2, 1289, 1290, 123456789, -123456789, GREATEST, LEAST, GREATEST - 1, LEAST + 1};
        int wraps = 0;
        for (int z : seeds) {
            wraps += (int) (z * 1664525L + 1013904223L) < 0 ? 1 : 0;
            for (int width = 10; width <= 51; width += 8) {
                setWidth(width);
                int none = drawnBelow(width, 20, z);
                due("lots(20, " + z + ", 1), a WORD " + width + " wide", x.lots(20, z, 1), none);
                due("lots(20, " + z + ", 0), a WORD " + width + " wide", x.lots(20, z, 0), 20 - none);
                due("lots(1, " + z + ", 1), a WORD " + width + " wide", x.lots(1, z, 1), drawnBelow(width, 1, z));
            }
        }
        due("some seeds wrap around to numbers below 0", wraps > 2 ? 1 : 0, 1);
    }

    private static void takenBack() {
        says("where it is not refused, can be TAKEN BACK, the latest first, 8 at most");
        due("none", x.back(), -3);
        x.line(11);
        due("count(5)", x.count(5), 1);
        due("one", x.back(), 0);
        due("no more", x.back(), -3);
        due("LINE", x.count(3), 30);
        for (int i = 1; i <= 7; i++) {
            x.line(10 + i);
            due("count(5)", x.count(5), i);
        }
        x.line(18);
        due("eight", x.count(5), 8);
        x.line(19);
        due("nine: eight at most", x.count(5), 8);
        x.line(9);
        x.line(61);
        due("refused ones are none", x.count(5), 8);
        for (int left = 7; left >= 0; left--) {
            due("back", x.back(), left);
            due("the latest first", x.count(3), 11 + left);
        }
        due("no more", x.back(), -3);
        due("the first is not taken back", x.count(3), 11);
        for (int i = 0; i < 100; i++) {
            x.line(10 + i % 50);
        }
        x.back();
        x.line(60);
        for (int left = 7; left >= 0; left--) {
            due("back", x.back(), left);
        }
        due("behind a hundred", x.count(3), 10 + 91 % 50);
    }

    private static void takenBackOfEachCall() {
        says("What is changed by a call (widens, adds, forces, patterns, line, glue, tolerance, hyphen, widow, manner, kind,"
            + " drops), where it is not refused, can be TAKEN BACK,");
        on(Page.KEPT);
        back("widens(0, 9)", y -> y.widens(0, 9));
        back("adds(0, 1, -1)", y -> y.adds(0, 1, -1));
        back("forces(0)", y -> y.forces(0));
        back("forces(1)", y -> y.forces(1));
        back("patterns(4, 5, 1, 9)", y -> y.patterns(4, 5, 1, 9));
        back("patterns(0, 0, 2, 9), one that is there", y -> y.patterns(0, 0, 2, 9));
        back("line(60)", y -> y.line(60));
        back("line(25), as it is", y -> y.line(25));
        back("glue(9, 8, 7)", y -> y.glue(9, 8, 7));
        back("tolerance(0)", y -> y.tolerance(0));
        back("hyphen(99)", y -> y.hyphen(99));
        back("widow(9)", y -> y.widow(9));
        back("manner(2)", y -> y.manner(2));
        back("kind(5, 9)", y -> y.kind(5, 9));
        for (int w = 0; w < 3; w++) {
            int word = w;
            back("drops(" + w + ")", y -> y.drops(word));
        }
    }

    private static void back(String call, Call c) {
        asks(0, call + " and back", y -> {
            if (c.to(y) < 0) {
                return -1;
            }
            return y.back();
        });
    }

    private static void noneToTakeBack() {
        says("(a SHEET without FAULT, on() leave none).");
        x.line(20);
        dueSheet("m3;", -2000);
        dueSheet("m", -1001);
        due("a SHEET with a FAULT leaves it", x.count(5), 1);
        due("image", x.image(), 0);
        x.row(1);
        x.judge();
        x.clear();
        x.lots(3, 3, 0);
        due("other calls leave it", x.count(5), 1);
        dueSheet("m1;", 1);
        due("a SHEET leaves none", x.count(5), 0);
        due("back", x.back(), -3);
        due("LINE stays", x.count(3), 20);
        x.line(40);
        due("on", x.on(), 0);
        due("on() leaves none", x.count(5), 0);
        due("back", x.back(), -3);
        due("LINE of the IMAGE", x.count(3), 20);
        for (int i = 0; i < 9; i++) {
            x.line(30 + i);
        }
        x.on();
        x.line(50);
        due("one again", x.back(), 0);
        due("back", x.back(), -3);
    }

    private static void dropped() {
        says("DROPPED: the WORD of a number; those behind it come ahead by one.");
        for (int gone = 0; gone < 4; gone++) {
            freshSheet("wa;n;wbb;wccc;n;wdddd;");
            due("drops(" + gone + ")", x.drops(gone), 3);
            int k = 0;
            for (int w = 0; w < 4; w++) {
                if (w != gone) {
                    due("the LETTERS of " + w, x.word(k, 0), w + 1);
                    due("FORCED or not of " + w, x.word(k, 2), w % 2 == 0 ? 1 : 0);
                    due("the first LETTER of " + w, x.spelt(k, 0), w);
                    k++;
                }
            }
            due("one less", x.word(3, 0), -1);
            due("one less", x.spelt(3, 0), -1);
            due("one less", x.values(3, 0), -1);
            due("one less", x.forces(3), -1);
            due("one less", x.without(3, 0), -1);
            due("one less", x.drops(3), -1);
            due("count(2)", x.count(2), 10 - gone - 1);
        }
        fresh();
        for (int i = 0; i < 16; i++) {
            x.adds(i % 8, i / 8, -1);
        }
        due("of sixteen the first", x.drops(0), 15);
        for (int i = 0; i < 15; i++) {
            due("the WORDS behind", 8 * x.spelt(i, 1) + x.spelt(i, 0), i + 1);
        }
        for (int left = 14; left >= 0; left--) {
            due("drops(0)", x.drops(0), left);
        }
        due("no more", x.drops(0), -1);
        due("no more", x.spelt(0, 0), -1);
        due("no more", x.lines(5), 0);
        freshSheet("wa;");
        x.adds(1, 1, 1);
        x.patterns(1, -1, 0, 3);
        x.back();
        x.back();
        due("a WORD taken back", x.spelt(1, 0), -1);
        due("a PATTERN taken back", x.pattern(0, 3), -1);
        due("a PATTERN taken back", x.values(0, 0), 0);
    }

    private static void image() {
        says("THE IMAGE: all that there is of I, but letters; ON from it all is as then.");
        on(Page.KEPT);
        asks(3, "image, changes and on", y -> {
            y.image();
            y.widens(0, 9);
            y.drops(0);
            y.adds(7, 7, 7);
            y.forces(0);
            y.patterns(0, 0, 2, 9);
            y.patterns(7, 7, 2, 9);
            y.line(60);
            y.glue(9, 8, 7);
            y.tolerance(0);
            y.hyphen(99);
            y.widow(9);
            y.manner(2);
            y.kind(5, 9);
            return y.on();
        });
        asks(3, "on again", y -> y.on());
        on(Page.EMPTY);
        due("the letters are none of it", lettersAndRowBehindOn(), 2 + 10 * 3 + 100);
        fresh();
        words(2);
        x.image();
        dueSheet("wa;l10;", 2);
        due("behind a SHEET", x.on(), 2);
        due("LINE", x.count(3), 30);
        x.drops(0);
        due("image", x.image(), 1);
        x.drops(0);
        due("the latest IMAGE", x.on(), 1);
        fresh();
        due("an IMAGE of no WORD", x.image(), 0);
        words(16);
        due("on", x.on(), 0);
        due("no WORD", x.count(0), 0);
        words(16);
        due("an IMAGE of sixteen", x.image(), 16);
        x.drops(3);
        due("on", x.on(), 16);
        due("adds, full", x.adds(0, 0, 0), -6);
    }

    private static int lettersAndRowBehindOn() {
        fresh();
        x.letter('w');
        x.row(1);
        x.image();
        x.letter('a');
        x.row(2);
        x.row(3);
        x.line(9);
        x.on();
        return x.count(7) + 10 * x.count(6) + 100 * x.count(14);
    }

    private static void fractions() {
        says("Fractions in least terms (0 by 1, if nothing).");
        due("no WORD: mean", x.mean(0), 0);
        due("no WORD: mean", x.mean(1), 1);
        words(3);
        due("none: mean", x.mean(0), 0);
        due("none: mean", x.mean(1), 1);
        x.line(10);
        due("30 by 3", x.mean(0), 10);
        due("30 by 3", x.mean(1), 1);
        says("Fractions are told in least terms; 0 as 0 by 1.");
        words(8);
        x.line(11);
        fraction("two can't be set", 20, 20, 0, 1);
        fraction("two can't be set", 0, 2, 0, 1);
        x.drops(7);
        x.line(10);
        fraction("all", 20, 20, 1, 1);
        fraction("one at most, 1 by 64", 1, 2, 1, 64);
        // t 4: 1 by 4 to the sixth and six times 3: 19 by 4096
        fraction("two at most", 2, 4, 19, 4096);
        fraction("four at most, t 4: 1 + 18 + 135 + 540", 4, 4, 694 / 2, 4096 / 2);
    }

    private static void refusals() {
        says("REFUSALS (the call answers the number, the first that fits in the order in which it tells them; nothing"
            + " changes but how many there were): -1 NOBODY: no such LETTER, WORD, LINE, PATTERN, place. -2 OTHER: what,"
            + " KIND, MANNER. -3 STATE: it is not as it must be. -4 BELOW: a number below the least. -6 ROOM: a number"
            + " above the greatest, no room.");
        refuses(-1, "widens(8, 5): no LETTER", y -> y.widens(8, 5));
        refuses(-1, "forces(5): no WORD", y -> y.forces(5));
        refuses(-1, "lineOf(20, 0): no LINE", y -> y.lineOf(20, 0));
        refuses(-1, "pattern(4, 0): no PATTERN", y -> y.pattern(4, 0));
        refuses(-1, "values(0, 5): no place", y -> y.values(0, 5));
        refuses(-2, "lines(6): what", y -> y.lines(6));
        refuses(-2, "kind(6, 0): KIND", y -> y.kind(6, 0));
        refuses(-2, "manner(3): MANNER", y -> y.manner(3));
        refuses(-4, "line(9): below", y -> y.line(9));
        refuses(-6, "line(61): above", y -> y.line(61));
        on(Page.FULL);
        refuses(-6, "adds(0, 0, 0): no room", y -> y.adds(0, 0, 0));
        on(Page.EMPTY);
        refuses(-3, "back(): none", y -> y.back());
        refuses(-3, "on(): none", y -> y.on());
        fresh();
        for (int k = 1; k <= 40; k++) {
            x.forces(0);
            x.manner(3);
            x.back();
            x.line(9);
            x.line(61);
            for (int number = 1; number <= 6; number++) {
                due("how many of -" + number, x.count(10 + number), number == 5 ? 0 : k);
            }
        }
    }

    private static void refusalsOfFloatsAndLongs() {
        says("Of bits of floats nothing is refused: 0, also where there is none.");
        int[] strange = {-1, 40, LEAST, GREATEST};
        Page[] pages = {Page.EMPTY, Page.USED, Page.FULL};
        for (Page page : pages) {
            on(page);
            for (int i : strange) {
                asks(0, "ratio(" + i + ")", y -> y.ratio(i));
                asks(0, "badness(" + i + ")", y -> y.badness(i));
                asks(0, "demerits(" + i + ")", y -> y.demerits(i));
                asks(0, "total(" + i + ")", y -> y.total(i));
            }
        }
        says("Of longs 4000000000000000000 less them (-1 as 4000000000000000001).");
        due("lost(-1, 2, 0)", x.lost(-1, 2, 0), 4000000000000000004L);
        due("lost(0, 1, 0)", x.lost(0, 1, 0), 4000000000000000004L);
        due("lost(21, 2, 0)", x.lost(21, 2, 0), 4000000000000000006L);
        due("lost(0, 21, 0)", x.lost(0, 21, 0), 4000000000000000006L);
        due("lost(0, 2, 2)", x.lost(0, 2, 2), 4000000000000000002L);
        due("mean(2)", x.mean(2), 4000000000000000002L);
        due("count(12)", x.count(12), 2);
        due("count(14)", x.count(14), 2);
        due("count(16)", x.count(16), 2);
    }
}
