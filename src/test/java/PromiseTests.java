/** Each promise of the document by calls whose answers were worked out by hand. */
public final class PromiseTests {
    private static int wrong;
    private static int promise;
    private static LinesOfFragments x;

    public static void main(String[] args) {
        newObject();
        letter();
        sheetThatComes();
        sheetMisspelt();
        sheetNotAsItMustBe();
        widens();
        adds();
        forces();
        drops();
        patterns();
        line();
        glue();
        tolerance();
        hyphen();
        widow();
        manner();
        kind();
        back();
        backOfEachChange();
        word();
        wordByKinds();
        spelt();
        values();
        pattern();
        lines();
        extremes();
        lineOf();
        ratio();
        ratioByKinds();
        badness();
        demerits();
        demeritsOfHyphens();
        total();
        asManyFragmentsAsCanBe();
        firstFit();
        with();
        narrowest();
        without();
        worst();
        manners();
        two();
        lost();
        mean();
        whatIs();
        row();
        judge();
        clear();
        lots();
        image();
        on();
        count();
        System.out.println(wrong == 0 ? "all promises hold" : wrong + " answers are not as due");
        if (wrong != 0) {
            System.exit(1);
        }
    }

    private static void fresh(int number) {
        promise = number;
        x = new LinesOfFragments();
    }

    private static void due(String call, long got, long want) {
        if (got != want) {
            wrong++;
            System.out.println("promise " + promise + ": " + call + " answered " + got + ", due is " + want);
        }
    }

    private static void dueFloat(String call, int got, float want) {
        due(call, got, Float.floatToIntBits(want));
    }

    private static int sheet(String text) {
        for (char c : text.toCharArray()) {
            x.letter(c);
        }
        return x.sheet();
    }

    private static void dueSheet(String text, int want) {
        due("sheet of " + text, sheet(text), want);
    }

    private static void dueRefused(int number, int times) {
        due("count of " + number, x.count(10 - number), times);
    }

    /** So many WORDS of a, b and c: 10 wide each. */
    private static void words(int many) {
        for (int i = 0; i < many; i++) {
            x.adds(0, 1, 2);
        }
    }

    private static void newObject() {
        fresh(1);
        int[] counts = {0, 0, 0, 30, 0, 0, 0, 0};
        for (int what = 0; what < counts.length; what++) {
            due("count(" + what + ")", x.count(what), counts[what]);
        }
        for (int what = 11; what <= 16; what++) {
            due("count(" + what + ")", x.count(what), 0);
        }
        int[] widths = {3, 4, 3, 4, 3, 2, 4, 4};
        for (int a = 0; a < widths.length; a++) {
            due("widens(" + a + ", 5)", x.widens(a, 5), widths[a]);
        }
        due("line", x.line(20), 30);
        due("glue", x.glue(5, 4, 3), 321);
        due("tolerance", x.tolerance(5), 12);
        due("hyphen", x.hyphen(7), 50);
        due("widow", x.widow(3), 1);
        due("manner", x.manner(1), 0);
        due("kind", x.kind(2, 2), 0);
        due("lines", x.lines(0), 0);
        due("total", x.total(0), 0);
        due("clear", x.clear(), 0);
    }

    private static void letter() {
        fresh(2);
        due("letter(0)", x.letter(0), 1);
        due("letter(255)", x.letter(255), 2);
        due("letter(-1)", x.letter(-1), -4);
        due("letter(256)", x.letter(256), -6);
        due("letter(least)", x.letter(Integer.MIN_VALUE), -4);
        due("count(7)", x.count(7), 2);
        for (int i = 3; i <= 96; i++) {
            due("letter", x.letter('a'), i);
        }
        due("letter, full", x.letter('a'), -6);
        due("letter(-1), full", x.letter(-1), -4);
        due("count(7)", x.count(7), 96);
        dueRefused(-4, 3);
        dueRefused(-6, 2);
    }

    private static void sheetThatComes() {
        fresh(3);
        x.line(20);
        dueSheet("wabcdefghabcd;wa;n;pab13;l35;g450;t22;h07;o4;m2;k59;", 11);
        due("count(5): none left", x.count(5), 0);
        due("count(7): letters are no more", x.count(7), 0);
        due("word(0, 0)", x.word(0, 0), 12);
        due("spelt(0, 11)", x.spelt(0, 11), 3);
        due("word(0, 2)", x.word(0, 2), 0);
        due("word(1, 2)", x.word(1, 2), 1);
        due("pattern(0, 0)", x.pattern(0, 0), 2);
        due("pattern(0, 1)", x.pattern(0, 1), 1);
        due("pattern(0, 2)", x.pattern(0, 2), 3);
        due("line", x.line(20), 35);
        due("glue", x.glue(3, 2, 1), 450);
        due("tolerance", x.tolerance(12), 22);
        due("hyphen", x.hyphen(50), 7);
        due("widow", x.widow(1), 4);
        due("manner", x.manner(0), 2);
        due("kind", x.kind(0, 0), 59);
        dueSheet("n;", 1);
        due("told again, not forced", x.word(1, 2), 0);
        dueSheet("n;n;n;", 3);
        due("forced", x.word(1, 2), 1);
        dueSheet("l10;l60;t00;t40;h00;h99;o0;o9;m0;g999;g200;k00;pa01;pa11;pabc39;", 15);
        due("pattern(3, 0)", x.pattern(3, 0), 3);
        dueSheet("pab19;", 1);
        due("the same LETTERS and PLACE", x.count(1), 4);
        due("its new VALUE", x.pattern(0, 2), 9);
        dueSheet("pab29;pabc29;pc09;pd09;", 4);
        dueSheet("pd08;pc08;pa02;", 3);
        due("count(1)", x.count(1), 8);
    }

    private static void sheetMisspelt() {
        fresh(3);
        dueSheet("", -1000);
        dueSheet("x", -1000);
        dueSheet(";", -1000);
        dueSheet("W", -1000);
        dueSheet("w", -1001);
        dueSheet("w;", -1001);
        dueSheet("wi;", -1001);
        dueSheet("wA;", -1001);
        dueSheet("wa", -1002);
        dueSheet("wa1;", -1002);
        dueSheet("wabcdefghabcde;", -1013);
        dueSheet("wabcdefghabcd", -1013);
        dueSheet("wa;;", -1003);
        dueSheet("wa; wa;", -1003);
        dueSheet("n", -1001);
        dueSheet("na;", -1001);
        dueSheet("p11;", -1001);
        dueSheet("pabc", -1004);
        dueSheet("pabcd11;", -1004);
        dueSheet("pab1;", -1004);
        dueSheet("pab1a;", -1004);
        dueSheet("pab123;", -1005);
        dueSheet("l3;", -1002);
        dueSheet("l300;", -1003);
        dueSheet("l-1;", -1001);
        dueSheet("g32;", -1003);
        dueSheet("g3210;", -1004);
        dueSheet("t1", -1002);
        dueSheet("h123;", -1003);
        dueSheet("o12;", -1002);
        dueSheet("m;", -1001);
        dueSheet("k1;", -1002);
        dueSheet("k123;", -1003);
        dueSheet("l99;wa;x", -1007);
        StringBuilder full = new StringBuilder();
        for (int i = 0; i < 32; i++) {
            full.append("wa;");
        }
        dueSheet(full.toString(), -2048);
        dueSheet(full.substring(0, 95) + "b", -1096);
        due("nothing came", x.count(0), 0);
        due("letters are no more", x.count(7), 0);
        due("line", x.line(30), 30);
        for (int what = 11; what <= 16; what++) {
            due("nothing is counted, " + what, x.count(what), 0);
        }
    }

    private static void sheetNotAsItMustBe() {
        fresh(3);
        String[] faults = {"n;", "pab31;", "pab20;", "pa21;", "l09;", "l61;", "g100;", "g234;", "t41;", "m3;", "k60;"};
        for (String fault : faults) {
            dueSheet(fault, -2000);
            dueSheet("o2;" + fault + "wa;", -2003);
        }
        due("with one nothing comes", x.widow(1), 1);
        due("taken back as before", x.count(5), 1);
        dueSheet("l99;m9;", -2000);
        dueSheet("wa;n;n;wb;t99;", -2010);
        due("no WORD", x.count(0), 0);
        due("still one to take back", x.back(), 0);
        words(15);
        dueSheet("wa;wa;", -2003);
        due("count(0)", x.count(0), 15);
        dueSheet("wa;", 1);
        dueSheet("n;wa;", -2002);
        due("word(15, 2)", x.word(15, 2), 0);
        dueSheet("pa01;pa11;pb01;pb11;pc01;pc11;pd01;pd11;pe01;", -2040);
        dueSheet("pa01;pa11;pb01;pb11;pc01;pc11;pd01;pd11;pd12;", 9);
        dueSheet("pd13;pdd13;", -2005);
        due("pattern(7, 2)", x.pattern(7, 2), 2);
        due("-6 is not counted", x.count(16), 0);
    }

    private static void widens() {
        fresh(4);
        due("widens(5, 9)", x.widens(5, 9), 2);
        due("widens(5, 2)", x.widens(5, 2), 9);
        due("widens(-1, 1)", x.widens(-1, 1), -1);
        due("widens(8, 10)", x.widens(8, 10), -1);
        due("widens(0, 1)", x.widens(0, 1), -4);
        due("widens(0, 10)", x.widens(0, 10), -6);
        due("widens(0, 3)", x.widens(0, 3), 3);
        due("widens(7, 7)", x.widens(7, 7), 4);
        x.adds(7, 5, -1);
        due("word(0, 1)", x.word(0, 1), 9);
        due("count(5)", x.count(5), 5);
        dueRefused(-1, 2);
        dueRefused(-4, 1);
        dueRefused(-6, 1);
    }

    private static void adds() {
        fresh(5);
        due("adds(7, -1, -1)", x.adds(7, -1, -1), 0);
        due("adds(0, 7, -1)", x.adds(0, 7, -1), 1);
        due("adds(0, 1, 7)", x.adds(0, 1, 7), 2);
        int[][] wrongs = {{-1, 0, 0}, {8, 0, 0}, {0, -2, 0}, {0, 8, 0}, {0, 0, -2}, {0, 0, 8}, {0, -1, 0}, {0, -1, 8}};
        for (int[] w : wrongs) {
            due("adds of no LETTER", x.adds(w[0], w[1], w[2]), -1);
        }
        due("word(0, 0)", x.word(0, 0), 1);
        due("word(1, 0)", x.word(1, 0), 2);
        due("word(2, 0)", x.word(2, 0), 3);
        due("spelt(2, 2)", x.spelt(2, 2), 7);
        due("adds(1, 0, 0)", x.adds(1, 0, 0), 3);
        due("word(3, 0)", x.word(3, 0), 3);
        due("adds(1, 0, -1)", x.adds(1, 0, -1), 4);
        due("word(4, 0)", x.word(4, 0), 2);
        for (int i = 5; i < 16; i++) {
            due("adds", x.adds(2, 2, 2), i);
        }
        due("adds, full", x.adds(2, 2, 2), -6);
        due("adds(-1), full", x.adds(-1, 2, 2), -1);
        due("count(0)", x.count(0), 16);
        dueRefused(-1, 9);
        dueRefused(-6, 1);
    }

    private static void forces() {
        fresh(6);
        words(2);
        due("forces(0)", x.forces(0), 1);
        due("word(0, 2)", x.word(0, 2), 1);
        due("word(1, 2)", x.word(1, 2), 0);
        due("lines: a break behind it", x.lines(0), 2);
        due("forces(0)", x.forces(0), 0);
        due("lines", x.lines(0), 1);
        due("forces(2)", x.forces(2), -1);
        due("forces(-1)", x.forces(-1), -1);
        dueRefused(-1, 2);
    }

    private static void drops() {
        fresh(7);
        x.adds(0, -1, -1);
        x.adds(1, 1, -1);
        x.adds(2, 2, 2);
        x.forces(2);
        due("drops(3)", x.drops(3), -1);
        due("drops(-1)", x.drops(-1), -1);
        due("drops(1)", x.drops(1), 2);
        due("word(1, 0)", x.word(1, 0), 3);
        due("word(1, 2)", x.word(1, 2), 1);
        due("spelt(1, 0)", x.spelt(1, 0), 2);
        due("drops(1)", x.drops(1), 1);
        due("word(0, 2)", x.word(0, 2), 0);
        due("drops(0)", x.drops(0), 0);
        due("drops(0)", x.drops(0), -1);
        due("a new WORD is not forced", x.adds(1, 1, -1), 0);
        due("word(0, 2)", x.word(0, 2), 0);
        dueRefused(-1, 3);
    }

    private static void patterns() {
        fresh(8);
        due("patterns(0, -1, 0, 1)", x.patterns(0, -1, 0, 1), 1);
        due("patterns(0, -1, 1, 9)", x.patterns(0, -1, 1, 9), 2);
        due("patterns(0, 0, 2, 5)", x.patterns(0, 0, 2, 5), 3);
        due("patterns(0, -1, 1, 4): takes its place", x.patterns(0, -1, 1, 4), 3);
        due("pattern(1, 2)", x.pattern(1, 2), 4);
        int[][] wrongs = {{-1, -1, 0}, {8, -1, 0}, {0, -2, 0}, {0, 8, 0}, {0, -1, -1}, {0, -1, 2}, {0, 1, 3}};
        for (int[] w : wrongs) {
            due("patterns of nobody", x.patterns(w[0], w[1], w[2], 0), -1);
        }
        due("patterns(0, 1, 1, 0)", x.patterns(0, 1, 1, 0), -4);
        due("patterns(0, 1, 1, 10)", x.patterns(0, 1, 1, 10), -6);
        for (int a = 1; a < 6; a++) {
            due("patterns", x.patterns(a, -1, 0, 1), a + 3);
        }
        due("patterns, full", x.patterns(7, -1, 0, 1), -6);
        due("patterns, full, below", x.patterns(7, -1, 0, 0), -4);
        due("patterns, full, one that is there", x.patterns(5, -1, 0, 2), 8);
        due("pattern(7, 2)", x.pattern(7, 2), 2);
        dueRefused(-1, 7);
        dueRefused(-4, 2);
        dueRefused(-6, 2);
    }

    private static void line() {
        fresh(9);
        due("line(10)", x.line(10), 30);
        due("line(60)", x.line(60), 10);
        due("line(9)", x.line(9), -4);
        due("line(61)", x.line(61), -6);
        due("count(3)", x.count(3), 60);
        dueRefused(-4, 1);
        dueRefused(-6, 1);
    }

    private static void glue() {
        fresh(10);
        due("glue(2, 0, 2)", x.glue(2, 0, 2), 321);
        due("glue(9, 9, 9)", x.glue(9, 9, 9), 202);
        due("glue(1, 99, 99)", x.glue(1, 99, 99), -4);
        due("glue(10, -1, 0)", x.glue(10, -1, 0), -4);
        due("glue(10, 0, -1)", x.glue(10, 0, -1), -4);
        due("glue(10, 0, 0)", x.glue(10, 0, 0), -6);
        due("glue(3, 10, 0)", x.glue(3, 10, 0), -6);
        due("glue(3, 0, 4)", x.glue(3, 0, 4), -6);
        due("glue(3, 0, 3)", x.glue(3, 0, 3), 999);
        due("glue(4, 5, 0)", x.glue(4, 5, 0), 303);
        dueRefused(-4, 3);
        dueRefused(-6, 3);
    }

    private static void tolerance() {
        fresh(11);
        due("tolerance(0)", x.tolerance(0), 12);
        due("tolerance(40)", x.tolerance(40), 0);
        due("tolerance(-1)", x.tolerance(-1), -4);
        due("tolerance(41)", x.tolerance(41), -6);
        due("tolerance(1)", x.tolerance(1), 40);
        dueRefused(-4, 1);
        dueRefused(-6, 1);
        // "abc abc" is 7 short of 30 with one GLUE of 2: a RATIO of 3.5, 14 fourths
        words(4);
        x.tolerance(13);
        due("lines", x.lines(0), -9);
        x.tolerance(14);
        due("lines", x.lines(0), 2);
    }

    private static void hyphen() {
        fresh(12);
        due("hyphen(0)", x.hyphen(0), 50);
        due("hyphen(99)", x.hyphen(99), 0);
        due("hyphen(-1)", x.hyphen(-1), -4);
        due("hyphen(100)", x.hyphen(100), -6);
        due("hyphen(3)", x.hyphen(3), 99);
        dueRefused(-4, 1);
        dueRefused(-6, 1);
    }

    private static void widow() {
        fresh(13);
        due("widow(0)", x.widow(0), 1);
        due("widow(9)", x.widow(9), 0);
        due("widow(-1)", x.widow(-1), -4);
        due("widow(10)", x.widow(10), -6);
        due("widow(1)", x.widow(1), 9);
        dueRefused(-4, 1);
        dueRefused(-6, 1);
    }

    private static void manner() {
        fresh(14);
        due("manner(2)", x.manner(2), 0);
        due("manner(1)", x.manner(1), 2);
        due("manner(3)", x.manner(3), -2);
        due("manner(-1)", x.manner(-1), -2);
        due("manner(0)", x.manner(0), 1);
        dueRefused(-2, 2);
    }

    private static void kind() {
        fresh(15);
        due("kind(5, 9)", x.kind(5, 9), 0);
        due("kind(1, 0)", x.kind(1, 0), 59);
        due("kind(6, -1)", x.kind(6, -1), -2);
        due("kind(-1, 0)", x.kind(-1, 0), -2);
        due("kind(0, -1)", x.kind(0, -1), -4);
        due("kind(0, 10)", x.kind(0, 10), -6);
        due("kind(0, 0)", x.kind(0, 0), 10);
        dueRefused(-2, 2);
        dueRefused(-4, 1);
        dueRefused(-6, 1);
    }

    private static void back() {
        fresh(16);
        due("back, nothing there", x.back(), -3);
        dueRefused(-3, 1);
        for (int i = 0; i < 10; i++) {
            x.line(11 + i);
        }
        x.line(9);
        x.image();
        x.row(4);
        x.letter('w');
        due("8 at most, refused ones are none", x.count(5), 8);
        for (int left = 7; left >= 0; left--) {
            due("back", x.back(), left);
            due("count(3)", x.count(3), 12 + left);
        }
        due("back, no more", x.back(), -3);
        due("count(6)", x.count(6), 1);
        due("count(7)", x.count(7), 1);
        dueRefused(-4, 1);
        x.line(40);
        x.line(40);
        due("back of one that was alike", x.back(), 1);
        due("count(3)", x.count(3), 40);
        x.line(50);
        due("back", x.back(), 1);
        due("back", x.back(), 0);
        due("count(3)", x.count(3), 12);
    }

    private static void backOfEachChange() {
        fresh(16);
        x.patterns(0, -1, 0, 1);
        x.adds(0, 1, 2);
        x.back();
        due("count(0)", x.count(0), 0);
        x.adds(0, 1, 2);
        x.forces(0);
        x.back();
        due("word(0, 2)", x.word(0, 2), 0);
        x.drops(0);
        x.back();
        due("word(0, 0)", x.word(0, 0), 3);
        x.widens(0, 9);
        x.back();
        due("word(0, 1)", x.word(0, 1), 10);
        x.patterns(0, -1, 0, 7);
        x.back();
        due("pattern(0, 2)", x.pattern(0, 2), 1);
        x.glue(9, 8, 7);
        x.tolerance(1);
        x.hyphen(2);
        x.widow(3);
        x.manner(2);
        x.kind(5, 4);
        due("count(5)", x.count(5), 8);
        for (int i = 0; i < 6; i++) {
            x.back();
        }
        due("glue", x.glue(3, 2, 1), 321);
        due("tolerance", x.tolerance(12), 12);
        due("hyphen", x.hyphen(50), 50);
        due("widow", x.widow(1), 1);
        due("manner", x.manner(0), 0);
        due("kind", x.kind(0, 0), 0);
    }

    private static void word() {
        fresh(17);
        sheet("wabcdefghabcd;pbc11;pf11;pg01;pbc12;pe13;pcd11;n;");
        due("word(0, 0)", x.word(0, 0), 12);
        due("word(0, 1)", x.word(0, 1), 41);
        due("word(0, 2)", x.word(0, 2), 1);
        // bc: places 2, 10 of VALUE 2; cd: 3 and 11; e: 5; f and g: 6
        due("word(0, 4)", x.word(0, 4), 1 << 3 | 1 << 5 | 1 << 6);
        due("word(0, 3)", x.word(0, 3), 4);
        due("word(0, 5)", x.word(0, 5), -2);
        due("word(0, -1)", x.word(0, -1), -2);
        due("word(1, 9)", x.word(1, 9), -1);
        due("word(-1, 0)", x.word(-1, 0), -1);
        dueRefused(-1, 2);
        dueRefused(-2, 2);
        sheet("paa11;paa03;waaaaaaaaaaaa;waaa;waaaa;");
        due("places 2 .. 10", x.word(1, 4), 0x7fc);
        due("word(1, 3)", x.word(1, 3), 10);
        due("too short", x.word(2, 4), 0);
        due("just one place", x.word(3, 4), 4);
    }

    private static void wordByKinds() {
        fresh(17);
        sheet("paa11;waaaa;waaaaa;");
        int[] two = {4, 4, 4, 0, 0, 4};
        int[] both = {12, 12, 12, 0, 12, 12};
        for (int kind = 0; kind < 6; kind++) {
            x.kind(kind, 4);
            due("word(0, 4) of KIND " + kind, x.word(0, 4), two[kind]);
            due("word(1, 4) of KIND " + kind, x.word(1, 4), both[kind]);
            due("word(1, 3) of KIND " + kind, x.word(1, 3), 1 + Integer.bitCount(both[kind]));
            due("lines(5) of KIND " + kind, x.lines(5), 2 + Integer.bitCount(two[kind] | both[kind] << 8));
        }
    }

    private static void spelt() {
        fresh(18);
        sheet("wabcdefghhgfe;wb;");
        for (int i = 0; i < 12; i++) {
            due("spelt(0, " + i + ")", x.spelt(0, i), i < 8 ? i : 15 - i);
        }
        due("spelt(1, 0)", x.spelt(1, 0), 1);
        due("spelt(1, 1)", x.spelt(1, 1), -1);
        due("spelt(0, 12)", x.spelt(0, 12), -1);
        due("spelt(0, -1)", x.spelt(0, -1), -1);
        due("spelt(2, 0)", x.spelt(2, 0), -1);
        due("spelt(-1, 0)", x.spelt(-1, 0), -1);
        dueRefused(-1, 5);
    }

    private static void values() {
        fresh(19);
        sheet("wabab;pab02;pab17;pb14;pabc19;pba29;paba05;k30;");
        int[] want = {5, 7, 4, 9, 4};
        for (int place = 0; place < want.length; place++) {
            due("values(0, " + place + ")", x.values(0, place), want[place]);
        }
        due("values(0, 5)", x.values(0, 5), -1);
        due("values(0, -1)", x.values(0, -1), -1);
        due("values(1, 0)", x.values(1, 0), -1);
        due("values(-1, 0)", x.values(-1, 0), -1);
        dueRefused(-1, 4);
        fresh(19);
        sheet("wab;");
        due("no PATTERN", x.values(0, 1), 0);
        x.patterns(0, 1, 1, 6);
        x.patterns(1, 0, 1, 9);
        due("values(0, 1)", x.values(0, 1), 6);
        due("values(0, 0)", x.values(0, 0), 0);
    }

    private static void pattern() {
        fresh(20);
        sheet("phgf29;pb13;");
        x.patterns(6, 5, 0, 8);
        int[][] want = {{3, 2, 9, 7}, {1, 1, 3, 1}, {2, 0, 8, 6}};
        for (int i = 0; i < want.length; i++) {
            for (int what = 0; what < 4; what++) {
                due("pattern(" + i + ", " + what + ")", x.pattern(i, what), want[i][what]);
            }
        }
        due("pattern(3, 9)", x.pattern(3, 9), -1);
        due("pattern(-1, 0)", x.pattern(-1, 0), -1);
        due("pattern(0, 4)", x.pattern(0, 4), -2);
        due("pattern(0, -1)", x.pattern(0, -1), -2);
        dueRefused(-1, 2);
        dueRefused(-2, 2);
    }

    private static void lines() {
        fresh(21);
        words(3);
        due("lines(0): none", x.lines(0), -9);
        due("lines(1)", x.lines(1), -9);
        due("lines(2)", x.lines(2), -9);
        due("lines(5)", x.lines(5), 3);
        x.tolerance(40);
        due("lines(0)", x.lines(0), 2);
        due("lines(1)", x.lines(1), 0);
        due("lines(2): abc alone", x.lines(2), 1);
        x.widow(0);
        due("lines(2), whatever WIDOW is", x.lines(2), 1);
        x.forces(1);
        due("behind a FORCED one no widow", x.lines(2), 0);
        due("lines(6)", x.lines(6), -2);
        due("lines(-1)", x.lines(-1), -2);
        dueRefused(-2, 2);
        x.forces(0);
        due("each on its own", x.lines(0), 3);
        due("the first LINE has nothing ahead", x.lines(2), 0);
        fresh(21);
        hyphenedPage();
        due("lines(0)", x.lines(0), 3);
        due("lines(1)", x.lines(1), 2);
        due("lines(2): aa behind a HYPHEN", x.lines(2), 1);
        due("lines(5)", x.lines(5), 3);
    }

    /** aa-aa-aa in LINES of 12: each HYPHEN ends a LINE of "aa-", 6 and 2 wide, by RATIOS that no GLUE makes. */
    private static void hyphenedPage() {
        sheet("paa21;pbb01;waabbaa;l10;g222;");
        x.patterns(1, 1, 2, 1);
        x.widens(0, 4);
    }

    private static void extremes() {
        fresh(21);
        // LINES "abc f" (15: RATIO 1/2), "abc ff" (17: -1/3), "abc f", "abc ff", "a"
        sheet("wabc;wf;wabc;wff;wabc;wf;wabc;wff;wa;l16;g323;t20;");
        due("lines(0)", x.lines(0), 5);
        due("LOOSEST, of several the first", x.lines(3), 0);
        due("TIGHTEST, of several the first", x.lines(4), 1);
        fresh(21);
        due("LOOSEST without WORDS", x.lines(3), -9);
        words(1);
        due("LOOSEST", x.lines(3), 0);
        due("TIGHTEST", x.lines(4), 0);
    }

    private static void lineOf() {
        fresh(22);
        words(5);
        x.tolerance(14);
        x.forces(2);
        // "abc abc", "abc" FORCED, "abc abc" LAST
        int[][] want = {{0, 2, 23, 2, 0}, {2, 1, 10, 1, 2}, {3, 2, 23, 2, 3}};
        for (int i = 0; i < want.length; i++) {
            for (int what = 0; what < 5; what++) {
                due("lineOf(" + i + ", " + what + ")", x.lineOf(i, what), want[i][what]);
            }
        }
        due("lineOf(3, 9)", x.lineOf(3, 9), -1);
        due("lineOf(-1, 0)", x.lineOf(-1, 0), -1);
        due("lineOf(0, 5)", x.lineOf(0, 5), -2);
        due("lineOf(0, -1)", x.lineOf(0, -1), -2);
        dueRefused(-1, 2);
        dueRefused(-2, 2);
        x.forces(4);
        due("the last WORD is FORCED: so is its END", x.lineOf(2, 4), 2);
        fresh(22);
        hyphenedPage();
        int[][] hyphened = {{0, 1, 10, 1, 1}, {1, 1, 10, 1, 1}, {2, 1, 8, 1, 3}};
        for (int i = 0; i < hyphened.length; i++) {
            for (int what = 0; what < 5; what++) {
                due("lineOf(" + i + ", " + what + ")", x.lineOf(i, what), hyphened[i][what]);
            }
        }
        fresh(22);
        // "ff aa-" and "aa ff": FRAGMENTS of a WORD in both LINES
        sheet("wff;waaaa;wff;paa11;l15;");
        due("lineOf(0, 1)", x.lineOf(0, 1), 2);
        due("lineOf(0, 2)", x.lineOf(0, 2), 15);
        due("lineOf(1, 0)", x.lineOf(1, 0), 2);
        due("lineOf(1, 2)", x.lineOf(1, 2), 13);
        due("lineOf(1, 3)", x.lineOf(1, 3), 2);
    }

    private static void ratio() {
        fresh(23);
        words(4);
        due("none", x.ratio(0), 0);
        x.tolerance(14);
        dueFloat("ratio(0)", x.ratio(0), 3.5f);
        due("ratio(1): LAST", x.ratio(1), 0);
        due("ratio(2)", x.ratio(2), 0);
        due("ratio(-1)", x.ratio(-1), 0);
        x.line(22);
        dueFloat("ratio(0)", x.ratio(0), -1.0f);
        dueFloat("ratio(1): LAST shrinks", x.ratio(1), -1.0f);
        x.line(23);
        due("just as wide", x.ratio(0), 0);
        x.glue(4, 2, 3);
        x.line(22);
        dueFloat("ratio(0)", x.ratio(0), -2.0f / 3.0f);
        x.glue(4, 9, 0);
        x.line(25);
        dueFloat("ratio(0)", x.ratio(0), 1.0f / 9.0f);
        x.line(23);
        due("no shrink: -99 does not fit", x.lines(0), -9);
        x.glue(4, 0, 1);
        x.line(25);
        due("no stretch: 99 does not fit", x.lines(0), -9);
        due("nothing is refused", x.count(11), 0);
        // two WORDS in a LINE stretch one GLUE, three two: "f f f" is 12
        fresh(23);
        sheet("wf;wf;wf;n;wf;wf;wf;wabc;l13;g323;t40;");
        due("FORCED", x.ratio(0), 0);
        sheet("n;l30;t40;wf;wf;");
        due("lineOf(1, 1)", x.lineOf(1, 1), 4);
        due("lineOf(1, 2)", x.lineOf(1, 2), 25);
        due("FORCED", x.ratio(1), 0);
        x.forces(6);
        due("lineOf(1, 1)", x.lineOf(1, 1), 6);
        dueFloat("five GLUES", x.ratio(1), -5.0f / 15.0f);
    }

    private static void ratioByKinds() {
        fresh(23);
        words(4);
        x.tolerance(40);
        float[] want = {7.0f / 2, 7.0f / 3, 7.0f / 2, 7.0f / 3, 7.0f / 2, 7.0f / 6};
        for (int kind = 0; kind < 6; kind++) {
            x.kind(kind, 1);
            dueFloat("stretch of KIND " + kind, x.ratio(0), want[kind]);
        }
        x.line(22);
        float[] tight = {-1.0f, -1.0f, -0.5f, -1.0f, -0.5f, -1.0f};
        for (int kind = 0; kind < 6; kind++) {
            x.kind(kind, 9);
            dueFloat("shrink of KIND " + kind, x.ratio(0), tight[kind]);
        }
        x.glue(3, 2, 3);
        x.kind(2, 0);
        dueFloat("TIGHT not above wide", x.ratio(0), -1.0f / 3.0f);
        x.kind(4, 0);
        dueFloat("NOTE not above wide", x.ratio(0), -1.0f / 3.0f);
    }

    private static void badness() {
        fresh(24);
        words(4);
        due("none", x.badness(0), 0);
        x.tolerance(14);
        dueFloat("badness(0)", x.badness(0), 4287.5f);
        due("badness(1)", x.badness(1), 0);
        due("badness(2)", x.badness(2), 0);
        due("badness(-1)", x.badness(-1), 0);
        x.glue(4, 2, 3);
        x.line(22);
        float third = 2.0f / 3.0f;
        float bad = third * third;
        bad = bad * third;
        bad = bad * 100.0f;
        dueFloat("without its sign", x.badness(0), bad);
    }

    private static void demerits() {
        fresh(25);
        words(3);
        due("none", x.demerits(0), 0);
        x.tolerance(14);
        dueFloat("demerits(0)", x.demerits(0), 4288.5f * 4288.5f);
        dueFloat("demerits(1): widow", x.demerits(1), 1.0f + 1000.0f);
        due("demerits(2)", x.demerits(2), 0);
        due("demerits(-1)", x.demerits(-1), 0);
        x.widow(7);
        dueFloat("demerits(1)", x.demerits(1), 1.0f + 7000.0f);
        x.manner(1);
        dueFloat("MANNER 1", x.demerits(0), 4288.5f * 4288.5f);
        x.manner(2);
        dueFloat("MANNER 2", x.demerits(0), 4288.5f);
        dueFloat("MANNER 2, widow", x.demerits(1), 7001.0f);
        x.adds(0, -1, -1);
        dueFloat("two WORDS are no widow", x.demerits(1), 1.0f);
        x.forces(1);
        x.forces(2);
        dueFloat("FORCED ahead: no widow", x.demerits(1), 1.0f);
        x.forces(1);
        dueFloat("FORCED, GLUE ahead: widow", x.demerits(1), 7001.0f);
        dueFloat("LAST, FORCED ahead: no widow", x.demerits(2), 1.0f);
    }

    private static void demeritsOfHyphens() {
        fresh(25);
        hyphenedPage();
        dueFloat("penalty", x.demerits(0), 1.0f + 2500.0f);
        dueFloat("penalty, HYPHEN ahead", x.demerits(1), 2501.0f + 3000.0f);
        dueFloat("HYPHEN ahead, widow", x.demerits(2), 1001.0f);
        x.hyphen(99);
        dueFloat("HYPHEN 99", x.demerits(0), 1.0f + 9801.0f);
        x.manner(1);
        dueFloat("MANNER 1", x.demerits(0), 10000.0f);
        x.manner(2);
        dueFloat("MANNER 2", x.demerits(1), 3100.0f);
        float[] penalties = {99, 99, 49, -1, 49, 105};
        for (int kind = 0; kind < 6; kind++) {
            x.kind(kind, kind == 4 ? 5 : 6);
            if (kind == 3) {
                due("a POEM has no HYPHENS", x.lines(0), -9);
            } else {
                dueFloat("penalty of KIND " + kind, x.demerits(0), 1.0f + penalties[kind]);
            }
        }
        x.kind(4, 6);
        due("a NOTE has none in WORDS of 6", x.lines(0), -9);
    }

    private static void total() {
        fresh(26);
        due("without WORDS", x.total(0), 0);
        due("BY 1", x.total(1), 0);
        words(2);
        dueFloat("one LINE", x.total(0), 1.0f);
        dueFloat("BY 1", x.total(1), 1.0f);
        due("BY 2: none", x.total(2), 0);
        due("total(21)", x.total(21), 0);
        due("total(-1)", x.total(-1), 0);
        due("nothing is refused", x.count(14) + x.count(16), 0);
        fresh(26);
        // of f, 2 wide, LINE 12: three are 12 wide, two 7 (RATIO 5 by 5), one fits only as the last, a widow
        sheet("wf;wf;wf;wf;wf;wf;l12;g350;t40;");
        dueFloat("two LINES of three", x.total(0), 2.0f);
        dueFloat("BY 2", x.total(2), 2.0f);
        dueFloat("BY 3: three, two, one", x.total(3), 1.0f + 101.0f * 101.0f + 1001.0f);
        x.manner(2);
        dueFloat("BY 3: two, two, two", x.total(3), 101.0f + 101.0f + 1.0f);
        due("BY 1", x.total(1), 0);
        due("BY 4", x.total(4), 0);
        fresh(26);
        for (int i = 0; i < 16; i++) {
            x.adds(0, -1, -1);
            x.forces(i);
        }
        dueFloat("BY 16", x.total(16), 16.0f);
        due("BY 17", x.total(17), 0);
        due("BY 20", x.total(20), 0);
        fresh(26);
        // three WORDS of six LINES "ab-", 10 wide as LINE is, and two WORDS FORCED
        sheet("wabababababab;n;wabababababab;n;wabababababab;n;wa;n;wb;n;pba11;l10;h00;");
        x.widens(0, 4);
        due("lines(0)", x.lines(0), 20);
        due("BY 20, the most", x.total(20), x.total(0));
        dueFloat("BY 20, the most", x.total(20), 20.0f + 12 * 3000.0f + 3 * 1000.0f);
        due("BY 19", x.total(19), 0);
        fresh(26);
        // a sum in floats, not exact: 4288.5 squared and 1001 from the left
        words(3);
        x.tolerance(14);
        dueFloat("total(0)", x.total(0), 4288.5f * 4288.5f + 1001.0f);
    }

    /** 16 WORDS of 10 FRAGMENTS: a LINE each, as wide as LINE is. */
    private static void asManyFragmentsAsCanBe() {
        fresh(26);
        for (int i = 0; i < 16; i++) {
            sheet("waaaaaaaaaaaa;n;");
        }
        sheet("paa11;l10;g222;m2;h00;");
        x.widens(0, 8);
        due("lines(5)", x.lines(5), 160);
        due("lines(0): aa is 16 wide, and fits nowhere", x.lines(0), -9);
        x.widens(0, 4);
        // "aa-" is 10, "a-" is 6: by the HYPHEN's 2 alone "a-" is short, two of them are just 10
        due("lines(0)", x.lines(0), 16 * 6);
        due("lines(1)", x.lines(1), 16 * 5);
        due("lineOf(95, 0)", x.lineOf(95, 0), 159);
        due("firstFit", x.firstFit(), 96);
        dueFloat("total(0)", x.total(0), 96.0f + 16 * 4 * 3000.0f + 16 * 1000.0f);
        due("BY 20", x.total(20), 0);
    }

    private static void firstFit() {
        fresh(27);
        due("without WORDS", x.firstFit(), 0);
        words(4);
        due("none", x.firstFit(), -9);
        x.tolerance(14);
        due("two LINES of two", x.firstFit(), 2);
        x.forces(0);
        due("not beyond a FORCED one", x.firstFit(), 3);
        fresh(27);
        // "f f f" fits by shrinking (12 to 10), "f f" by stretching (7 to 10); "f f f f" is 17, 16 shrunk
        sheet("wf;wf;wf;wf;wf;wab;l10;g351;t40;");
        due("the farthest each time: f f f, then f f, then ab", x.firstFit(), 3);
        fresh(27);
        // the farthest is a dead end: behind "f f" comes "f", 2 wide, then a WORD of 9
        sheet("wf;wf;wf;wabcd;wab;l10;g353;t40;");
        due("lines(0)", x.lines(0), -9);
        due("firstFit", x.firstFit(), -9);
        fresh(27);
        sheet("wf;wf;wf;waf;wbb;l10;g353;t40;");
        due("f f, f af, bb", x.lines(0), 3);
        due("f f f, then af fits not by itself", x.firstFit(), -9);
    }

    private static void with() {
        fresh(28);
        due("without WORDS", x.with(10), 0);
        words(4);
        x.tolerance(14);
        due("with(30)", x.with(30), 2);
        due("with(31)", x.with(31), -9);
        due("with(60)", x.with(60), 1);
        due("with(10)", x.with(10), 4);
        due("with(9)", x.with(9), -4);
        due("with(61)", x.with(61), -6);
        due("LINE is as it was", x.count(3), 30);
        due("count(5)", x.count(5), 5);
        dueRefused(-4, 1);
        dueRefused(-6, 1);
    }

    private static void narrowest() {
        fresh(29);
        due("without WORDS", x.narrowest(1), 10);
        words(4);
        x.tolerance(14);
        due("4 LINES at most", x.narrowest(4), 10);
        due("3 LINES at most", x.narrowest(3), 22);
        due("2 LINES at most", x.narrowest(2), 22);
        due("1 LINE", x.narrowest(1), 46);
        due("narrowest(0)", x.narrowest(0), -4);
        due("narrowest(20)", x.narrowest(20), 10);
        due("narrowest(21)", x.narrowest(21), -6);
        x.widens(0, 9);
        x.widens(1, 9);
        due("too wide at all", x.narrowest(1), -9);
        x.drops(0);
        x.drops(0);
        x.drops(0);
        x.adds(0, 0, 0);
        due("9 9 3 and 9 9 9 by a GLUE of 3, shrunk by 1", x.narrowest(1), 50);
        x.adds(5, 5, -1);
        x.adds(5, -1, -1);
        due("6 more, and 9 of GLUE: by BEST two LINES even at 60", x.narrowest(1), -9);
        x.manner(2);
        due("by MANNER 2 one, shrunk by 3", x.narrowest(1), 60);
        x.adds(5, -1, -1);
        due("beyond 60", x.narrowest(1), -9);
        dueRefused(-4, 1);
        dueRefused(-6, 1);
    }

    private static void without() {
        fresh(30);
        words(5);
        x.tolerance(14);
        due("all: LINES", x.lines(0), 3);
        due("without(0, 0)", x.without(0, 0), 2);
        dueFloat("without(4, 1): abc abc is LAST then", x.without(4, 1), 4288.5f * 4288.5f + 1.0f);
        x.tolerance(12);
        due("none", x.without(0, 0), -9);
        due("none", x.without(0, 1), 0);
        due("without(5, 9)", x.without(5, 9), -1);
        due("without(-1, 0)", x.without(-1, 0), -1);
        due("without(0, 2)", x.without(0, 2), -2);
        due("without(0, -1)", x.without(0, -1), -2);
        dueRefused(-1, 2);
        dueRefused(-2, 2);
        due("nothing is dropped", x.count(0), 5);
        fresh(30);
        words(1);
        due("no WORD left: LINES", x.without(0, 0), 0);
        due("no WORD left: TOTAL", x.without(0, 1), 0);
        fresh(30);
        words(3);
        x.forces(0);
        due("FORCED goes with its WORD", x.without(0, 0), 1);
        due("and stays with it", x.without(1, 0), 2);
    }

    private static void worst() {
        fresh(31);
        due("without WORDS", x.worst(), -9);
        words(1);
        due("one WORD", x.worst(), 0);
        words(1);
        due("TOTAL 1 either way", x.worst(), -9);
        words(1);
        due("none with all, one without any: the least", x.worst(), 0);
        words(1);
        due("none with all, none without", x.worst(), -9);
        fresh(31);
        // "f f f" twice, 12 wide both, is 2.0; b makes LINES that are worse
        sheet("wf;wf;wf;wf;wb;wf;wf;l12;g350;t40;");
        due("worst", x.worst(), 4);
    }

    private static void manners() {
        fresh(32);
        due("without WORDS", x.manners(), 0);
        words(3);
        due("none", x.manners(), -9);
        x.tolerance(14);
        due("alike: the least", x.manners(), 0);
        x.manner(2);
        due("whichever it is now", x.manners(), 0);
        due("MANNER is as it was", x.manner(0), 2);
        // "c c c" is 15 wide, shrunk to 13: 101 squared is more than "c c" (RATIO 4 by 5) and a widow, 101 is less
        fresh(32);
        sheet("wc;wc;wc;l13;g351;t40;");
        due("by MANNER 0 two LINES", x.lines(0), 2);
        due("by MANNER 2 one", x.manners(), 2);
        x.manner(2);
        due("by MANNER 2 one", x.lines(0), 1);
    }

    private static void two() {
        fresh(33);
        due("without WORDS", x.two(10, 60), -9);
        words(4);
        x.tolerance(14);
        due("two(22, 23): both have, 23 is less", x.two(22, 23), 1);
        due("two(23, 22)", x.two(23, 22), 0);
        due("two(23, 23)", x.two(23, 23), -9);
        due("two(31, 30): none is no less", x.two(31, 30), 1);
        due("two(30, 31)", x.two(30, 31), 0);
        due("two(31, 32): none both", x.two(31, 32), -9);
        due("two(59, 60): both alike", x.two(59, 60), -9);
        due("two(60, 59): both alike", x.two(60, 59), -9);
        due("two(60, 10)", x.two(60, 10), 0);
        due("two(10, 60)", x.two(10, 60), 1);
        due("two(9, 61)", x.two(9, 61), -4);
        due("two(61, 9)", x.two(61, 9), -4);
        due("two(61, 10)", x.two(61, 10), -6);
        due("two(10, 61)", x.two(10, 61), -6);
        due("LINE is as it was", x.count(3), 30);
        dueRefused(-4, 2);
        dueRefused(-6, 2);
    }

    private static void lost() {
        fresh(34);
        due("without WORDS", x.lost(0, 2, 0), 1);
        due("below", x.lost(0, 2, 1), 1);
        words(2);
        due("1 LINE at most, above", x.lost(1, 5, 0), 1);
        due("1 LINE at most, below", x.lost(1, 5, 1), 1);
        due("0 LINES: both lost", x.lost(0, 6, 0), 1);
        due("0 LINES, below", x.lost(0, 6, 1), 36);
        x.forces(0);
        // two LINES only if both are there: 4/9; else one or none
        due("1 LINE, above", x.lost(1, 3, 0), 5);
        due("1 LINE, below", x.lost(1, 3, 1), 9);
        due("in least terms", x.lost(1, 2, 0), 3);
        due("in least terms", x.lost(1, 2, 1), 4);
        fresh(34);
        words(3);
        // three of "abc" can't be set: not so; odds 1 in 20 each
        due("20 LINES, above", x.lost(20, 20, 0), 8000 - 6859);
        due("20 LINES, below", x.lost(20, 20, 1), 8000);
        x.widens(0, 9);
        x.widens(1, 9);
        x.widens(2, 9);
        x.line(20);
        words(4);
        // 7 WORDS that can't be set: one is always there
        due("0 by 1", x.lost(20, 2, 0), 0);
        due("0 by 1", x.lost(20, 2, 1), 1);
        x.drops(0);
        due("6 WORDS, all lost", x.lost(20, 2, 0), 1);
        due("6 WORDS, all lost", x.lost(20, 2, 1), 64);
        due("20 to the sixth", x.lost(20, 20, 1), 64000000);
        due("lost(-1, 21, 2)", x.lost(-1, 21, 2), 4000000000000000004L);
        due("lost(21, 1, 2)", x.lost(21, 1, 2), 4000000000000000004L);
        due("lost(21, 2, 2)", x.lost(21, 2, 2), 4000000000000000006L);
        due("lost(0, 21, 2)", x.lost(0, 21, 2), 4000000000000000006L);
        due("lost(0, 2, 2)", x.lost(0, 2, 2), 4000000000000000002L);
        due("lost(0, 2, -1)", x.lost(0, 2, -1), 4000000000000000002L);
        dueRefused(-4, 2);
        dueRefused(-6, 2);
        dueRefused(-2, 2);
    }

    private static void mean() {
        fresh(35);
        due("without WORDS", x.mean(0), 0);
        due("without WORDS", x.mean(1), 1);
        words(3);
        due("none", x.mean(0), 0);
        due("none", x.mean(1), 1);
        x.tolerance(14);
        due("23 and 10, above", x.mean(0), 33);
        due("below", x.mean(1), 2);
        x.adds(0, 1, 2);
        due("23 and 23, above", x.mean(0), 23);
        due("below", x.mean(1), 1);
        due("mean(2)", x.mean(2), 4000000000000000002L);
        due("mean(-1)", x.mean(-1), 4000000000000000002L);
        dueRefused(-2, 2);
    }

    private static void whatIs() {
        fresh(36);
        due("of none all is so: KINDS", x.whatIs(0), 63);
        due("of none all is so: FIGURES", x.whatIs(1), 1023);
        words(3);
        x.tolerance(8);
        x.kind(3, 4);
        // LINE 20: "abc" alone never, "abc abc" 3 too wide; 24: 1 short; 28: 5 short; 32: 9 short; 36 all
        int[] row = {0, 2, 2, 2, 1};
        for (int v : row) {
            x.row(v);
        }
        // 28: a stretch of 3 at least; 32: 5 at least: RAGGED, POEM (6), LOOSE (12)
        due("KINDS", x.whatIs(0), 1 << 1 | 1 << 3 | 1 << 5);
        // a RAGGED one needs a FIGURE of 3 at least
        due("FIGURES", x.whatIs(1), 1023 - 7);
        x.kind(5, 0);
        due("FIGURE 0: none but LOOSE stretches, and that 4", x.whatIs(0), 0);
        // a LOOSE one needs 5 by twice
        due("FIGURES of LOOSE", x.whatIs(1), 1023 - 1);
        x.kind(2, 0);
        due("FIGURES of TIGHT", x.whatIs(1), 0);
        due("the ROW stays", x.count(6), 5);
        due("KIND stays", x.count(4), 2);
        due("whatIs(2)", x.whatIs(2), -2);
        due("whatIs(-1)", x.whatIs(-1), -2);
        dueRefused(-2, 2);
        fresh(36);
        // one WORD, 78 wide: from LINE 80 on it is one LINE
        x.widens(0, 9);
        sheet("waaaaaabbbbbb;");
        for (int ones = 0; ones <= 2; ones++) {
            x.clear();
            for (int i = 0; i < 16; i++) {
                x.row(i >= 16 - ones ? 1 : 0);
            }
            due("KINDS with a 1 for the last " + ones, x.whatIs(0), ones == 1 ? 63 : 0);
            due("FIGURES with a 1 for the last " + ones, x.whatIs(1), ones == 1 ? 1023 : 0);
        }
    }

    private static void row() {
        fresh(37);
        due("row(0)", x.row(0), 1);
        due("row(99)", x.row(99), 2);
        due("row(-1)", x.row(-1), -4);
        due("row(100)", x.row(100), -6);
        for (int i = 3; i <= 16; i++) {
            due("row", x.row(1), i);
        }
        due("row, full", x.row(1), -6);
        due("row(-1), full", x.row(-1), -4);
        due("count(6)", x.count(6), 16);
        dueRefused(-4, 2);
        dueRefused(-6, 2);
    }

    private static int judged(int... row) {
        for (int v : row) {
            x.row(v);
        }
        return x.judge();
    }

    private static void judge() {
        fresh(38);
        due("no LINES, none told", judged(), -9);
        due("no LINES, one told", judged(0), 0);
        words(5);
        due("none, one told", judged(0), 0);
        due("none, none told", judged(), -9);
        x.tolerance(14);
        x.forces(2);
        due("all so", judged(0, 2, 3), -9);
        due("the ROW has none then", x.count(6), 0);
        due("the first is not so", judged(1, 2, 3), 0);
        due("the second is not so", judged(0, 3, 4), 1);
        due("one too many", judged(0, 2, 3, 4), 3);
        due("two too many", judged(0, 2, 3, 4, 5), 3);
        due("too few", judged(0, 2), 2);
        due("none told", judged(), 0);
        due("too few, and not so", judged(0, 1), 1);
        due("count(6)", x.count(6), 0);
    }

    private static void clear() {
        fresh(39);
        due("clear, none", x.clear(), 0);
        x.row(1);
        x.row(2);
        due("clear", x.clear(), 2);
        due("count(6)", x.count(6), 0);
        due("clear again", x.clear(), 0);
        due("row(5)", x.row(5), 1);
    }

    private static void lots() {
        fresh(40);
        due("without WORDS", x.lots(20, 1, 0), 0);
        due("without WORDS", x.lots(20, 1, 1), 0);
        words(4);
        // the DRAWS of seed 0: 1013904223 by 256 is 3960563, modulo 41: 4; so LINE 14
        due("DRAW", 1013904223 / 256 % 41, 4);
        int[] seeds = {0, 1, 7, -1, 123456789, Integer.MIN_VALUE, Integer.MAX_VALUE};
        for (int z : seeds) {
            // an object is used for 512 calls at most
            fresh(40);
            words(4);
            int s = z;
            int together = 0;
            int none = 0;
            for (int n = 1; n <= 20; n++) {
                s = s * 1664525 + 1013904223;
                int wide = (s & Integer.MAX_VALUE) / 256 % 41 + 10;
                s = s * 1664525 + 1013904223;
                int old = x.tolerance((s & Integer.MAX_VALUE) / 256 % 41);
                int many = x.with(wide);
                x.tolerance(old);
                together += Math.max(0, many);
                none += many == -9 ? 1 : 0;
                due("lots(" + n + ", " + z + ", 0)", x.lots(n, z, 0), together);
                if (n % 5 == 0) {
                    due("lots(" + n + ", " + z + ", 1)", x.lots(n, z, 1), none);
                }
            }
        }
        fresh(40);
        words(4);
        due("lots(0, 0, 2)", x.lots(0, 0, 2), -4);
        due("lots(21, 0, 2)", x.lots(21, 0, 2), -6);
        due("lots(1, 0, 2)", x.lots(1, 0, 2), -2);
        due("lots(1, 0, -1)", x.lots(1, 0, -1), -2);
        due("LINE is as it was", x.count(3), 30);
        due("TOLERANCE is as it was", x.tolerance(12), 12);
        dueRefused(-4, 1);
        dueRefused(-6, 1);
        dueRefused(-2, 2);
    }

    private static void image() {
        fresh(41);
        due("image", x.image(), 0);
        words(3);
        due("image", x.image(), 3);
        due("it leaves what can be taken back", x.count(5), 3);
        x.drops(0);
        due("on", x.on(), 3);
        x.line(20);
        due("image", x.image(), 3);
        x.line(40);
        x.on();
        due("the latest image", x.count(3), 20);
    }

    private static void on() {
        fresh(42);
        due("there is none", x.on(), -3);
        dueRefused(-3, 1);
        sheet("wab;n;pab19;l35;g450;t22;h07;o4;m2;k59;");
        x.widens(0, 9);
        x.row(1);
        x.letter('w');
        x.image();
        sheet("x");
        x.letter('n');
        x.letter(';');
        x.drops(0);
        x.adds(0, 0, 0);
        x.widens(0, 2);
        x.patterns(0, 1, 1, 3);
        x.line(20);
        x.row(2);
        due("on", x.on(), 1);
        due("nothing to take back", x.count(5), 0);
        due("back", x.back(), -3);
        due("the ROW is as it is now", x.count(6), 2);
        due("the letters are as they are now", x.count(7), 2);
        dueRefused(-3, 2);
        due("word(0, 0)", x.word(0, 0), 2);
        due("word(0, 1)", x.word(0, 1), 13);
        due("word(0, 2)", x.word(0, 2), 1);
        due("pattern(0, 2)", x.pattern(0, 2), 9);
        due("line", x.line(10), 35);
        due("glue", x.glue(3, 2, 1), 450);
        due("tolerance", x.tolerance(12), 22);
        due("hyphen", x.hyphen(50), 7);
        due("widow", x.widow(1), 4);
        due("manner", x.manner(0), 2);
        due("kind", x.kind(0, 0), 59);
        due("on, again", x.on(), 1);
        due("kind", x.kind(0, 0), 59);
        due("count(3)", x.count(3), 35);
    }

    private static void count() {
        fresh(43);
        sheet("wab;wabc;pab19;pa01;l44;k42;");
        x.adds(7, -1, -1);
        x.row(3);
        x.letter('x');
        x.letter('y');
        int[] want = {3, 2, 6, 44, 4, 1, 1, 2};
        for (int what = 0; what < want.length; what++) {
            due("count(" + what + ")", x.count(what), want[what]);
        }
        int[] others = {-1, 8, 9, 10, 17, Integer.MIN_VALUE, Integer.MAX_VALUE};
        for (int what : others) {
            due("count(" + what + ")", x.count(what), -9);
        }
        x.forces(9);
        x.forces(9);
        x.manner(9);
        x.back();
        x.back();
        x.line(1);
        x.line(99);
        x.line(99);
        x.line(99);
        x.mean(5);
        int[] refused = {2, 2, 1, 1, 0, 3};
        for (int i = 0; i < refused.length; i++) {
            due("count(" + (11 + i) + ")", x.count(11 + i), refused[i]);
        }
    }
}
