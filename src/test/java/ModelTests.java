import java.util.ArrayList;
import java.util.List;
import java.util.Random;

/** Runs of calls drawn by a fixed seed, on the class and on the model of the tests: both must answer alike. */
public final class ModelTests {
    private static final int RUNS = 1200;
    private static final String[] OFTEN = {"total", "lines", "lineOf", "ratio", "badness", "demerits", "line", "kind",
        "tolerance", "glue", "word", "values", "without", "judge", "page"};

    private final Random random;
    private final LinesOfFragments real = new LinesOfFragments();
    private final Model model = new Model();
    private final List<String> calls = new ArrayList<>();
    private final int[] answered;
    private boolean wrong;

    private ModelTests(long seed, int[] answered) {
        random = new Random(seed);
        this.answered = answered;
    }

    public static void main(String[] args) {
        int failed = 0;
        int[] answered = new int[4];
        for (int seed = 1; seed <= RUNS && failed < 5; seed++) {
            ModelTests run = new ModelTests(seed, answered);
            run.play();
            failed += run.wrong ? 1 : 0;
        }
        // a run that never sets a paragraph would agree on nothing worth knowing
        if (answered[0] < 1000 || answered[1] < 3000 || answered[2] < 400 || answered[3] < 300) {
            System.out.println("too few telling answers: " + answered[0] + ", " + answered[1] + ", " + answered[2]
                + ", " + answered[3]);
            failed++;
        }
        System.out.println(failed == 0 ? "class and model answer alike" : failed + " runs differ");
        if (failed != 0) {
            System.exit(1);
        }
    }

    private void due(String call, long got, long want) {
        calls.add(call);
        if (got != want && !wrong) {
            wrong = true;
            System.out.println("after " + calls + ": answered " + got + ", the model says " + want);
        }
    }

    private int below(int n) {
        return random.nextInt(n);
    }

    /** Mostly from the range, now and then just beyond it, seldom far away. */
    private int near(int least, int greatest) {
        int way = below(20);
        if (way == 0) {
            return below(2) == 0 ? least - 1 : greatest + 1;
        }
        if (way == 1 && below(4) == 0) {
            return random.nextInt();
        }
        return least + below(greatest - least + 1);
    }

    private void play() {
        int letters = 2 + below(7);
        int sheets = 1 + below(4);
        for (int i = 0; i < sheets; i++) {
            tell(sheetText(letters));
        }
        boolean easy = below(3) != 0;
        // the longest step takes some thirty calls, and an object is used for 512 at most
        while (calls.size() < 480 && !wrong) {
            if (easy && below(12) == 0) {
                ease();
            }
            step(letters);
        }
    }

    /** Keeps the paragraph one that can be set in LINES. */
    private void ease() {
        int wide = 2 + below(3);
        int stretch = 2 + below(8);
        due("glue(.., 1)", real.glue(wide, stretch, 1), model.glue(wide, stretch, 1));
        int tolerance = 20 + below(21);
        due("tolerance(" + tolerance + ")", real.tolerance(tolerance), model.tolerance(tolerance));
        int line = 18 + below(30);
        due("line(" + line + ")", real.line(line), model.line(line));
    }

    private void tell(String text) {
        for (int i = 0; i < text.length() && calls.size() < 500; i++) {
            int c = text.charAt(i);
            due("letter(" + c + ")", real.letter(c), model.letter(c));
        }
        int got = real.sheet();
        if (got > 0) {
            answered[0]++;
        }
        due("sheet()", got, model.sheet());
    }

    private String sheetText(int letters) {
        StringBuilder text = new StringBuilder();
        int room = below(8) == 0 ? 110 : 20 + below(76);
        while (true) {
            String statement = statement(letters);
            if (text.length() + statement.length() > room) {
                break;
            }
            text.append(statement);
        }
        if (below(12) == 0 && text.length() > 0) {
            text.setCharAt(below(text.length()), (char) ("wnplgthomk;abch0159 \u00e9".charAt(below(21))));
        }
        if (below(20) == 0 && text.length() > 0) {
            text.setLength(below(text.length()));
        }
        return text.toString();
    }

    private String some(int letters, int least, int most) {
        StringBuilder text = new StringBuilder();
        int many = least + below(most - least + 1);
        for (int i = 0; i < many; i++) {
            text.append((char) ('a' + below(letters)));
        }
        return text.toString();
    }

    private String statement(int letters) {
        int way = below(below(5) == 0 ? 100 : 80);
        if (way < 45) {
            return "w" + some(letters, 1, below(3) == 0 ? 12 : 6) + ";";
        }
        if (way < 48) {
            return "n;";
        }
        if (way < 70) {
            String spelt = some(letters, 1, 3);
            return "p" + spelt + below(spelt.length() + 1) + (1 + below(9)) + ";";
        }
        switch (way % 10) {
            case 0: return "l" + (15 + below(30)) + ";";
            case 1: return "g" + (2 + below(4)) + below(10) + below(3) + ";";
            case 2: return "t" + (10 + below(31)) + ";";
            case 3: return "h" + (10 + below(90)) + ";";
            case 4: return "o" + below(10) + ";";
            case 5: return "m" + below(below(6) == 0 ? 4 : 3) + ";";
            case 6: return "k" + below(below(6) == 0 ? 7 : 6) + below(10) + ";";
            case 7: return "p" + some(letters, 1, 3) + below(4) + below(10) + ";";
            case 8: return "t" + below(7) + below(10) + ";";
            default: return "g" + below(10) + below(10) + below(10) + ";";
        }
    }

    private void step(int letters) {
        if (below(60) == 0 && calls.size() < 400) {
            tell(sheetText(letters));
            return;
        }
        if (below(3) == 0) {
            ask(OFTEN[below(OFTEN.length)], letters);
            return;
        }
        String[] all = {"widens", "adds", "forces", "drops", "patterns", "hyphen", "widow", "manner", "back", "spelt",
            "pattern", "firstFit", "with", "narrowest", "worst", "manners", "two", "lost", "mean", "whatIs", "row",
            "rows", "begins", "clear", "lots", "image", "on", "count", "lines", "total", "back"};
        ask(all[below(all.length)], letters);
    }

    private void ask(String call, int letters) {
        int words = model.page.words.size();
        switch (call) {
            case "widens":
            case "adds":
            case "forces":
            case "drops":
            case "patterns":
            case "line":
            case "glue":
            case "tolerance":
            case "hyphen":
            case "widow":
            case "manner":
            case "kind":
            case "back":
            case "on":
                change(call, letters, words);
                break;
            case "row":
            case "rows":
            case "begins":
            case "judge":
            case "whatIs":
            case "clear":
                row(call);
                break;
            case "page":
                page();
                break;
            default:
                look(call, words);
        }
    }

    private void change(String call, int letters, int words) {
        int a = near(0, letters - 1);
        int b = near(-1, letters - 1);
        int c = near(-1, letters - 1);
        int w = near(0, Math.max(0, words - 1));
        switch (call) {
            case "widens": {
                int v = near(2, 9);
                due("widens(" + a + ", " + v + ")", real.widens(a, v), model.widens(a, v));
                break;
            }
            case "adds":
                due("adds(" + a + ", " + b + ", " + c + ")", real.adds(a, b, c), model.adds(a, b, c));
                break;
            case "forces":
                due("forces(" + w + ")", real.forces(w), model.forces(w));
                break;
            case "drops":
                due("drops(" + w + ")", real.drops(w), model.drops(w));
                break;
            case "patterns": {
                int p = near(0, 2);
                int v = near(1, 9);
                due("patterns(" + a + ", " + b + ", " + p + ", " + v + ")", real.patterns(a, b, p, v),
                    model.patterns(a, b, p, v));
                break;
            }
            case "line": {
                int n = near(10, below(3) == 0 ? 60 : 40);
                due("line(" + n + ")", real.line(n), model.line(n));
                break;
            }
            case "glue": {
                int wide = near(2, 5);
                int stretch = near(0, 9);
                int shrink = near(0, 3);
                due("glue(" + wide + ", " + stretch + ", " + shrink + ")", real.glue(wide, stretch, shrink),
                    model.glue(wide, stretch, shrink));
                break;
            }
            case "tolerance": {
                int n = near(below(3) == 0 ? 0 : 20, 40);
                due("tolerance(" + n + ")", real.tolerance(n), model.tolerance(n));
                break;
            }
            case "hyphen": {
                int n = near(0, 99);
                due("hyphen(" + n + ")", real.hyphen(n), model.hyphen(n));
                break;
            }
            case "widow": {
                int n = near(0, 9);
                due("widow(" + n + ")", real.widow(n), model.widow(n));
                break;
            }
            case "manner": {
                int n = near(0, 2);
                due("manner(" + n + ")", real.manner(n), model.manner(n));
                break;
            }
            case "kind": {
                int n = near(0, 5);
                int figure = near(0, 9);
                due("kind(" + n + ", " + figure + ")", real.kind(n, figure), model.kind(n, figure));
                break;
            }
            case "back":
                due("back()", real.back(), model.back());
                break;
            default:
                due("on()", real.on(), model.on());
        }
    }

    private void row(String call) {
        int v = near(0, 9);
        switch (call) {
            case "row":
                due("row(" + v + ")", real.row(v), model.row(v));
                break;
            case "rows": {
                due("clear()", real.clear(), model.clear());
                Model.Page p = model.page.copy();
                p.kind = below(2) == 0 ? p.kind : below(6);
                p.figure = below(2) == 0 ? p.figure : below(10);
                int many = 1 + below(17);
                for (int i = 0; i < many && calls.size() < 510; i++) {
                    p.line = 20 + 4 * i;
                    int n = Math.max(0, new Model.Set(p).count());
                    due("row(" + n + ")", real.row(n), model.row(n));
                }
                due("whatIs(0)", real.whatIs(0), model.whatIs(0));
                due("whatIs(1)", real.whatIs(1), model.whatIs(1));
                break;
            }
            case "begins": {
                due("clear()", real.clear(), model.clear());
                List<int[]> lines = new Model.Set(model.page).lines;
                int many = Math.min(below(3) == 0 ? below(17) : lines.size() + below(2), 16);
                for (int i = 0; i < many && calls.size() < 511; i++) {
                    int n = i < lines.size() && below(12) != 0 ? lines.get(i)[0] : below(20);
                    due("row(" + n + ")", real.row(n), model.row(n));
                }
                due("judge()", real.judge(), model.judge());
                break;
            }
            case "judge":
                due("judge()", real.judge(), model.judge());
                break;
            case "whatIs": {
                int what = near(0, 1);
                due("whatIs(" + what + ")", real.whatIs(what), model.whatIs(what));
                break;
            }
            default:
                due("clear()", real.clear(), model.clear());
        }
    }

    /** All that can be seen of all LINES. */
    private void page() {
        for (int what = 0; what <= 5 && calls.size() < 512; what++) {
            due("lines(" + what + ")", real.lines(what), model.lines(what));
        }
        int many = Math.max(0, model.lines(0));
        answered[1] += many;
        for (int i = 0; i < many && calls.size() < 504; i++) {
            for (int what = 0; what <= 4; what++) {
                due("lineOf(" + i + ", " + what + ")", real.lineOf(i, what), model.lineOf(i, what));
            }
            due("ratio(" + i + ")", real.ratio(i), model.ratio(i));
            due("badness(" + i + ")", real.badness(i), model.badness(i));
            due("demerits(" + i + ")", real.demerits(i), model.demerits(i));
        }
        for (int n = Math.max(0, many - 2); n <= many + 2 && calls.size() < 512; n++) {
            due("total(" + n + ")", real.total(n), model.total(n));
        }
    }

    private void look(String call, int words) {
        int w = near(0, Math.max(0, words - 1));
        int i = near(0, Math.max(0, Math.min(8, words / 2)));
        int n = near(10, 60);
        switch (call) {
            case "word": {
                int what = near(0, 4);
                due("word(" + w + ", " + what + ")", real.word(w, what), model.word(w, what));
                break;
            }
            case "spelt": {
                int place = near(0, 8);
                due("spelt(" + w + ", " + place + ")", real.spelt(w, place), model.spelt(w, place));
                break;
            }
            case "values": {
                int place = near(0, 8);
                due("values(" + w + ", " + place + ")", real.values(w, place), model.values(w, place));
                break;
            }
            case "pattern": {
                int p = near(0, Math.max(0, model.page.patterns.size() - 1));
                int what = near(0, 3);
                due("pattern(" + p + ", " + what + ")", real.pattern(p, what), model.pattern(p, what));
                break;
            }
            case "lines": {
                int what = near(0, 5);
                int got = real.lines(what);
                answered[1] += got > 0 ? 1 : 0;
                due("lines(" + what + ")", got, model.lines(what));
                break;
            }
            case "lineOf": {
                int what = near(0, 4);
                due("lineOf(" + i + ", " + what + ")", real.lineOf(i, what), model.lineOf(i, what));
                break;
            }
            case "ratio":
                due("ratio(" + i + ")", real.ratio(i), model.ratio(i));
                break;
            case "badness":
                due("badness(" + i + ")", real.badness(i), model.badness(i));
                break;
            case "demerits": {
                int got = real.demerits(i);
                answered[2] += got != 0 ? 1 : 0;
                due("demerits(" + i + ")", got, model.demerits(i));
                break;
            }
            case "total": {
                int many = near(0, below(3) == 0 ? 20 : 9);
                int got = real.total(many);
                answered[3] += got != 0 ? 1 : 0;
                due("total(" + many + ")", got, model.total(many));
                break;
            }
            case "without": {
                int what = near(0, 1);
                due("without(" + w + ", " + what + ")", real.without(w, what), model.without(w, what));
                break;
            }
            default:
                lookAt(call, n);
        }
    }

    private void lookAt(String call, int n) {
        switch (call) {
            case "firstFit":
                due("firstFit()", real.firstFit(), model.firstFit());
                break;
            case "with":
                due("with(" + n + ")", real.with(n), model.with(n));
                break;
            case "narrowest": {
                int many = near(1, below(2) == 0 ? 20 : 6);
                due("narrowest(" + many + ")", real.narrowest(many), model.narrowest(many));
                break;
            }
            case "worst":
                due("worst()", real.worst(), model.worst());
                break;
            case "manners":
                due("manners()", real.manners(), model.manners());
                break;
            case "two": {
                int m = near(10, 60);
                due("two(" + n + ", " + m + ")", real.two(n, m), model.two(n, m));
                break;
            }
            case "lost": {
                int most = near(0, below(2) == 0 ? 20 : 6);
                int t = near(2, 20);
                int part = near(0, 1);
                due("lost(" + most + ", " + t + ", " + part + ")", real.lost(most, t, part), model.lost(most, t, part));
                break;
            }
            case "mean": {
                int part = near(0, 1);
                due("mean(" + part + ")", real.mean(part), model.mean(part));
                break;
            }
            case "lots": {
                int many = near(1, 20);
                int z = random.nextInt();
                int what = near(0, 1);
                due("lots(" + many + ", " + z + ", " + what + ")", real.lots(many, z, what), model.lots(many, z, what));
                break;
            }
            case "image":
                if (below(4) == 0) {
                    due("image()", real.image(), model.image());
                }
                break;
            case "count": {
                int what = near(0, 17);
                due("count(" + what + ")", real.count(what), model.count(what));
                break;
            }
            default:
                throw new IllegalStateException(call);
        }
    }
}
