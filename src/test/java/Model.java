import java.math.BigInteger;
import java.util.ArrayDeque;
import java.util.ArrayList;
import java.util.Arrays;
import java.util.List;

/** A second reading of the document, slow and with the whole library: what each call should answer. */
final class Model {
    static final class Word {
        final int[] letters;
        final boolean forced;

        Word(int[] letters, boolean forced) {
            this.letters = letters;
            this.forced = forced;
        }
    }

    static final class Pattern {
        final int[] letters;
        final int place;
        final int value;

        Pattern(int[] letters, int place, int value) {
            this.letters = letters;
            this.place = place;
            this.value = value;
        }
    }

    /** Part I.; WORDS and PATTERNS are never changed, only exchanged. */
    static final class Page {
        int[] widths = {3, 4, 3, 4, 3, 2, 4, 4};
        List<Word> words = new ArrayList<>();
        List<Pattern> patterns = new ArrayList<>();
        int line = 30, wide = 3, stretch = 2, shrink = 1, tolerance = 12, hyphen = 50, widow = 1;
        int manner, kind, figure;

        Page copy() {
            Page p = new Page();
            p.widths = widths.clone();
            p.words = new ArrayList<>(words);
            p.patterns = new ArrayList<>(patterns);
            p.line = line;
            p.wide = wide;
            p.stretch = stretch;
            p.shrink = shrink;
            p.tolerance = tolerance;
            p.hyphen = hyphen;
            p.widow = widow;
            p.manner = manner;
            p.kind = kind;
            p.figure = figure;
            return p;
        }

        boolean put(Pattern pattern) {
            for (int i = 0; i < patterns.size(); i++) {
                Pattern old = patterns.get(i);
                if (old.place == pattern.place && Arrays.equals(old.letters, pattern.letters)) {
                    patterns.set(i, pattern);
                    return true;
                }
            }
            return patterns.size() < 8 && patterns.add(pattern);
        }

        int value(Word word, int place) {
            int greatest = 0;
            for (Pattern p : patterns) {
                for (int s = 0; s + p.letters.length <= word.letters.length; s++) {
                    int[] part = Arrays.copyOfRange(word.letters, s, s + p.letters.length);
                    if (s + p.place == place && Arrays.equals(part, p.letters)) {
                        greatest = Math.max(greatest, p.value);
                    }
                }
            }
            return greatest;
        }

        List<Integer> hyphens(Word word) {
            List<Integer> places = new ArrayList<>();
            int length = word.letters.length;
            boolean may = kind == 3 ? false : kind == 4 ? length > figure : true;
            for (int place = 2; place <= length - 2; place++) {
                if (may && value(word, place) % 2 != 0) {
                    places.add(place);
                }
            }
            return places;
        }

        int width(int[] letters, int from, int to) {
            int sum = 0;
            for (int i = from; i < to; i++) {
                sum += widths[letters[i]];
            }
            return sum;
        }
    }

    /** One FRAGMENT; end: 0 GLUE, 1 HYPHEN, 2 FORCED, 3 LAST. */
    record Piece(int width, int word, int end) { }

    static final class Set {
        final Page page;
        final List<Piece> pieces = new ArrayList<>();
        final Float[] best;
        final List<int[]> lines = new ArrayList<>();

        Set(Page page) {
            this.page = page;
            for (int w = 0; w < page.words.size(); w++) {
                Word word = page.words.get(w);
                int from = 0;
                for (int place : page.hyphens(word)) {
                    pieces.add(new Piece(page.width(word.letters, from, place), w, 1));
                    from = place;
                }
                int end = word.forced ? 2 : w == page.words.size() - 1 ? 3 : 0;
                pieces.add(new Piece(page.width(word.letters, from, word.letters.length), w, end));
            }
            best = new Float[pieces.size() + 1];
            best[0] = 0.0f;
            int[] from = new int[pieces.size() + 1];
            for (int j = 1; j <= pieces.size(); j++) {
                for (int i = 0; i < j; i++) {
                    if (best[i] != null && fits(i, j)) {
                        float sum = best[i] + demerits(i, j);
                        if (best[j] == null || sum < best[j]) {
                            best[j] = sum;
                            from[j] = i;
                        }
                    }
                }
            }
            if (total() != null) {
                for (int j = pieces.size(); j > 0; j = from[j]) {
                    lines.add(0, new int[] {from[j], j});
                }
            }
        }

        Float total() {
            return best[pieces.size()];
        }

        int count() {
            return total() == null ? -9 : lines.size();
        }

        int end(int i, int j) {
            return pieces.get(j - 1).end;
        }

        int ahead(int i) {
            return i == 0 ? -1 : pieces.get(i - 1).end;
        }

        int glues(int i, int j) {
            int glues = 0;
            for (int k = i; k < j - 1; k++) {
                glues += pieces.get(k).end == 0 ? 1 : 0;
            }
            return glues;
        }

        int natural(int i, int j) {
            int sum = glues(i, j) * page.wide + (end(i, j) == 1 ? 2 : 0);
            for (int k = i; k < j; k++) {
                sum += pieces.get(k).width;
            }
            return sum;
        }

        float ratio(int i, int j) {
            int natural = natural(i, j);
            int end = end(i, j);
            if (natural == page.line || natural < page.line && end >= 2) {
                return 0.0f;
            }
            int[] stretches = {page.stretch, page.stretch + page.figure, page.stretch,
                page.stretch + page.figure, page.stretch, 2 * (page.stretch + page.figure)};
            int more = Math.min(page.wide, page.shrink + 1);
            int[] shrinks = {page.shrink, page.shrink, more, page.shrink, more, page.shrink};
            if (natural < page.line) {
                int room = glues(i, j) * stretches[page.kind];
                return room == 0 ? 99.0f : (float) (page.line - natural) / (float) room;
            }
            int room = glues(i, j) * shrinks[page.kind];
            return room == 0 ? -99.0f : (float) (page.line - natural) / (float) room;
        }

        boolean fits(int i, int j) {
            for (int k = i; k < j - 1; k++) {
                if (pieces.get(k).end == 2) {
                    return false;
                }
            }
            float ratio = ratio(i, j);
            return ratio >= -1.0f && ratio <= (float) page.tolerance / 4.0f;
        }

        float badness(int i, int j) {
            float r = Math.abs(ratio(i, j));
            float b = r * r;
            b = b * r;
            return b * 100.0f;
        }

        int words(int i, int j) {
            return pieces.get(j - 1).word - pieces.get(i).word + 1;
        }

        boolean widow(int i, int j) {
            return end(i, j) >= 2 && words(i, j) == 1 && (ahead(i) == 0 || ahead(i) == 1);
        }

        float demerits(int i, int j) {
            int[] penalties = {page.hyphen, page.hyphen, page.hyphen / 2, page.hyphen,
                page.hyphen / 2, page.hyphen + page.figure};
            float p = end(i, j) == 1 ? (float) penalties[page.kind] : 0.0f;
            float one = 1.0f + badness(i, j);
            float d;
            switch (page.manner) {
                case 0: d = one * one + p * p; break;
                case 1: d = (one + p) * (one + p); break;
                default: d = one + p;
            }
            if (ahead(i) == 1 && end(i, j) == 1) {
                d += 3000.0f;
            }
            if (widow(i, j)) {
                d += page.widow * 1000;
            }
            return d;
        }

        Float totalBy(int n) {
            Float[][] table = new Float[n + 1][pieces.size() + 1];
            table[0][0] = 0.0f;
            for (int k = 1; k <= n; k++) {
                for (int j = 1; j <= pieces.size(); j++) {
                    for (int i = 0; i < j; i++) {
                        if (table[k - 1][i] != null && fits(i, j)) {
                            float sum = table[k - 1][i] + demerits(i, j);
                            if (table[k][j] == null || sum < table[k][j]) {
                                table[k][j] = sum;
                            }
                        }
                    }
                }
            }
            return table[n][pieces.size()];
        }

        int greedy() {
            int at = 0;
            int many = 0;
            while (at < pieces.size()) {
                int next = -1;
                for (int j = at + 1; j <= pieces.size(); j++) {
                    if (fits(at, j)) {
                        next = j;
                    }
                }
                if (next < 0) {
                    return -9;
                }
                at = next;
                many++;
            }
            return many;
        }
    }

    Page page = new Page();
    Page image;
    final ArrayDeque<Page> past = new ArrayDeque<>();
    final StringBuilder text = new StringBuilder();
    final List<Integer> row = new ArrayList<>();
    final int[] refused = new int[7];

    private int no(int number) {
        refused[-number]++;
        return number;
    }

    private long noLong(int number) {
        return 4000000000000000000L - no(number);
    }

    private void change() {
        past.push(page.copy());
        if (past.size() > 8) {
            past.removeLast();
        }
    }

    private static int bits(Float f) {
        return f == null ? 0 : Float.floatToIntBits(f);
    }

    int letter(int c) {
        if (c < 0) {
            return no(-4);
        }
        if (c > 255 || text.length() >= 96) {
            return no(-6);
        }
        text.append((char) c);
        return text.length();
    }

    private static final String STATEMENT =
        "w[a-h]{1,12};|n;|p[a-h]{1,3}[0-9][0-9];|[lthk][0-9][0-9];|g[0-9][0-9][0-9];|[om][0-9];";

    /** A text can begin a SHEET if the matcher hit its end, or matched all of it. */
    private static boolean canGoOn(String start) {
        java.util.regex.Matcher m = java.util.regex.Pattern.compile("(" + STATEMENT + ")+").matcher(start);
        return m.matches() || m.hitEnd();
    }

    int sheet() {
        String all = text.toString();
        text.setLength(0);
        for (int i = 1; i <= all.length(); i++) {
            if (!canGoOn(all.substring(0, i))) {
                return -1000 - (i - 1);
            }
        }
        if (!all.endsWith(";")) {
            return -1000 - all.length();
        }
        Page told = page.copy();
        int at = 0;
        int many = 0;
        for (String statement : all.split(";")) {
            if (!tell(told, statement)) {
                return -2000 - at;
            }
            at += statement.length() + 1;
            many++;
        }
        page = told;
        past.clear();
        return many;
    }

    private static int[] letters(String s) {
        return s.chars().map(c -> c - 'a').toArray();
    }

    private static boolean tell(Page p, String s) {
        String rest = s.substring(1);
        int n = rest.matches("[0-9]+") ? Integer.parseInt(rest) : -1;
        switch (s.charAt(0)) {
            case 'w':
                return p.words.size() < 16 && p.words.add(new Word(letters(rest), false));
            case 'n':
                if (p.words.isEmpty()) {
                    return false;
                }
                Word last = p.words.remove(p.words.size() - 1);
                return p.words.add(new Word(last.letters, !last.forced));
            case 'p':
                int many = rest.length() - 2;
                int place = rest.charAt(many) - '0';
                int value = rest.charAt(many + 1) - '0';
                return place <= many && value >= 1 && p.put(new Pattern(letters(rest.substring(0, many)), place, value));
            case 'l':
                p.line = n;
                return n >= 10 && n <= 60;
            case 'g':
                p.wide = n / 100;
                p.stretch = n / 10 % 10;
                p.shrink = n % 10;
                return p.wide >= 2 && p.shrink <= p.wide;
            case 't':
                p.tolerance = n;
                return n <= 40;
            case 'h':
                p.hyphen = n;
                return true;
            case 'o':
                p.widow = n;
                return true;
            case 'm':
                p.manner = n;
                return n <= 2;
            default:
                p.kind = n / 10;
                p.figure = n % 10;
                return p.kind <= 5;
        }
    }

    int widens(int a, int v) {
        if (a < 0 || a > 7) {
            return no(-1);
        }
        if (v < 2 || v > 9) {
            return no(v < 2 ? -4 : -6);
        }
        change();
        int old = page.widths[a];
        page.widths[a] = v;
        return old;
    }

    int adds(int a, int b, int c) {
        if (a < 0 || a > 7 || b < -1 || b > 7 || c < -1 || c > 7 || b == -1 && c != -1) {
            return no(-1);
        }
        if (page.words.size() == 16) {
            return no(-6);
        }
        change();
        int[] letters = b == -1 ? new int[] {a} : c == -1 ? new int[] {a, b} : new int[] {a, b, c};
        page.words.add(new Word(letters, false));
        return page.words.size() - 1;
    }

    private boolean noWord(int w) {
        return w < 0 || w >= page.words.size();
    }

    int forces(int w) {
        if (noWord(w)) {
            return no(-1);
        }
        change();
        Word old = page.words.get(w);
        page.words.set(w, new Word(old.letters, !old.forced));
        return old.forced ? 0 : 1;
    }

    int drops(int w) {
        if (noWord(w)) {
            return no(-1);
        }
        change();
        page.words.remove(w);
        return page.words.size();
    }

    int patterns(int a, int b, int place, int v) {
        if (a < 0 || a > 7 || b < -1 || b > 7 || place < 0 || place > (b == -1 ? 1 : 2)) {
            return no(-1);
        }
        if (v < 1 || v > 9) {
            return no(v < 1 ? -4 : -6);
        }
        Page changed = page.copy();
        if (!changed.put(new Pattern(b == -1 ? new int[] {a} : new int[] {a, b}, place, v))) {
            return no(-6);
        }
        change();
        page = changed;
        return page.patterns.size();
    }

    int line(int n) {
        if (n < 10 || n > 60) {
            return no(n < 10 ? -4 : -6);
        }
        change();
        int old = page.line;
        page.line = n;
        return old;
    }

    int glue(int wide, int stretch, int shrink) {
        if (wide < 2 || stretch < 0 || shrink < 0) {
            return no(-4);
        }
        if (wide > 9 || stretch > 9 || shrink > wide) {
            return no(-6);
        }
        change();
        int old = 100 * page.wide + 10 * page.stretch + page.shrink;
        page.wide = wide;
        page.stretch = stretch;
        page.shrink = shrink;
        return old;
    }

    int tolerance(int n) {
        if (n < 0 || n > 40) {
            return no(n < 0 ? -4 : -6);
        }
        change();
        int old = page.tolerance;
        page.tolerance = n;
        return old;
    }

    int hyphen(int n) {
        if (n < 0 || n > 99) {
            return no(n < 0 ? -4 : -6);
        }
        change();
        int old = page.hyphen;
        page.hyphen = n;
        return old;
    }

    int widow(int n) {
        if (n < 0 || n > 9) {
            return no(n < 0 ? -4 : -6);
        }
        change();
        int old = page.widow;
        page.widow = n;
        return old;
    }

    int manner(int n) {
        if (n < 0 || n > 2) {
            return no(-2);
        }
        change();
        int old = page.manner;
        page.manner = n;
        return old;
    }

    int kind(int kind, int figure) {
        if (kind < 0 || kind > 5) {
            return no(-2);
        }
        if (figure < 0 || figure > 9) {
            return no(figure < 0 ? -4 : -6);
        }
        change();
        int old = 10 * page.kind + page.figure;
        page.kind = kind;
        page.figure = figure;
        return old;
    }

    int back() {
        if (past.isEmpty()) {
            return no(-3);
        }
        page = past.pop();
        return past.size();
    }

    int word(int w, int what) {
        if (noWord(w)) {
            return no(-1);
        }
        Word word = page.words.get(w);
        switch (what) {
            case 0: return word.letters.length;
            case 1: return page.width(word.letters, 0, word.letters.length);
            case 2: return word.forced ? 1 : 0;
            case 3: return 1 + page.hyphens(word).size();
            case 4: return page.hyphens(word).stream().mapToInt(p -> 1 << p).sum();
            default: return no(-2);
        }
    }

    int spelt(int w, int i) {
        if (noWord(w) || i < 0 || i >= page.words.get(w).letters.length) {
            return no(-1);
        }
        return page.words.get(w).letters[i];
    }

    int values(int w, int place) {
        if (noWord(w) || place < 0 || place > page.words.get(w).letters.length) {
            return no(-1);
        }
        return page.value(page.words.get(w), place);
    }

    int pattern(int i, int what) {
        if (i < 0 || i >= page.patterns.size()) {
            return no(-1);
        }
        Pattern p = page.patterns.get(i);
        switch (what) {
            case 0: return p.letters.length;
            case 1: return p.place;
            case 2: return p.value;
            case 3: return p.letters[0];
            default: return no(-2);
        }
    }

    int lines(int what) {
        Set set = new Set(page);
        if (what < 0 || what > 5) {
            return no(-2);
        }
        if (what == 5) {
            return set.pieces.size();
        }
        if (set.total() == null) {
            return -9;
        }
        int hyphened = 0;
        int widows = 0;
        int loosest = -9;
        int tightest = -9;
        for (int i = 0; i < set.lines.size(); i++) {
            int[] l = set.lines.get(i);
            hyphened += set.end(l[0], l[1]) == 1 ? 1 : 0;
            widows += set.widow(l[0], l[1]) ? 1 : 0;
            float ratio = set.ratio(l[0], l[1]);
            if (loosest < 0 || ratio > set.ratio(set.lines.get(loosest)[0], set.lines.get(loosest)[1])) {
                loosest = i;
            }
            if (tightest < 0 || ratio < set.ratio(set.lines.get(tightest)[0], set.lines.get(tightest)[1])) {
                tightest = i;
            }
        }
        return new int[] {set.lines.size(), hyphened, widows, loosest, tightest}[what];
    }

    int lineOf(int i, int what) {
        Set set = new Set(page);
        if (i < 0 || i >= set.lines.size()) {
            return no(-1);
        }
        if (what < 0 || what > 4) {
            return no(-2);
        }
        int a = set.lines.get(i)[0];
        int b = set.lines.get(i)[1];
        return new int[] {a, b - a, set.natural(a, b), set.words(a, b), set.end(a, b)}[what];
    }

    private int bitsOfLine(int i, int what) {
        Set set = new Set(page);
        if (i < 0 || i >= set.lines.size()) {
            return 0;
        }
        int a = set.lines.get(i)[0];
        int b = set.lines.get(i)[1];
        return bits(what == 0 ? set.ratio(a, b) : what == 1 ? set.badness(a, b) : set.demerits(a, b));
    }

    int ratio(int i) {
        return bitsOfLine(i, 0);
    }

    int badness(int i) {
        return bitsOfLine(i, 1);
    }

    int demerits(int i) {
        return bitsOfLine(i, 2);
    }

    int total(int n) {
        Set set = new Set(page);
        return n == 0 ? bits(set.total()) : n < 0 || n > 20 ? 0 : bits(set.totalBy(n));
    }

    int firstFit() {
        return new Set(page).greedy();
    }

    private Set setWith(int line) {
        Page p = page.copy();
        p.line = line;
        return new Set(p);
    }

    int with(int n) {
        if (n < 10 || n > 60) {
            return no(n < 10 ? -4 : -6);
        }
        return setWith(n).count();
    }

    int narrowest(int n) {
        if (n < 1 || n > 20) {
            return no(n < 1 ? -4 : -6);
        }
        for (int line = 10; line <= 60; line++) {
            int many = setWith(line).count();
            if (many >= 0 && many <= n) {
                return line;
            }
        }
        return -9;
    }

    private Set setWithout(int gone) {
        Page p = page.copy();
        for (int w = p.words.size() - 1; w >= 0; w--) {
            if ((gone >> w & 1) == 1) {
                p.words.remove(w);
            }
        }
        return new Set(p);
    }

    int without(int w, int what) {
        if (noWord(w)) {
            return no(-1);
        }
        if (what < 0 || what > 1) {
            return no(-2);
        }
        Set set = setWithout(1 << w);
        return what == 0 ? set.count() : bits(set.total());
    }

    int worst() {
        Float all = new Set(page).total();
        int worst = -9;
        Float least = null;
        for (int w = 0; w < page.words.size(); w++) {
            Float total = setWithout(1 << w).total();
            if (total != null && (all == null || total < all) && (least == null || total < least)) {
                least = total;
                worst = w;
            }
        }
        return worst;
    }

    int manners() {
        int manner = -9;
        int fewest = Integer.MAX_VALUE;
        for (int m = 0; m < 3; m++) {
            Page p = page.copy();
            p.manner = m;
            int many = new Set(p).count();
            if (many >= 0 && many < fewest) {
                fewest = many;
                manner = m;
            }
        }
        return manner;
    }

    int two(int a, int b) {
        if (Math.min(a, b) < 10) {
            return no(-4);
        }
        if (Math.max(a, b) > 60) {
            return no(-6);
        }
        Float one = setWith(a).total();
        Float other = setWith(b).total();
        if (one == null || other == null) {
            return one != null ? 0 : other != null ? 1 : -9;
        }
        return one < other ? 0 : other < one ? 1 : -9;
    }

    private static long fraction(BigInteger above, BigInteger below, int part) {
        if (above.signum() == 0) {
            return part;
        }
        BigInteger g = above.gcd(below);
        return (part == 0 ? above : below).divide(g).longValueExact();
    }

    long lost(int n, int t, int part) {
        if (n < 0 || t < 2) {
            return noLong(-4);
        }
        if (n > 20 || t > 20) {
            return noLong(-6);
        }
        if (part != 0 && part != 1) {
            return noLong(-2);
        }
        int chancy = Math.min(6, page.words.size());
        BigInteger above = BigInteger.ZERO;
        BigInteger below = BigInteger.valueOf(t).pow(chancy);
        for (int gone = 0; gone < 1 << chancy; gone++) {
            int many = setWithout(gone).count();
            if (many >= 0 && many <= n) {
                above = above.add(BigInteger.valueOf(t - 1).pow(chancy - Integer.bitCount(gone)));
            }
        }
        return fraction(above, below, part);
    }

    long mean(int part) {
        if (part != 0 && part != 1) {
            return noLong(-2);
        }
        Set set = new Set(page);
        long sum = 0;
        for (int[] l : set.lines) {
            sum += set.natural(l[0], l[1]);
        }
        return fraction(BigInteger.valueOf(sum), BigInteger.valueOf(set.lines.size()), part);
    }

    int whatIs(int what) {
        if (what != 0 && what != 1) {
            return no(-2);
        }
        int bits = 0;
        for (int i = 0; i < (what == 0 ? 6 : 10); i++) {
            boolean so = true;
            for (int k = 0; k < row.size(); k++) {
                Page p = page.copy();
                p.kind = what == 0 ? i : p.kind;
                p.figure = what == 1 ? i : p.figure;
                p.line = 20 + 4 * k;
                so &= row.get(k) == Math.max(0, new Set(p).count());
            }
            bits += so ? 1 << i : 0;
        }
        return bits;
    }

    int row(int v) {
        if (v < 0) {
            return no(-4);
        }
        if (v > 99 || row.size() == 16) {
            return no(-6);
        }
        row.add(v);
        return row.size();
    }

    int judge() {
        List<int[]> lines = new Set(page).lines;
        int answer = -9;
        for (int i = 0; answer == -9 && i < Math.max(lines.size(), row.size()); i++) {
            if (i >= lines.size() || i >= row.size() || lines.get(i)[0] != row.get(i)) {
                answer = i;
            }
        }
        row.clear();
        return answer;
    }

    int clear() {
        int had = row.size();
        row.clear();
        return had;
    }

    int lots(int n, int z, int what) {
        if (n < 1 || n > 20) {
            return no(n < 1 ? -4 : -6);
        }
        if (what != 0 && what != 1) {
            return no(-2);
        }
        int[] answers = new int[2];
        for (int i = 0; i < n; i++) {
            Page p = page.copy();
            z = (int) (z * 1664525L + 1013904223L);
            p.line = (int) ((z & 0x7fffffffL) >> 8) % 41 + 10;
            z = (int) (z * 1664525L + 1013904223L);
            p.tolerance = (int) ((z & 0x7fffffffL) >> 8) % 41;
            int many = new Set(p).count();
            answers[many < 0 ? 1 : 0] += many < 0 ? 1 : many;
        }
        return answers[what];
    }

    int image() {
        image = page.copy();
        return page.words.size();
    }

    int on() {
        if (image == null) {
            return no(-3);
        }
        page = image.copy();
        past.clear();
        return page.words.size();
    }

    int count(int what) {
        switch (what) {
            case 0: return page.words.size();
            case 1: return page.patterns.size();
            case 2: return page.words.stream().mapToInt(w -> w.letters.length).sum();
            case 3: return page.line;
            case 4: return page.kind;
            case 5: return past.size();
            case 6: return row.size();
            case 7: return text.length();
            default: return what >= 11 && what <= 16 ? refused[what - 10] : -9;
        }
    }
}
