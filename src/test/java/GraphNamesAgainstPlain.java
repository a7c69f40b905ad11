import java.util.ArrayList;
import java.util.Arrays;
import java.util.HashMap;
import java.util.HashSet;
import java.util.List;
import java.util.Map;
import java.util.NoSuchElementException;
import java.util.Set;

/**
 * Long runs of calls, each answer compared with that of a second program that does what the document says in the
 * plainest way: lists for signs, the whole tree as objects, all permutations one by one.
 */
public final class GraphNamesAgainstPlain {
    private static final int CALLS = 512;

    /**
     * Graphs that draws seldom make: nodes that are cut, leafs that become BEST two and three times, leafs like FIRST
     * behind another BEST, a BEST that isn't FIRST and has leafs like it, leafs that only their own MARKS tell apart.
     */
    private static final String[] RARE = {
        "size 7;ring 0 1 2;ring 3 4 5 6", "size 7;ring 0 4 5 6;ring 1 2 3",
        "size 7;link 0 1 2;link 0 2;link 0 4;link 0 5 2;link 1 4 2;link 1 5;link 1 6;link 2 3;link 2 4 2;link 2 6 2;"
            + "link 3 4;link 3 5 2;link 3 6 2;link 5 6",
        "size 6;link 0 2 2;link 0 3 3;link 0 4;link 1 3;link 1 4 2;link 1 5 3;link 2 4 3;link 2 5;link 3 5 2",
        "size 6;link 0 1 3;link 0 2 3;link 0 3 2;link 0 5;link 1 2;link 1 3 3;link 1 4 2;link 2 4 3;link 2 5 2;link 3 4;"
            + "link 3 5 3;link 4 5 3",
        "size 6;link 0 1;link 0 2 2;link 0 3 2;link 0 4;link 1 2;link 1 3 2;link 1 5 2;link 2 4 2;link 2 5;link 3 4;link 3 5;"
            + "link 4 5 2",
        "size 6;ring 0 1 2;ring 3 4 5;link 0 3;link 1 4;link 2 5", "size 6;ring 0 1 2 3 4 5;link 0 3;link 1 4;link 2 5",
        "size 6;link 0 1 3;link 0 2;link 0 4;link 1 3;link 1 4;link 2 3 3;link 2 5;link 3 5;link 4 5 3",
        "size 6;link 0 2;link 0 3 3;link 0 4 2;link 1 3 2;link 1 4;link 1 5 3;link 2 4 3;link 2 5 2;link 3 5",
        "size 6;link 0 3 2;link 0 4;link 0 5;link 1 2;link 1 4;link 1 5 2;link 2 3;link 2 4 2;link 3 5",
        "size 7;link 0 5;link 0 6;link 1 5;link 1 6;link 2 3;link 2 4;link 2 6;link 3 4", "size 5;ring 0 1 2 3 4",
        "size 7;ring 0 1 3;ring 1 2 4;ring 2 3 5;ring 4 5 6", "size 7", "size 1", "size 6;link 0 1;link 2 3 2;link 4 5 3",
    };

    public static void main(String[] args) {
        int runs = args.length > 0 ? Integer.parseInt(args[0]) : 160;
        long seed = args.length > 1 ? Long.parseLong(args[1]) : 1;
        int wrong = 0;
        for (int run = 0; run < runs && wrong < 5; run++) {
            wrong += new Run(seed * 1_000_003L + run).go() ? 0 : 1;
        }
        for (int i = 0; i < RARE.length && wrong < 5; i++) {
            for (int j = 0; j < 24 && wrong < 5; j++) {
                wrong += new Run(seed * 31 + j).rare(RARE[i], j > 1, j % 2 == 1) ? 0 : 1;
            }
        }
        System.out.println(wrong == 0 ? runs + " runs answer as the plain program does" : wrong + " runs differ");
        if (wrong != 0) {
            System.exit(1);
        }
    }

    /** Draws that are the same in every run of this test. */
    private static final class Dice {
        private long x;

        Dice(long seed) {
            x = seed;
            for (int i = 0; i < 5; i++) {
                below(2);
            }
        }

        int below(int n) {
            x = x * 6364136223846793005L + 1442695040888963407L;
            return (int) ((x >>> 33) % n);
        }

        boolean one(int in) {
            return below(in) == 0;
        }
    }

    private static final class Run {
        private final Dice dice;
        private final GraphNames real = new GraphNames();
        private final Plain plain = new Plain();
        private final StringBuilder log = new StringBuilder();
        private final int flavour;
        private boolean same = true;
        private int calls = 0;

        Run(long seed) {
            dice = new Dice(seed);
            flavour = dice.below(4);
        }

        boolean go() {
            while (same && calls < CALLS) {
                if (dice.one(12) && CALLS - calls > 30) {
                    text();
                } else if (CALLS - calls > 4) {
                    one();
                }
                if (CALLS - calls <= 4 || dice.one(2)) {
                    check("trouble()", real.trouble(), plain.trouble());
                }
            }
            return shown();
        }

        /** Half of everything of one graph, also of the same one with other numbers. */
        boolean rare(String text, boolean shuffled, boolean sets) {
            StringBuilder padded = new StringBuilder(text);
            while (padded.length() % 20 != 0) {
                padded.append(' ');
            }
            for (int j = 0; j < padded.length(); j += 20) {
                feed(padded.substring(j, j + 20));
            }
            check("text '" + text + "'", real.text(0, text.length()), plain.text(0, text.length()));
            if (shuffled) {
                int s = 1 + dice.below(2147483646);
                check("copy(0, 1)", real.copy(0, 1), plain.copy(0, 1));
                check("shuffle(0, " + s + ")", real.shuffle(0, s), plain.shuffle(0, s));
            }
            if (sets) {
                allSets();
            } else {
                allNames();
            }
            return shown();
        }

        private boolean shown() {
            if (calls > CALLS) {
                System.out.println(calls + " calls, more than an object is used for");
                return false;
            }
            if (!same) {
                System.out.println(log);
            }
            return same;
        }

        private void allNames() {
            int n = plain.graphs[0].n;
            for (int w = 0; w < 6; w++) {
                check("tree(0, " + w + ")", real.tree(0, w), plain.tree(0, w));
                check("search(0, " + w + ")", real.search(0, w), plain.search(0, w));
                check("symmetries(0, " + w + ")", real.symmetries(0, w), plain.symmetries(0, w));
                check("cards(0, " + w + ")", real.cards(0, w), plain.cards(0, w));
            }
            for (int i = 0; i < 25; i++) {
                for (int v = 0; v < n; v++) {
                    check("generator(0, " + i + ", " + v + ")", real.generator(0, i, v), plain.generator(0, i, v));
                }
            }
            for (int k = 0; k < 30; k++) {
                check("name(0, " + k + ")", real.name(0, k), plain.name(0, k));
                check("place(0, " + k + ")", real.place(0, k), plain.place(0, k));
            }
            for (int v = 0; v < n; v++) {
                check("orbit(0, " + v + ")", real.orbit(0, v), plain.orbit(0, v));
                check("apart(0, " + v + ", 0)", real.apart(0, v, 0), plain.apart(0, v, 0));
                check("apart(0, " + v + ", 1)", real.apart(0, v, 1), plain.apart(0, v, 1));
                check("map(0, 1, " + v + ")", real.map(0, 1, v), plain.map(0, 1, v));
            }
        }

        private void allSets() {
            for (int set = 0; set < 1 << plain.graphs[0].n; set++) {
                check("leave(0, " + set + ")", real.leave(0, set), plain.leave(0, set));
                check("base(0, " + set + ")", real.base(0, set), plain.base(0, set));
            }
            check("fewest(0)", real.fewest(0), plain.fewest(0));
            check("turned(0)", real.turned(0), plain.turned(0));
            check("maps(0, 1)", real.maps(0, 1), plain.maps(0, 1));
            check("changes(0, 1)", real.changes(0, 1), plain.changes(0, 1));
            check("told(0, 1)", real.told(0, 1), plain.told(0, 1));
            check("less(0, 1)", real.less(0, 1), plain.less(0, 1));
        }

        private void check(String call, long got, long want) {
            calls++;
            if (!same) {
                return;
            }
            log.append(call).append(" = ").append(want).append('\n');
            if (got != want) {
                log.append("  but answered ").append(got).append('\n');
                same = false;
            }
        }

        private int g() {
            return dice.one(30) ? dice.below(6) - 2 : dice.below(3);
        }

        private int v(int g) {
            int n = g >= 0 && g < 3 ? plain.graphs[g].n : 3;
            return dice.one(15) ? dice.below(12) - 3 : dice.below(n);
        }

        private int set(int g) {
            int n = g >= 0 && g < 3 ? plain.graphs[g].n : 3;
            return dice.one(15) ? dice.below(300) - 40 : dice.below(1 << n);
        }

        private int upTo(int most) {
            return dice.one(15) ? dice.below(most + 6) - 3 : dice.below(most + 1);
        }

        private void text() {
            String t = new Texts(dice, flavour).next();
            int n = t.length();
            StringBuilder padded = new StringBuilder(t);
            while (padded.length() % 20 != 0) {
                padded.append(dice.one(5) ? (char) dice.below(256) : ' ');
            }
            for (int i = 0; i < padded.length(); i += 20) {
                feed(padded.substring(i, i + 20));
            }
            int g = dice.below(3);
            int held = plain.size();
            int bytes = dice.one(40) ? held + 1 - dice.below(3) : dice.one(40) ? -1 : held - padded.length() + n;
            if (dice.one(30)) {
                g = g();
            }
            check("text(" + g + ", " + bytes + ") '" + plain.shown(bytes) + "'", real.text(g, bytes), plain.text(g, bytes));
            check("trouble()", real.trouble(), plain.trouble());
            check("fault()", real.fault(), plain.fault());
            check("where()", real.where(), plain.where());
        }

        private void feed(String twenty) {
            int[] w = new int[5];
            for (int i = 0; i < 20; i++) {
                w[i / 4] = w[i / 4] << 8 | twenty.charAt(i);
            }
            check("feed(" + Arrays.toString(w) + ")", real.feed(w[0], w[1], w[2], w[3], w[4]),
                plain.feed(w[0], w[1], w[2], w[3], w[4]));
        }

        private void one() {
            int which = dice.below(3);
            if (which == 0) {
                act();
            } else if (which == 1) {
                askOne();
            } else {
                askMore();
            }
        }

        private void act() {
            int g = g();
            int v = v(g);
            int b = v(g);
            switch (dice.below(13)) {
                case 0: case 1: {
                    int k = upTo(3);
                    check("link(" + g + ", " + v + ", " + b + ", " + k + ")", real.link(g, v, b, k), plain.link(g, v, b, k));
                    break;
                }
                case 2: {
                    int c = dice.one(2) ? dice.below(2) : upTo(9);
                    check("paint(" + g + ", " + v + ", " + c + ")", real.paint(g, v, c), plain.paint(g, v, c));
                    break;
                }
                case 3:
                    check("swap(" + g + ", " + v + ", " + b + ")", real.swap(g, v, b), plain.swap(g, v, b));
                    break;
                case 4: {
                    int s = dice.one(10) ? new int[] {0, -1, 2147483647, 2147483646, 1, -2147483648}[dice.below(6)]
                        : 1 + dice.below(2147483646);
                    check("shuffle(" + g + ", " + s + ")", real.shuffle(g, s), plain.shuffle(g, s));
                    break;
                }
                case 5: {
                    int h = g();
                    check("copy(" + g + ", " + h + ")", real.copy(g, h), plain.copy(g, h));
                    break;
                }
                case 6:
                    check("turn(" + g + ")", real.turn(g), plain.turn(g));
                    break;
                case 7:
                    check("drop(" + g + ", " + v + ")", real.drop(g, v), plain.drop(g, v));
                    break;
                case 8: case 9: {
                    int s = set(g);
                    int c = dice.one(2) ? 0 : upTo(9);
                    check("grow(" + g + ", " + s + ", " + c + ")", real.grow(g, s, c), plain.grow(g, s, c));
                    break;
                }
                case 10:
                    for (int i = dice.below(4); i >= 0; i--) {
                        check("undo()", real.undo(), plain.undo());
                    }
                    break;
                case 11: {
                    int i = upTo(1);
                    check("image(" + i + ")", real.image(i) ? 1 : 0, plain.image(i) ? 1 : 0);
                    break;
                }
                default: {
                    int i = upTo(1);
                    check("again(" + i + ")", real.again(i) ? 1 : 0, plain.again(i) ? 1 : 0);
                    break;
                }
            }
        }

        private void askOne() {
            int g = g();
            int v = v(g);
            int b = v(g);
            switch (dice.below(12)) {
                case 0: {
                    int w = upTo(3);
                    check("graph(" + g + ", " + w + ")", real.graph(g, w), plain.graph(g, w));
                    break;
                }
                case 1:
                    check("colour(" + g + ", " + v + ")", real.colour(g, v), plain.colour(g, v));
                    break;
                case 2:
                    check("kind(" + g + ", " + v + ", " + b + ")", real.kind(g, v, b), plain.kind(g, v, b));
                    break;
                case 3: {
                    int k = upTo(3);
                    check("degree(" + g + ", " + v + ", " + k + ")", real.degree(g, v, k), plain.degree(g, v, k));
                    break;
                }
                case 4: {
                    int w = upTo(3);
                    check("start(" + g + ", " + w + ")", real.start(g, w), plain.start(g, w));
                    break;
                }
                case 5:
                    check("cell(" + g + ", " + v + ")", real.cell(g, v), plain.cell(g, v));
                    break;
                case 6: {
                    int w = upTo(1);
                    check("apart(" + g + ", " + v + ", " + w + ")", real.apart(g, v, w), plain.apart(g, v, w));
                    break;
                }
                case 7:
                    check("row(" + g + ", " + v + ")", row(g, v), plain.row(g, v));
                    break;
                case 8:
                    check("size()", real.size(), plain.size());
                    break;
                case 9:
                    check("where()", real.where(), plain.where());
                    break;
                case 10:
                    check("fault()", real.fault(), plain.fault());
                    break;
                default:
                    check("trouble()", real.trouble(), plain.trouble());
                    break;
            }
        }

        private int row(int g, int v) {
            try {
                return real.row(g, v);
            } catch (NoSuchElementException e) {
                return -7;
            }
        }

        private void askMore() {
            int g = g();
            int h = g();
            int v = v(g);
            switch (dice.below(18)) {
                case 0: case 1: {
                    int w = upTo(4);
                    check("tree(" + g + ", " + w + ")", real.tree(g, w), plain.tree(g, w));
                    break;
                }
                case 2: case 3: {
                    int w = upTo(5);
                    check("search(" + g + ", " + w + ")", real.search(g, w), plain.search(g, w));
                    break;
                }
                case 4: {
                    int k = dice.below(31) - 1;
                    check("name(" + g + ", " + k + ")", real.name(g, k), plain.name(g, k));
                    break;
                }
                case 5:
                    check("place(" + g + ", " + v + ")", real.place(g, v), plain.place(g, v));
                    break;
                case 6:
                    check("less(" + g + ", " + h + ")", real.less(g, h), plain.less(g, h));
                    break;
                case 7: {
                    int i = dice.below(6) - 1;
                    check("generator(" + g + ", " + i + ", " + v + ")", real.generator(g, i, v), plain.generator(g, i, v));
                    break;
                }
                case 8: {
                    int w = upTo(2);
                    check("symmetries(" + g + ", " + w + ")", real.symmetries(g, w), plain.symmetries(g, w));
                    break;
                }
                case 9:
                    check("orbit(" + g + ", " + v + ")", real.orbit(g, v), plain.orbit(g, v));
                    break;
                case 10: {
                    int s = set(g);
                    check("leave(" + g + ", " + s + ")", real.leave(g, s), plain.leave(g, s));
                    break;
                }
                case 11:
                    check("maps(" + g + ", " + h + ")", real.maps(g, h), plain.maps(g, h));
                    check("map(" + g + ", " + h + ", " + v + ")", real.map(g, h, v), plain.map(g, h, v));
                    break;
                case 12:
                    check("changes(" + g + ", " + h + ")", real.changes(g, h), plain.changes(g, h));
                    break;
                case 13:
                    check("told(" + g + ", " + h + ")", real.told(g, h), plain.told(g, h));
                    break;
                case 14: {
                    int w = upTo(1);
                    check("cards(" + g + ", " + w + ")", real.cards(g, w), plain.cards(g, w));
                    break;
                }
                case 15:
                    check("turned(" + g + ")", real.turned(g), plain.turned(g));
                    break;
                case 16: {
                    int s = set(g);
                    check("base(" + g + ", " + s + ")", real.base(g, s), plain.base(g, s));
                    break;
                }
                default:
                    check("fewest(" + g + ")", real.fewest(g), plain.fewest(g));
                    break;
            }
        }
    }

    /** Texts, most of them right; in some a byte or a token is changed. */
    private static final class Texts {
        private static final String[] ODD = {
            ";", ";;", "9", "0", "7", "3", "44", "x", "sizes", "painty", "link", "A", "\u00e9", "\t", "ring", "-", " "};
        private final Dice dice;
        private final int flavour;
        private final List<String> tokens = new ArrayList<>();

        Texts(Dice dice, int flavour) {
            this.dice = dice;
            this.flavour = flavour;
        }

        String next() {
            int n = dice.one(4) ? 1 + dice.below(7) : 4 + dice.below(4);
            if (dice.one(4)) {
                return even(dice.one(2) ? 7 : n);
            }
            tokens.add("size");
            tokens.add("" + n);
            boolean[][] linked = new boolean[n][n];
            boolean[] painted = new boolean[n];
            int lines = dice.below(flavour == 0 ? 4 : 9);
            for (int i = 0; i < lines; i++) {
                line(n, linked, painted);
            }
            if (dice.one(4)) {
                spoil();
            }
            StringBuilder t = new StringBuilder();
            for (String s : tokens) {
                if (t.length() > 0 && (needsBlank(t, s) || dice.one(2))) {
                    t.append(dice.one(12) ? "  " : " ");
                }
                t.append(s);
            }
            if (dice.one(9)) {
                t.append(' ');
            }
            return t.length() > 380 ? t.substring(0, 380) : t.toString();
        }

        /** A graph with many symmetries or few cells: rings side by side, or links by how far numbers are apart. */
        private String even(int n) {
            int[][] kind = new int[n][n];
            int from = n > 5 && dice.one(2) ? 3 : 0;
            for (int[] part : new int[][] {{0, from}, {from, n}}) {
                int m = part[1] - part[0];
                for (int far = 1; far <= m / 2; far++) {
                    int k = from > 0 ? far == 1 ? 1 : 0 : dice.below(flavour + 1);
                    for (int v = 0; v < m; v++) {
                        int a = part[0] + v;
                        int b = part[0] + (v + far) % m;
                        kind[a][b] = kind[b][a] = k;
                    }
                }
            }
            int[] p = new int[n];
            for (int v = 0; v < n; v++) {
                int at = dice.below(v + 1);
                p[v] = p[at];
                p[at] = v;
            }
            StringBuilder t = new StringBuilder("size " + n);
            for (int a = 0; a < n; a++) {
                for (int b = 0; b < a; b++) {
                    int k = dice.one(150) ? dice.below(4) : kind[a][b];
                    if (k != 0) {
                        t.append(";link ").append(p[a]).append(' ').append(p[b]).append(' ').append(k);
                    }
                }
            }
            return t.toString();
        }

        private boolean needsBlank(StringBuilder t, String s) {
            return Character.isLetter(t.charAt(t.length() - 1)) && Character.isLetter(s.charAt(0));
        }

        private void line(int n, boolean[][] linked, boolean[] painted) {
            List<String> l = new ArrayList<>();
            int loose = dice.one(40) ? 1 : 0;
            switch (dice.below(flavour == 1 ? 3 : 5)) {
                case 0: {
                    int v = dice.below(n);
                    if (painted[v] && loose == 0) {
                        return;
                    }
                    painted[v] = true;
                    l.addAll(List.of("paint", "" + v, "" + (dice.one(5) ? dice.below(10) : dice.below(2))));
                    break;
                }
                case 1: case 2: {
                    int a = dice.below(n);
                    int b = dice.below(n);
                    if ((a == b || linked[a][b]) && loose == 0) {
                        return;
                    }
                    linked[a][b] = linked[b][a] = true;
                    l.addAll(List.of("link", "" + a, "" + b));
                    if (dice.one(3)) {
                        l.add("" + (1 + dice.below(3)));
                    }
                    break;
                }
                default: {
                    boolean ring = dice.one(2);
                    chain(n, linked, l, ring, loose == 1);
                    if (l.isEmpty()) {
                        return;
                    }
                    break;
                }
            }
            tokens.add(";");
            tokens.addAll(l);
        }

        private void chain(int n, boolean[][] linked, List<String> l, boolean ring, boolean loose) {
            int m = ring ? 3 + dice.below(4) : 2 + dice.below(4);
            int[] vs = new int[m];
            for (int i = 0; i < m; i++) {
                vs[i] = dice.below(n);
            }
            boolean[][] mine = new boolean[n][n];
            for (int i = 0; i < (ring ? m : m - 1); i++) {
                int a = vs[i];
                int b = vs[(i + 1) % m];
                if ((a == b || linked[a][b] || mine[a][b]) && !loose) {
                    return;
                }
                mine[a][b] = mine[b][a] = true;
            }
            for (int a = 0; a < n; a++) {
                for (int b = 0; b < n; b++) {
                    linked[a][b] |= mine[a][b];
                }
            }
            l.add(ring ? "ring" : "path");
            for (int v : vs) {
                l.add("" + v);
            }
        }

        private void spoil() {
            int at = dice.below(tokens.size());
            switch (dice.below(4)) {
                case 0:
                    tokens.remove(at);
                    break;
                case 1:
                    tokens.add(at, ODD[dice.below(ODD.length)]);
                    break;
                case 2:
                    tokens.set(at, ODD[dice.below(ODD.length)]);
                    break;
                default:
                    while (tokens.size() > at + 1) {
                        tokens.remove(tokens.size() - 1);
                    }
                    break;
            }
        }
    }

    /** A graph as the plain program has it. */
    private static final class G {
        final int n;
        final int[] colour;
        final int[][] kind;

        G(int n) {
            this.n = n;
            colour = new int[n];
            kind = new int[n][n];
        }

        void set(int a, int b, int k) {
            kind[a][b] = k;
            kind[b][a] = k;
        }

        /** The graph whose vertex p[v] is what vertex v is here. */
        G renumbered(int[] p) {
            G x = new G(n);
            for (int v = 0; v < n; v++) {
                x.colour[p[v]] = colour[v];
                for (int w = 0; w < n; w++) {
                    x.kind[p[v]][p[w]] = kind[v][w];
                }
            }
            return x;
        }

        G copied() {
            int[] p = new int[n];
            for (int v = 0; v < n; v++) {
                p[v] = v;
            }
            return renumbered(p);
        }

        G swapped(int a, int b) {
            int[] p = new int[n];
            for (int v = 0; v < n; v++) {
                p[v] = v == a ? b : v == b ? a : v;
            }
            return renumbered(p);
        }

        G without(int v) {
            G x = new G(n - 1);
            for (int a = 0; a < n - 1; a++) {
                x.colour[a] = colour[a < v ? a : a + 1];
                for (int b = 0; b < n - 1; b++) {
                    x.kind[a][b] = kind[a < v ? a : a + 1][b < v ? b : b + 1];
                }
            }
            return x;
        }

        G turned() {
            int[] other = {1, 0, 3, 2};
            G x = new G(n);
            for (int a = 0; a < n; a++) {
                x.colour[a] = colour[a];
                for (int b = 0; b < n; b++) {
                    x.kind[a][b] = a == b ? 0 : other[kind[a][b]];
                }
            }
            return x;
        }

        int linksOf(int v, int k) {
            int sum = 0;
            for (int w = 0; w < n; w++) {
                if (w != v && (k == 0 ? kind[v][w] != 0 : kind[v][w] == k)) {
                    sum++;
                }
            }
            return sum;
        }

        String key() {
            return Arrays.toString(colour) + Arrays.deepToString(kind);
        }
    }

    private static int compare(List<Integer> a, List<Integer> b) {
        for (int i = 0; i < Math.min(a.size(), b.size()); i++) {
            if (!a.get(i).equals(b.get(i))) {
                return a.get(i) - b.get(i);
            }
        }
        return a.size() - b.size();
    }

    /** Cells in their order, and how many rounds were counted. */
    private static final class Row {
        List<List<Integer>> cells = new ArrayList<>();
        int rounds;

        static Row byColours(G g) {
            Row r = new Row();
            for (int c = 0; c <= 9; c++) {
                List<Integer> cell = new ArrayList<>();
                for (int v = 0; v < g.n; v++) {
                    if (g.colour[v] == c) {
                        cell.add(v);
                    }
                }
                if (!cell.isEmpty()) {
                    r.cells.add(cell);
                }
            }
            return r;
        }

        int cellOf(int v) {
            for (int c = 0; c < cells.size(); c++) {
                if (cells.get(c).contains(v)) {
                    return c;
                }
            }
            return -1;
        }

        List<Integer> sign(G g, int v) {
            List<Integer> s = new ArrayList<>();
            s.add(cellOf(v));
            for (List<Integer> cell : cells) {
                for (int k = 1; k <= 3; k++) {
                    int sum = 0;
                    for (int w : cell) {
                        if (w != v && g.kind[v][w] == k) {
                            sum++;
                        }
                    }
                    s.add(sum);
                }
            }
            return s;
        }

        Row round(G g) {
            List<List<Integer>> signs = new ArrayList<>();
            for (int v = 0; v < g.n; v++) {
                List<Integer> s = sign(g, v);
                if (!signs.contains(s)) {
                    signs.add(s);
                }
            }
            signs.sort(GraphNamesAgainstPlain::compare);
            Row r = new Row();
            for (List<Integer> s : signs) {
                List<Integer> cell = new ArrayList<>();
                for (int v = 0; v < g.n; v++) {
                    if (sign(g, v).equals(s)) {
                        cell.add(v);
                    }
                }
                r.cells.add(cell);
            }
            return r;
        }

        Row refined(G g) {
            Row r = this;
            int rounds = 0;
            while (true) {
                Row next = r.round(g);
                if (next.cells.size() == r.cells.size()) {
                    Row rest = new Row();
                    rest.cells = r.cells;
                    rest.rounds = rounds;
                    return rest;
                }
                rounds++;
                r = next;
            }
        }

        List<Integer> target() {
            List<Integer> best = new ArrayList<>();
            for (List<Integer> cell : cells) {
                if (cell.size() > 1 && (best.isEmpty() || cell.size() < best.size())) {
                    best = cell;
                }
            }
            return best;
        }

        Row ahead(int v) {
            Row r = new Row();
            for (List<Integer> cell : cells) {
                if (!cell.contains(v) || cell.size() == 1) {
                    r.cells.add(cell);
                    continue;
                }
                r.cells.add(List.of(v));
                List<Integer> rest = new ArrayList<>(cell);
                rest.remove((Integer) v);
                r.cells.add(rest);
            }
            return r;
        }

        int mark() {
            StringBuilder s = new StringBuilder();
            for (List<Integer> cell : cells) {
                s.append(cell.size());
            }
            return Integer.parseInt(s.toString()) * 10 + rounds;
        }
    }

    private static int bits(List<Integer> vs) {
        int b = 0;
        for (int v : vs) {
            b |= 1 << v;
        }
        return b;
    }

    private static final class Node {
        Row row;
        int vertex = -1;
        List<Integer> apart = new ArrayList<>();
        List<Integer> marks = new ArrayList<>();
        List<Node> children = new ArrayList<>();

        boolean isLeaf() {
            return children.isEmpty();
        }

        List<Integer> order() {
            List<Integer> o = new ArrayList<>();
            for (List<Integer> cell : row.cells) {
                o.add(cell.get(0));
            }
            return o;
        }

        List<Integer> code(G g) {
            List<Integer> o = order();
            List<Integer> c = new ArrayList<>();
            for (int v : o) {
                c.add(g.colour[v]);
            }
            for (int i = 0; i < o.size(); i++) {
                for (int j = i + 1; j < o.size(); j++) {
                    c.add(g.kind[o.get(i)][o.get(j)]);
                }
            }
            return c;
        }
    }

    private static int compareLeafs(G g, Node a, Node b) {
        int c = compare(a.marks, b.marks);
        return c != 0 ? c : compare(a.code(g), b.code(g));
    }

    /** All that can be told of one graph, found once. */
    private static final class Told {
        final G g;
        final Node root;
        final List<Node> nodes = new ArrayList<>();
        final List<Node> leafs = new ArrayList<>();
        Node least;
        int come, comeLeafs, cut, skipped, bests;
        final List<int[]> generators = new ArrayList<>();
        final List<int[]> symmetries;
        private Node first, best;

        Told(G g) {
            this.g = g;
            root = new Node();
            root.row = Row.byColours(g).refined(g);
            root.marks.add(root.row.mark());
            grow(root);
            for (Node leaf : leafs) {
                if (least == null || compareLeafs(g, leaf, least) < 0) {
                    least = leaf;
                }
            }
            search(root);
            symmetries = maps(g, g);
        }

        private void grow(Node node) {
            nodes.add(node);
            List<Integer> target = node.row.target();
            if (target.isEmpty()) {
                leafs.add(node);
                return;
            }
            for (int v = 0; v < g.n; v++) {
                if (target.contains(v)) {
                    Node child = new Node();
                    child.vertex = v;
                    child.apart.addAll(node.apart);
                    child.apart.add(v);
                    child.row = node.row.ahead(v).refined(g);
                    child.marks.addAll(node.marks);
                    child.marks.add(child.row.mark());
                    node.children.add(child);
                    grow(child);
                }
            }
        }

        private void search(Node node) {
            come++;
            if (node.isLeaf()) {
                leaf(node);
                return;
            }
            List<Integer> notSkipped = new ArrayList<>();
            for (Node child : node.children) {
                if (comesTo(notSkipped, child.vertex, node.apart)) {
                    skipped++;
                    continue;
                }
                notSkipped.add(child.vertex);
                if (isCut(child)) {
                    cut++;
                } else {
                    search(child);
                }
            }
        }

        private boolean comesTo(List<Integer> from, int v, List<Integer> apart) {
            Set<Integer> seen = new HashSet<>(from);
            List<Integer> todo = new ArrayList<>(from);
            while (!todo.isEmpty()) {
                int u = todo.remove(0);
                for (int[] p : generators) {
                    boolean leaves = true;
                    for (int a : apart) {
                        leaves &= p[a] == a;
                    }
                    if (leaves && seen.add(p[u])) {
                        todo.add(p[u]);
                    }
                }
            }
            return seen.contains(v);
        }

        private boolean isCut(Node node) {
            if (best == null) {
                return false;
            }
            int d = node.marks.size() - 1;
            if (best.marks.size() <= d || !best.marks.subList(0, d).equals(node.marks.subList(0, d))) {
                return false;
            }
            return node.marks.get(d) > best.marks.get(d);
        }

        private void leaf(Node leaf) {
            comeLeafs++;
            if (first == null) {
                first = leaf;
                best = leaf;
                bests++;
                return;
            }
            if (compareLeafs(g, leaf, first) == 0) {
                generators.add(generator(first, leaf));
            } else if (compareLeafs(g, leaf, best) == 0) {
                generators.add(generator(best, leaf));
            } else if (compareLeafs(g, leaf, best) < 0) {
                best = leaf;
                bests++;
            }
        }

        private int[] generator(Node from, Node to) {
            int[] p = new int[g.n];
            for (int c = 0; c < g.n; c++) {
                p[from.order().get(c)] = to.order().get(c);
            }
            return p;
        }

        int deepest() {
            int d = 0;
            for (Node leaf : leafs) {
                d = Math.max(d, leaf.apart.size());
            }
            return d;
        }

        int like() {
            int sum = 0;
            for (Node leaf : leafs) {
                sum += compareLeafs(g, leaf, least) == 0 ? 1 : 0;
            }
            return sum;
        }

        int orbit(int v) {
            int b = 0;
            for (int[] p : symmetries) {
                b |= 1 << p[v];
            }
            return b;
        }
    }

    private static List<int[]> permutations(int n) {
        List<int[]> all = new ArrayList<>();
        permute(new int[n], 0, all);
        return all;
    }

    private static void permute(int[] p, int i, List<int[]> all) {
        if (i == p.length) {
            all.add(p.clone());
            return;
        }
        for (int v = 0; v < p.length; v++) {
            boolean used = false;
            for (int j = 0; j < i; j++) {
                used |= p[j] == v;
            }
            if (!used) {
                p[i] = v;
                permute(p, i + 1, all);
            }
        }
    }

    private static final Map<Integer, List<int[]>> PERMUTATIONS = new HashMap<>();

    private static int unlike(G a, G b, int[] p) {
        int sum = 0;
        for (int v = 0; v < a.n; v++) {
            sum += a.colour[v] == b.colour[p[v]] ? 0 : 1;
            for (int w = 0; w < v; w++) {
                sum += a.kind[v][w] == b.kind[p[v]][p[w]] ? 0 : 1;
            }
        }
        return sum;
    }

    private static List<int[]> maps(G a, G b) {
        List<int[]> found = new ArrayList<>();
        if (a.n == b.n) {
            for (int[] p : PERMUTATIONS.computeIfAbsent(a.n, GraphNamesAgainstPlain::permutations)) {
                if (unlike(a, b, p) == 0) {
                    found.add(p);
                }
            }
        }
        return found;
    }

    private static final Map<String, Told> KNOWN = new HashMap<>();

    private static Told toldOf(G g) {
        if (KNOWN.size() > 400) {
            KNOWN.clear();
        }
        return KNOWN.computeIfAbsent(g.key(), k -> new Told(g));
    }

    /** The plain program: the face of GraphNames. */
    private static final class Plain {
        G[] graphs = {new G(1), new G(1), new G(1)};
        private final List<G[]> past = new ArrayList<>();
        private final G[][] images = new G[2][];
        private final List<Integer> tape = new ArrayList<>();
        private int fault;
        private int place;
        private int trouble;

        private int no(int t) {
            trouble = t;
            return -1;
        }

        private int yes(int answer) {
            trouble = 0;
            return answer;
        }

        private boolean isG(int g) {
            return g >= 0 && g <= 2;
        }

        private boolean isV(int g, int v) {
            return isG(g) && v >= 0 && v < graphs[g].n;
        }

        private boolean isSet(int g, int set) {
            return set >= 0 && set < 1 << graphs[g].n;
        }

        private void act(int g, G becomes) {
            past.add(graphs.clone());
            if (past.size() > 8) {
                past.remove(0);
            }
            graphs[g] = becomes;
        }

        int feed(int... w) {
            if (tape.size() + 20 > 400) {
                return -1;
            }
            for (int x : w) {
                tape.add(x >> 24 & 255);
                tape.add(x >> 16 & 255);
                tape.add(x >> 8 & 255);
                tape.add(x & 255);
            }
            return tape.size();
        }

        String shown(int n) {
            StringBuilder s = new StringBuilder();
            for (int i = 0; i < n && i < tape.size(); i++) {
                s.append((char) (int) tape.get(i));
            }
            return s.toString();
        }

        int text(int g, int n) {
            if (!isG(g)) {
                return no(1);
            }
            if (n < 0 || n > tape.size()) {
                return no(2);
            }
            Parse parse = new Parse(shown(n));
            tape.clear();
            fault = parse.fault;
            place = parse.place;
            if (fault != 0) {
                return no(4);
            }
            act(g, parse.graph);
            return yes(parse.graph.n);
        }

        int fault() {
            return fault;
        }

        int where() {
            return trouble == 4 ? place : -1;
        }

        int graph(int g, int what) {
            if (!isG(g) || what < 0 || what > 3) {
                return no(1);
            }
            G x = graphs[g];
            int links = 0;
            int most = 0;
            Set<Integer> colours = new HashSet<>();
            for (int v = 0; v < x.n; v++) {
                colours.add(x.colour[v]);
                most = Math.max(most, x.linksOf(v, 0));
                links += x.linksOf(v, 0);
            }
            return yes(new int[] {x.n, links / 2, colours.size(), most}[what]);
        }

        int colour(int g, int v) {
            return isV(g, v) ? yes(graphs[g].colour[v]) : no(1);
        }

        int kind(int g, int a, int b) {
            if (!isV(g, a) || !isV(g, b)) {
                return no(1);
            }
            return a == b ? no(5) : yes(graphs[g].kind[a][b]);
        }

        int degree(int g, int v, int k) {
            if (!isV(g, v)) {
                return no(1);
            }
            return k < 0 || k > 3 ? no(2) : yes(graphs[g].linksOf(v, k));
        }

        int start(int g, int what) {
            if (!isG(g) || what < 0 || what > 3) {
                return no(1);
            }
            G x = graphs[g];
            Row r = toldOf(x).root.row;
            return yes(new int[] {r.cells.size(), r.rounds, Row.byColours(x).cells.size(), bits(r.target())}[what]);
        }

        int cell(int g, int c) {
            if (!isG(g)) {
                return no(1);
            }
            Row r = toldOf(graphs[g]).root.row;
            return c < 0 || c >= r.cells.size() ? no(1) : yes(bits(r.cells.get(c)));
        }

        int apart(int g, int v, int what) {
            if (!isV(g, v) || what < 0 || what > 1) {
                return no(1);
            }
            Row r = toldOf(graphs[g]).root.row;
            if (!r.target().contains(v)) {
                return no(5);
            }
            Row then = r.ahead(v).refined(graphs[g]);
            return yes(what == 0 ? then.cells.size() : then.mark());
        }

        int tree(int g, int what) {
            if (!isG(g) || what < 0 || what > 4) {
                return no(1);
            }
            Told t = toldOf(graphs[g]);
            return yes(new int[] {t.nodes.size(), t.leafs.size(), t.deepest(), t.root.marks.get(0), t.like()}[what]);
        }

        int search(int g, int what) {
            if (!isG(g) || what < 0 || what > 5) {
                return no(1);
            }
            Told t = toldOf(graphs[g]);
            return yes(new int[] {t.come, t.comeLeafs, t.cut, t.skipped, t.generators.size(), t.bests}[what]);
        }

        int name(int g, int k) {
            if (!isG(g)) {
                return no(1);
            }
            List<Integer> code = toldOf(graphs[g]).least.code(graphs[g]);
            return k < 0 || k >= code.size() ? no(6) : yes(code.get(k));
        }

        int place(int g, int k) {
            if (!isG(g)) {
                return no(1);
            }
            return k < 0 || k >= graphs[g].n ? no(6) : yes(toldOf(graphs[g]).least.order().get(k));
        }

        int less(int g, int h) {
            if (!isG(g) || !isG(h)) {
                return no(1);
            }
            G x = graphs[g];
            G y = graphs[h];
            int c = x.n != y.n ? x.n - y.n : compare(toldOf(x).least.code(x), toldOf(y).least.code(y));
            return yes(c < 0 ? 0 : c > 0 ? 1 : 2);
        }

        int generator(int g, int i, int v) {
            if (!isV(g, v)) {
                return no(1);
            }
            Told t = toldOf(graphs[g]);
            return i < 0 || i >= t.generators.size() ? no(6) : yes(t.generators.get(i)[v]);
        }

        int symmetries(int g, int what) {
            if (!isG(g) || what < 0 || what > 2) {
                return no(1);
            }
            Told t = toldOf(graphs[g]);
            Set<Integer> orbits = new HashSet<>();
            int fixed = 0;
            for (int v = 0; v < t.g.n; v++) {
                orbits.add(t.orbit(v));
                fixed += t.orbit(v) == 1 << v ? 1 : 0;
            }
            return yes(new int[] {t.symmetries.size(), orbits.size(), fixed}[what]);
        }

        int orbit(int g, int v) {
            return isV(g, v) ? yes(toldOf(graphs[g]).orbit(v)) : no(1);
        }

        int leave(int g, int set) {
            if (!isG(g)) {
                return no(1);
            }
            if (!isSet(g, set)) {
                return no(2);
            }
            int sum = 0;
            for (int[] p : toldOf(graphs[g]).symmetries) {
                boolean leaves = true;
                for (int v = 0; v < p.length; v++) {
                    leaves &= (set >> v & 1) == 0 || p[v] == v;
                }
                sum += leaves ? 1 : 0;
            }
            return yes(sum);
        }

        int maps(int g, int h) {
            return isG(g) && isG(h) ? yes(GraphNamesAgainstPlain.maps(graphs[g], graphs[h]).size()) : no(1);
        }

        int map(int g, int h, int v) {
            if (!isV(g, v) || !isG(h)) {
                return no(1);
            }
            List<int[]> all = GraphNamesAgainstPlain.maps(graphs[g], graphs[h]);
            return all.isEmpty() ? no(6) : yes(all.get(0)[v]);
        }

        int changes(int g, int h) {
            if (!isG(g) || !isG(h)) {
                return no(1);
            }
            if (graphs[g].n != graphs[h].n) {
                return no(5);
            }
            int least = 1000;
            for (int[] p : PERMUTATIONS.computeIfAbsent(graphs[g].n, GraphNamesAgainstPlain::permutations)) {
                least = Math.min(least, unlike(graphs[g], graphs[h], p));
            }
            return yes(least);
        }

        int told(int g, int h) {
            if (!isG(g) || !isG(h)) {
                return no(1);
            }
            G x = graphs[g];
            G y = graphs[h];
            if (x.n != y.n) {
                return no(5);
            }
            int[] cx = x.colour.clone();
            int[] cy = y.colour.clone();
            Arrays.sort(cx);
            Arrays.sort(cy);
            if (!Arrays.equals(cx, cy)) {
                return yes(0);
            }
            // both graphs as one that has no links between them
            G both = new G(2 * x.n);
            for (int v = 0; v < x.n; v++) {
                both.colour[v] = x.colour[v];
                both.colour[x.n + v] = y.colour[v];
                for (int w = 0; w < x.n; w++) {
                    both.kind[v][w] = x.kind[v][w];
                    both.kind[x.n + v][x.n + w] = y.kind[v][w];
                }
            }
            Row row = Row.byColours(both);
            for (int r = 1;; r++) {
                List<List<Integer>> a = new ArrayList<>();
                List<List<Integer>> b = new ArrayList<>();
                for (int v = 0; v < x.n; v++) {
                    a.add(row.sign(both, v));
                    b.add(row.sign(both, x.n + v));
                }
                a.sort(GraphNamesAgainstPlain::compare);
                b.sort(GraphNamesAgainstPlain::compare);
                if (!a.equals(b)) {
                    return yes(r);
                }
                Row next = row.round(both);
                if (next.cells.size() == row.cells.size()) {
                    return yes(-2);
                }
                row = next;
            }
        }

        int cards(int g, int what) {
            if (!isG(g) || what < 0 || what > 1) {
                return no(1);
            }
            G x = graphs[g];
            if (x.n == 1) {
                return no(5);
            }
            List<G> unlike = new ArrayList<>();
            int likeFirst = 0;
            for (int v = 0; v < x.n; v++) {
                G card = x.without(v);
                boolean known = false;
                for (G u : unlike) {
                    known |= !GraphNamesAgainstPlain.maps(u, card).isEmpty();
                }
                if (!known) {
                    unlike.add(card);
                }
                likeFirst += GraphNamesAgainstPlain.maps(unlike.get(0), card).isEmpty() ? 0 : 1;
            }
            return yes(what == 0 ? unlike.size() : likeFirst);
        }

        int turned(int g) {
            if (!isG(g)) {
                return no(1);
            }
            return yes(GraphNamesAgainstPlain.maps(graphs[g], graphs[g].turned()).isEmpty() ? 0 : 1);
        }

        private int cellsWith(G x, int set) {
            Row r = toldOf(x).root.row;
            for (int v = 0; v < x.n; v++) {
                if ((set >> v & 1) == 1) {
                    r = r.ahead(v);
                }
            }
            return r.refined(x).cells.size();
        }

        int base(int g, int set) {
            if (!isG(g)) {
                return no(1);
            }
            return isSet(g, set) ? yes(cellsWith(graphs[g], set)) : no(2);
        }

        int fewest(int g) {
            if (!isG(g)) {
                return no(1);
            }
            G x = graphs[g];
            for (int size = 0; size <= x.n; size++) {
                for (int set = 0; set < 1 << x.n; set++) {
                    if (Integer.bitCount(set) == size && cellsWith(x, set) == x.n) {
                        return yes(set);
                    }
                }
            }
            throw new IllegalStateException("all vertices set apart tell all apart");
        }

        int link(int g, int a, int b, int k) {
            if (!isV(g, a) || !isV(g, b)) {
                return no(1);
            }
            if (a == b) {
                return no(5);
            }
            if (k < 0 || k > 3) {
                return no(2);
            }
            int was = graphs[g].kind[a][b];
            G x = graphs[g].copied();
            x.set(a, b, k);
            act(g, x);
            return yes(was);
        }

        int paint(int g, int v, int c) {
            if (!isV(g, v)) {
                return no(1);
            }
            if (c < 0 || c > 9) {
                return no(2);
            }
            int was = graphs[g].colour[v];
            G x = graphs[g].copied();
            x.colour[v] = c;
            act(g, x);
            return yes(was);
        }

        int swap(int g, int a, int b) {
            if (!isV(g, a) || !isV(g, b)) {
                return no(1);
            }
            if (a == b) {
                return no(5);
            }
            G x = graphs[g];
            int both = 0;
            for (int v = 0; v < x.n; v++) {
                both += v != a && v != b && x.kind[a][v] != 0 && x.kind[b][v] != 0 ? 1 : 0;
            }
            act(g, x.swapped(a, b));
            return yes(both);
        }

        int shuffle(int g, int seed) {
            if (!isG(g)) {
                return no(1);
            }
            if (seed < 1 || seed > 2147483646) {
                return no(2);
            }
            G x = graphs[g].copied();
            long d = seed;
            int sum = 0;
            for (int i = x.n - 1; i >= 1; i--) {
                d = 48271 * d % 2147483647;
                int j = (int) (d % (i + 1));
                sum += i == j ? 0 : 1;
                x = x.swapped(i, j);
            }
            act(g, x);
            return yes(sum);
        }

        int copy(int g, int h) {
            if (!isG(g) || !isG(h)) {
                return no(1);
            }
            if (g == h) {
                return no(5);
            }
            act(h, graphs[g].copied());
            return yes(graphs[h].n);
        }

        int turn(int g) {
            if (!isG(g)) {
                return no(1);
            }
            act(g, graphs[g].turned());
            return yes(graph(g, 1));
        }

        int drop(int g, int v) {
            if (!isV(g, v)) {
                return no(1);
            }
            if (graphs[g].n == 1) {
                return no(5);
            }
            act(g, graphs[g].without(v));
            return yes(graphs[g].n);
        }

        int grow(int g, int set, int colour) {
            if (!isG(g)) {
                return no(1);
            }
            if (!isSet(g, set) || colour < 0 || colour > 9) {
                return no(2);
            }
            G x = graphs[g];
            if (x.n == 7) {
                return no(5);
            }
            G more = new G(x.n + 1);
            for (int v = 0; v < x.n; v++) {
                more.colour[v] = x.colour[v];
                for (int w = 0; w < x.n; w++) {
                    more.kind[v][w] = x.kind[v][w];
                }
                more.set(v, x.n, set >> v & 1);
            }
            more.colour[x.n] = colour;
            act(g, more);
            return yes(more.n);
        }

        int undo() {
            if (past.isEmpty()) {
                return no(5);
            }
            graphs = past.remove(past.size() - 1);
            return yes(past.size());
        }

        boolean image(int i) {
            if (i < 0 || i > 1) {
                return no(1) == 0;
            }
            images[i] = graphs.clone();
            return yes(1) == 1;
        }

        boolean again(int i) {
            if (i < 0 || i > 1 || images[i] == null) {
                return no(1) == 0;
            }
            graphs = images[i].clone();
            past.clear();
            return yes(1) == 1;
        }

        int row(int g, int v) {
            if (!isV(g, v)) {
                return -7;
            }
            int b = 0;
            for (int w = 0; w < graphs[g].n; w++) {
                b |= w != v && graphs[g].kind[v][w] != 0 ? 1 << w : 0;
            }
            return b;
        }

        int size() {
            return tape.size();
        }

        int trouble() {
            return trouble;
        }
    }

    /** Reads a text token by token through the states of its grammar. */
    private static final class Parse {
        G graph = new G(1);
        int fault;
        int place;
        private final String t;
        private final Set<Integer> painted = new HashSet<>();
        private String state = "size";
        private int a = -1;
        private int head = -1;
        private int length;

        Parse(String t) {
            this.t = t;
            int i = 0;
            while (fault == 0) {
                while (i < t.length() && t.charAt(i) == ' ') {
                    i++;
                }
                int from = i;
                if (i < t.length()) {
                    i++;
                    if (small(from)) {
                        while (i < t.length() && small(i)) {
                            i++;
                        }
                    }
                }
                fault = take(t.substring(from, i));
                place = from;
                if (from == t.length()) {
                    break;
                }
            }
        }

        private boolean small(int i) {
            return t.charAt(i) >= 'a' && t.charAt(i) <= 'z';
        }

        /** Takes one token ("" is the end); its fault. */
        private int take(String token) {
            boolean digit = token.matches("[0-9]");
            int d = digit ? token.charAt(0) - '0' : -1;
            boolean parts = token.equals(";") || token.isEmpty();
            switch (state) {
                case "size":
                    state = "count";
                    return token.equals("size") ? 0 : 1;
                case "count":
                    if (!digit) {
                        return 1;
                    }
                    if (d < 1 || d > 7) {
                        return 2;
                    }
                    graph = new G(d);
                    state = "line";
                    return 0;
                case "line":
                    return parts ? part() : 1;
                case "word":
                    state = token;
                    length = 0;
                    return List.of("paint", "link", "path", "ring").contains(token) ? 0 : 1;
                case "paint":
                    if (!digit) {
                        return 1;
                    }
                    a = d;
                    state = "colour";
                    return d >= graph.n ? 2 : painted.add(d) ? 0 : 3;
                case "colour":
                    if (!digit) {
                        return 1;
                    }
                    graph.colour[a] = d;
                    state = "line";
                    return 0;
                case "link":
                    if (!digit) {
                        return 1;
                    }
                    if (d >= graph.n) {
                        return 2;
                    }
                    length++;
                    if (length == 1) {
                        head = d;
                        return 0;
                    }
                    a = d;
                    state = "kind";
                    return join(head, a);
                case "kind":
                    if (parts) {
                        return part();
                    }
                    if (!digit) {
                        return 1;
                    }
                    if (d < 1 || d > 3) {
                        return 2;
                    }
                    graph.set(head, a, d);
                    state = "line";
                    return 0;
                default:
                    return chain(digit, d, parts);
            }
        }

        private int chain(boolean digit, int d, boolean parts) {
            boolean ring = state.equals("ring");
            if (parts && length >= (ring ? 3 : 2)) {
                int closing = ring ? join(a, head) : 0;
                return closing != 0 ? closing : part();
            }
            if (!digit) {
                return 1;
            }
            if (d >= graph.n) {
                return 2;
            }
            length++;
            int was = a;
            a = d;
            if (length == 1) {
                head = d;
                return 0;
            }
            return join(was, d);
        }

        private int part() {
            state = "word";
            return 0;
        }

        private int join(int x, int y) {
            if (x == y || graph.kind[x][y] != 0) {
                return 3;
            }
            graph.set(x, y, 1);
            return 0;
        }
    }
}
