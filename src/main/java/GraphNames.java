import java.util.NoSuchElementException;

/** Shapes of small graphs told apart; ../shared/DOC.md tells what each call promises. */
public final class GraphNames {
    public static final int NONE = -1;

    private static final int GRAPHS = 3;
    private static final int MOST = 7;
    private static final int KINDS = 4;
    private static final int COLOURS = 10;
    private static final int TAPE = 400;
    private static final int FEED = 20;
    private static final int ACTS = 8;
    private static final int IMAGES = 2;
    private static final int CODE = 28;
    private static final int LEAFS = 5040;
    private static final int SEEDS = 2147483647;
    private static final int NOT_APART = -2;

    private static final int NO_SUCH = 1;
    private static final int NUMBER = 2;
    private static final int FAULTY = 4;
    private static final int NOT_SO = 5;
    private static final int NO_MORE = 6;

    private final Graph[] graphs = new Graph[GRAPHS];
    private final Tree[] trees = new Tree[GRAPHS];
    private final Search[] searches = new Search[GRAPHS];
    private final Reader reader = new Reader();
    private final Past past = new Past();
    private final Graph[] images = new Graph[IMAGES * GRAPHS];
    private final boolean[] kept = new boolean[IMAGES];
    private final Cells cells = new Cells();
    private final Cells others = new Cells();
    private final Pairing pairing = new Pairing();
    private final Graph made = new Graph();
    private final Search cardSearch = new Search();
    private final Leaf[] cardNames = new Leaf[MOST];
    private int trouble = 0;

    public GraphNames() {
        for (int g = 0; g < GRAPHS; g++) {
            graphs[g] = new Graph();
            trees[g] = new Tree();
            searches[g] = new Search();
        }
        for (int i = 0; i < images.length; i++) {
            images[i] = new Graph();
        }
        for (int v = 0; v < MOST; v++) {
            cardNames[v] = new Leaf();
        }
    }

    // ---- texts

    public int feed(int a, int b, int c, int d, int e) {
        if (reader.held > TAPE - FEED) {
            return NONE;
        }
        reader.put(a);
        reader.put(b);
        reader.put(c);
        reader.put(d);
        reader.put(e);
        return reader.held;
    }

    public int text(int g, int n) {
        Graph x = at(g);
        if (x == null) {
            return refused(NO_SUCH);
        }
        if (n < 0 || n > reader.held) {
            return refused(NUMBER);
        }
        reader.read(n);
        if (reader.fault != 0) {
            return refused(FAULTY);
        }
        past.keep(g, x);
        x.take(reader.graph);
        return answered(x.count);
    }

    public int fault() {
        return reader.fault;
    }

    public int where() {
        return trouble == FAULTY ? reader.place : NONE;
    }

    // ---- what is told

    public int graph(int g, int what) {
        Graph x = at(g);
        if (x == null || what < 0 || what > 3) {
            return refused(NO_SUCH);
        }
        switch (what) {
            case 0:
                return answered(x.count);
            case 1:
                return answered(x.links());
            case 2:
                cells.byColours(x);
                return answered(cells.count);
            default:
                return answered(x.mostLinks());
        }
    }

    public int colour(int g, int v) {
        Graph x = at(g);
        if (x == null || !x.has(v)) {
            return refused(NO_SUCH);
        }
        return answered(x.colours[v]);
    }

    public int kind(int g, int a, int b) {
        Graph x = at(g);
        if (x == null || !x.has(a) || !x.has(b)) {
            return refused(NO_SUCH);
        }
        if (a == b) {
            return refused(NOT_SO);
        }
        return answered(x.kinds[a][b]);
    }

    public int degree(int g, int v, int kind) {
        Graph x = at(g);
        if (x == null || !x.has(v)) {
            return refused(NO_SUCH);
        }
        if (kind < 0 || kind >= KINDS) {
            return refused(NUMBER);
        }
        return answered(Integer.bitCount(x.linked[kind][v]));
    }

    // ---- cells

    public int start(int g, int what) {
        Graph x = at(g);
        if (x == null || what < 0 || what > 3) {
            return refused(NO_SUCH);
        }
        cells.byColours(x);
        int first = cells.count;
        cells.refine(x);
        switch (what) {
            case 0:
                return answered(cells.count);
            case 1:
                return answered(cells.rounds);
            case 2:
                return answered(first);
            default:
                return answered(cells.target());
        }
    }

    public int cell(int g, int c) {
        Graph x = at(g);
        if (x == null) {
            return refused(NO_SUCH);
        }
        cells.begin(x);
        if (c < 0 || c >= cells.count) {
            return refused(NO_SUCH);
        }
        return answered(cells.sets[c]);
    }

    public int apart(int g, int v, int what) {
        Graph x = at(g);
        if (x == null || !x.has(v) || what < 0 || what > 1) {
            return refused(NO_SUCH);
        }
        cells.begin(x);
        if (!in(cells.target(), v)) {
            return refused(NOT_SO);
        }
        cells.putAhead(v);
        cells.refine(x);
        return answered(what == 0 ? cells.count : cells.mark());
    }

    public int tree(int g, int what) {
        Graph x = at(g);
        if (x == null || what < 0 || what > 4) {
            return refused(NO_SUCH);
        }
        Tree t = trees[g];
        t.look(x);
        switch (what) {
            case 0:
                return answered(t.nodes);
            case 1:
                return answered(t.leafs);
            case 2:
                return answered(t.deepest);
            case 3:
                return answered(t.best.marks[0]);
            default:
                return answered(t.like);
        }
    }

    public int search(int g, int what) {
        Graph x = at(g);
        if (x == null || what < 0 || what > 5) {
            return refused(NO_SUCH);
        }
        Search s = searchOf(g);
        switch (what) {
            case 0:
                return answered(s.nodes);
            case 1:
                return answered(s.leafs);
            case 2:
                return answered(s.cut);
            case 3:
                return answered(s.skipped);
            case 4:
                return answered(s.found);
            default:
                return answered(s.bests);
        }
    }

    // ---- names

    public int name(int g, int k) {
        if (at(g) == null) {
            return refused(NO_SUCH);
        }
        Leaf least = searchOf(g).best;
        if (k < 0 || k >= least.length) {
            return refused(NO_MORE);
        }
        return answered(least.code[k]);
    }

    public int place(int g, int k) {
        Graph x = at(g);
        if (x == null) {
            return refused(NO_SUCH);
        }
        if (!x.has(k)) {
            return refused(NO_MORE);
        }
        return answered(searchOf(g).best.order[k]);
    }

    public int less(int g, int h) {
        Graph x = at(g);
        Graph y = at(h);
        if (x == null || y == null) {
            return refused(NO_SUCH);
        }
        int order = searchOf(g).best.compareCodes(searchOf(h).best);
        return answered(order < 0 ? 0 : order > 0 ? 1 : 2);
    }

    // ---- symmetries

    public int generator(int g, int i, int v) {
        Graph x = at(g);
        if (x == null || !x.has(v)) {
            return refused(NO_SUCH);
        }
        Search s = searchOf(g);
        if (i < 0 || i >= s.found) {
            return refused(NO_MORE);
        }
        return answered(sentTo(s.generators[i], v));
    }

    public int symmetries(int g, int what) {
        Graph x = at(g);
        if (x == null || what < 0 || what > 2) {
            return refused(NO_SUCH);
        }
        pairing.match(x, x, 0);
        switch (what) {
            case 0:
                return answered(pairing.ways);
            case 1:
                return answered(pairing.orbits());
            default:
                return answered(pairing.unmoved());
        }
    }

    public int orbit(int g, int v) {
        Graph x = at(g);
        if (x == null || !x.has(v)) {
            return refused(NO_SUCH);
        }
        pairing.match(x, x, 0);
        return answered(pairing.reached[v]);
    }

    public int leave(int g, int set) {
        Graph x = at(g);
        if (x == null) {
            return refused(NO_SUCH);
        }
        if (!x.hasAll(set)) {
            return refused(NUMBER);
        }
        pairing.match(x, x, set);
        return answered(pairing.ways);
    }

    // ---- two graphs

    public int maps(int g, int h) {
        Graph x = at(g);
        Graph y = at(h);
        if (x == null || y == null) {
            return refused(NO_SUCH);
        }
        pairing.match(x, y, 0);
        return answered(pairing.ways);
    }

    public int map(int g, int h, int v) {
        Graph x = at(g);
        Graph y = at(h);
        if (x == null || y == null || !x.has(v)) {
            return refused(NO_SUCH);
        }
        pairing.match(x, y, 0);
        if (pairing.ways == 0) {
            return refused(NO_MORE);
        }
        return answered(pairing.least[v]);
    }

    public int changes(int g, int h) {
        Graph x = at(g);
        Graph y = at(h);
        if (x == null || y == null) {
            return refused(NO_SUCH);
        }
        if (x.count != y.count) {
            return refused(NOT_SO);
        }
        return answered(pairing.leastChanges(x, y));
    }

    public int told(int g, int h) {
        Graph x = at(g);
        Graph y = at(h);
        if (x == null || y == null) {
            return refused(NO_SUCH);
        }
        if (x.count != y.count) {
            return refused(NOT_SO);
        }
        return answered(toldApart(x, y));
    }

    // ---- less, turned, set apart

    public int cards(int g, int what) {
        Graph x = at(g);
        if (x == null || what < 0 || what > 1) {
            return refused(NO_SUCH);
        }
        if (x.count == 1) {
            return refused(NOT_SO);
        }
        nameCards(x);
        return answered(what == 0 ? unlikeCards(x.count) : cardsLike(0, x.count));
    }

    public int turned(int g) {
        Graph x = at(g);
        if (x == null) {
            return refused(NO_SUCH);
        }
        made.take(x);
        made.turnKinds();
        pairing.match(x, made, 0);
        return answered(pairing.ways > 0 ? 1 : 0);
    }

    public int base(int g, int set) {
        Graph x = at(g);
        if (x == null) {
            return refused(NO_SUCH);
        }
        if (!x.hasAll(set)) {
            return refused(NUMBER);
        }
        others.begin(x);
        return answered(cellsWith(x, set));
    }

    public int fewest(int g) {
        Graph x = at(g);
        if (x == null) {
            return refused(NO_SUCH);
        }
        return answered(fewestApart(x));
    }

    // ---- acts

    public int link(int g, int a, int b, int k) {
        Graph x = at(g);
        if (x == null || !x.has(a) || !x.has(b)) {
            return refused(NO_SUCH);
        }
        if (a == b) {
            return refused(NOT_SO);
        }
        if (k < 0 || k >= KINDS) {
            return refused(NUMBER);
        }
        past.keep(g, x);
        int was = x.kinds[a][b];
        x.join(a, b, k);
        return answered(was);
    }

    public int paint(int g, int v, int c) {
        Graph x = at(g);
        if (x == null || !x.has(v)) {
            return refused(NO_SUCH);
        }
        if (c < 0 || c >= COLOURS) {
            return refused(NUMBER);
        }
        past.keep(g, x);
        int was = x.colours[v];
        x.colours[v] = c;
        return answered(was);
    }

    public int swap(int g, int a, int b) {
        Graph x = at(g);
        if (x == null || !x.has(a) || !x.has(b)) {
            return refused(NO_SUCH);
        }
        if (a == b) {
            return refused(NOT_SO);
        }
        past.keep(g, x);
        x.exchange(a, b);
        return answered(Integer.bitCount(x.linked[0][a] & x.linked[0][b]));
    }

    public int shuffle(int g, int seed) {
        Graph x = at(g);
        if (x == null) {
            return refused(NO_SUCH);
        }
        if (seed < 1 || seed >= SEEDS) {
            return refused(NUMBER);
        }
        past.keep(g, x);
        return answered(x.mix(seed));
    }

    public int copy(int g, int h) {
        Graph x = at(g);
        Graph y = at(h);
        if (x == null || y == null) {
            return refused(NO_SUCH);
        }
        if (g == h) {
            return refused(NOT_SO);
        }
        past.keep(h, y);
        y.take(x);
        return answered(y.count);
    }

    public int turn(int g) {
        Graph x = at(g);
        if (x == null) {
            return refused(NO_SUCH);
        }
        past.keep(g, x);
        x.turnKinds();
        return answered(x.links());
    }

    public int drop(int g, int v) {
        Graph x = at(g);
        if (x == null || !x.has(v)) {
            return refused(NO_SUCH);
        }
        if (x.count == 1) {
            return refused(NOT_SO);
        }
        past.keep(g, x);
        x.lose(v);
        return answered(x.count);
    }

    public int grow(int g, int set, int colour) {
        Graph x = at(g);
        if (x == null) {
            return refused(NO_SUCH);
        }
        if (!x.hasAll(set) || colour < 0 || colour >= COLOURS) {
            return refused(NUMBER);
        }
        if (x.count >= MOST) {
            return refused(NOT_SO);
        }
        past.keep(g, x);
        x.gain(set, colour);
        return answered(x.count);
    }

    public int undo() {
        if (past.count == 0) {
            return refused(NOT_SO);
        }
        past.bringBack(graphs);
        return answered(past.count);
    }

    public boolean image(int i) {
        if (i < 0 || i >= IMAGES) {
            trouble = NO_SUCH;
            return false;
        }
        for (int g = 0; g < GRAPHS; g++) {
            images[i * GRAPHS + g].take(graphs[g]);
        }
        kept[i] = true;
        trouble = 0;
        return true;
    }

    public boolean again(int i) {
        if (i < 0 || i >= IMAGES || !kept[i]) {
            trouble = NO_SUCH;
            return false;
        }
        for (int g = 0; g < GRAPHS; g++) {
            graphs[g].take(images[i * GRAPHS + g]);
        }
        past.count = 0;
        trouble = 0;
        return true;
    }

    // ---- rows

    public int row(int g, int v) throws NoSuchElementException {
        Graph x = at(g);
        if (x == null || !x.has(v)) {
            throw new NoSuchElementException();
        }
        return x.linked[0][v];
    }

    public int size() {
        return reader.held;
    }

    public int trouble() {
        return trouble;
    }

    // ---- what the calls share

    private int refused(int number) {
        trouble = number;
        return NONE;
    }

    private int answered(int answer) {
        trouble = 0;
        return answer;
    }

    private Graph at(int g) {
        return g >= 0 && g < GRAPHS ? graphs[g] : null;
    }

    private Search searchOf(int g) {
        Search s = searches[g];
        s.look(graphs[g]);
        return s;
    }

    private int toldApart(Graph x, Graph y) {
        cells.byColours(x);
        others.byColours(y);
        if (!cells.alike(others)) {
            return 0;
        }
        for (int r = 1; r <= MOST; r++) {
            boolean parted = cells.divide(x);
            others.divide(y);
            if (!cells.alike(others)) {
                return r;
            }
            if (!parted) {
                return NOT_APART;
            }
        }
        return NOT_APART;
    }

    private void nameCards(Graph x) {
        for (int v = 0; v < x.count; v++) {
            made.take(x);
            made.lose(v);
            cardSearch.look(made);
            cardNames[v].take(cardSearch.best);
        }
    }

    private int unlikeCards(int count) {
        int unlike = 0;
        for (int v = 0; v < count; v++) {
            if (cardsLike(v, v) == 0) {
                unlike++;
            }
        }
        return unlike;
    }

    /** How many of the cards below an end have the name of card v. */
    private int cardsLike(int v, int end) {
        int like = 0;
        for (int u = 0; u < end; u++) {
            if (cardNames[u].compareCodes(cardNames[v]) == 0) {
                like++;
            }
        }
        return like;
    }

    /** How many cells there are if some are set ahead in START, which others holds. */
    private int cellsWith(Graph x, int set) {
        cells.take(others);
        for (int v = 0; v < x.count; v++) {
            if (in(set, v)) {
                cells.putAhead(v);
            }
        }
        cells.refine(x);
        return cells.count;
    }

    private int fewestApart(Graph x) {
        others.begin(x);
        int all = (1 << x.count) - 1;
        int best = all;
        for (int set = 0; set < all; set++) {
            if (Integer.bitCount(set) < Integer.bitCount(best) && cellsWith(x, set) == x.count) {
                best = set;
            }
        }
        return best;
    }

    private static boolean in(int set, int v) {
        return (set >> v & 1) != 0;
    }

    /** A row of vertices is kept as one number, three bits for each. */
    private static int sentTo(int row, int v) {
        return row >> 3 * v & 7;
    }

    /** A graph; whatever it has behind its last vertex is 0. */
    private static final class Graph {
        int count = 1;
        final int[] colours = new int[MOST];
        final int[][] kinds = new int[MOST][MOST];
        /** For each kind the vertices (bits) that are linked so with each; in row 0 those by any. */
        final int[][] linked = new int[KINDS][MOST];

        boolean has(int v) {
            return v >= 0 && v < count;
        }

        boolean hasAll(int set) {
            return set >= 0 && set < 1 << count;
        }

        int links() {
            int ends = 0;
            for (int v = 0; v < count; v++) {
                ends += Integer.bitCount(linked[0][v]);
            }
            return ends / 2;
        }

        int mostLinks() {
            int most = 0;
            for (int v = 0; v < count; v++) {
                most = Math.max(most, Integer.bitCount(linked[0][v]));
            }
            return most;
        }

        void join(int a, int b, int k) {
            for (int i = 0; i < KINDS; i++) {
                linked[i][a] &= ~(1 << b);
                linked[i][b] &= ~(1 << a);
            }
            kinds[a][b] = k;
            kinds[b][a] = k;
            if (k != 0) {
                linked[0][a] |= 1 << b;
                linked[0][b] |= 1 << a;
                linked[k][a] |= 1 << b;
                linked[k][b] |= 1 << a;
            }
        }

        void exchange(int a, int b) {
            int c = colours[a];
            colours[a] = colours[b];
            colours[b] = c;
            for (int v = 0; v < count; v++) {
                if (v != a && v != b) {
                    int k = kinds[a][v];
                    join(a, v, kinds[b][v]);
                    join(b, v, k);
                }
            }
        }

        /** Changes numbers by a seed; how many such changes were of unlike ones. */
        int mix(int seed) {
            int unlike = 0;
            long x = seed;
            for (int i = count - 1; i > 0; i--) {
                x = 48271L * x % SEEDS;
                int j = (int) (x % (i + 1));
                if (j != i) {
                    exchange(i, j);
                    unlike++;
                }
            }
            return unlike;
        }

        void turnKinds() {
            for (int a = 0; a < count; a++) {
                for (int b = 0; b < a; b++) {
                    join(a, b, kinds[a][b] ^ 1);
                }
            }
        }

        void lose(int v) {
            int last = count - 1;
            for (int i = v; i < last; i++) {
                exchange(i, i + 1);
            }
            for (int i = 0; i < last; i++) {
                join(i, last, 0);
            }
            colours[last] = 0;
            count = last;
        }

        void gain(int set, int colour) {
            int v = count;
            count++;
            colours[v] = colour;
            for (int u = 0; u < v; u++) {
                join(u, v, in(set, u) ? 1 : 0);
            }
        }

        /** Becomes some vertices without colours and links. */
        void empty(int vertices) {
            for (int a = 0; a < MOST; a++) {
                colours[a] = 0;
                for (int b = 0; b < a; b++) {
                    join(a, b, 0);
                }
            }
            count = vertices;
        }

        void take(Graph x) {
            count = x.count;
            System.arraycopy(x.colours, 0, colours, 0, MOST);
            for (int v = 0; v < MOST; v++) {
                System.arraycopy(x.kinds[v], 0, kinds[v], 0, MOST);
            }
            for (int k = 0; k < KINDS; k++) {
                System.arraycopy(x.linked[k], 0, linked[k], 0, MOST);
            }
        }

        /** Whether each number of it is the same, too. */
        boolean same(Graph x) {
            if (count != x.count) {
                return false;
            }
            for (int a = 0; a < count; a++) {
                if (colours[a] != x.colours[a]) {
                    return false;
                }
                for (int b = 0; b < a; b++) {
                    if (kinds[a][b] != x.kinds[a][b]) {
                        return false;
                    }
                }
            }
            return true;
        }
    }

    /** A row of cells. */
    private static final class Cells {
        private static final long ABOVE_SIGNS = 0x7fffffffffffffffL;
        int count = 0;
        int rounds = 0;
        final int[] sets = new int[MOST];
        /** By which sign (at first: colour) each cell was told from those made of the same one. */
        private final long[] signs = new long[MOST];
        private final long[] own = new long[MOST];
        private final int[] parts = new int[MOST];
        private int partCount = 0;

        /** Becomes START. */
        void begin(Graph g) {
            byColours(g);
            refine(g);
        }

        void byColours(Graph g) {
            count = 0;
            rounds = 0;
            for (int c = 0; c < COLOURS && count < MOST; c++) {
                int set = 0;
                for (int v = 0; v < g.count; v++) {
                    if (g.colours[v] == c) {
                        set |= 1 << v;
                    }
                }
                if (set != 0) {
                    sets[count] = set;
                    signs[count] = c;
                    count++;
                }
            }
        }

        void refine(Graph g) {
            rounds = 0;
            while (count < g.count && rounds < MOST && divide(g)) {
                rounds++;
            }
        }

        /** One ROUND; whether it divides a cell. */
        boolean divide(Graph g) {
            for (int v = 0; v < g.count; v++) {
                own[v] = signOf(g, v);
            }
            partCount = 0;
            for (int c = 0; c < count; c++) {
                split(sets[c]);
            }
            boolean parted = partCount > count;
            count = partCount;
            System.arraycopy(parts, 0, sets, 0, count);
            return parted;
        }

        /** A SIGN without its first number: at most 21 numbers below 8, so that one long holds them in their order. */
        private long signOf(Graph g, int v) {
            long sign = 0;
            for (int c = 0; c < count; c++) {
                for (int k = 1; k < KINDS; k++) {
                    sign = sign << 3 | Integer.bitCount(g.linked[k][v] & sets[c]);
                }
            }
            return sign;
        }

        /** Divides a cell by signs rising. */
        private void split(int set) {
            int left = set;
            while (left != 0 && partCount < MOST) {
                long least = ABOVE_SIGNS;
                int part = 0;
                for (int v = 0; v < MOST; v++) {
                    if ((left >> v & 1) != 0 && own[v] <= least) {
                        part = own[v] < least ? 1 << v : part | 1 << v;
                        least = own[v];
                    }
                }
                parts[partCount] = part;
                signs[partCount] = least;
                partCount++;
                left &= ~part;
            }
        }

        /** A vertex becomes a cell alone, right ahead of the others of its cell. */
        void putAhead(int v) {
            for (int c = 0; c < count; c++) {
                if (in(sets[c], v) && sets[c] != 1 << v && count < MOST) {
                    for (int i = count; i > c; i--) {
                        sets[i] = sets[i - 1];
                    }
                    sets[c] = 1 << v;
                    sets[c + 1] &= ~(1 << v);
                    count++;
                    return;
                }
            }
        }

        int target() {
            int best = 0;
            for (int c = 0; c < count; c++) {
                int size = Integer.bitCount(sets[c]);
                if (size > 1 && (best == 0 || size < Integer.bitCount(best))) {
                    best = sets[c];
                }
            }
            return best;
        }

        int mark() {
            int digits = 0;
            for (int c = 0; c < count; c++) {
                digits = 10 * digits + Integer.bitCount(sets[c]);
            }
            return 10 * digits + rounds;
        }

        void take(Cells x) {
            count = x.count;
            rounds = x.rounds;
            System.arraycopy(x.sets, 0, sets, 0, MOST);
        }

        /** Whether two rows, alike so far, have as many vertices of each sign. */
        boolean alike(Cells x) {
            if (count != x.count) {
                return false;
            }
            for (int c = 0; c < count; c++) {
                if (signs[c] != x.signs[c] || Integer.bitCount(sets[c]) != Integer.bitCount(x.sets[c])) {
                    return false;
                }
            }
            return true;
        }
    }

    /** A leaf with the marks on the way to it. */
    private static final class Leaf {
        int depth = 0;
        int length = 0;
        final int[] marks = new int[MOST];
        final int[] code = new int[CODE];
        final int[] order = new int[MOST];

        /** Becomes the leaf of a row of cells that hold one vertex each. */
        void write(Graph g, Cells cells, int way) {
            depth = way;
            length = 0;
            for (int c = 0; c < g.count; c++) {
                int v = Integer.numberOfTrailingZeros(cells.sets[c]) & 7;
                order[c] = v < g.count ? v : 0;
                code[length] = g.colours[order[c]];
                length++;
            }
            for (int c = 0; c < g.count; c++) {
                for (int d = c + 1; d < g.count; d++) {
                    code[length] = g.kinds[order[c]][order[d]];
                    length++;
                }
            }
        }

        int compare(Leaf x) {
            int end = Math.min(depth, x.depth);
            for (int i = 0; i <= end; i++) {
                if (marks[i] != x.marks[i]) {
                    return Integer.compare(marks[i], x.marks[i]);
                }
            }
            return compareCodes(x);
        }

        /** Names of graphs with fewer vertices are less. */
        int compareCodes(Leaf x) {
            if (length != x.length) {
                return Integer.compare(length, x.length);
            }
            for (int i = 0; i < length; i++) {
                if (code[i] != x.code[i]) {
                    return Integer.compare(code[i], x.code[i]);
                }
            }
            return 0;
        }

        void take(Leaf x) {
            depth = x.depth;
            length = x.length;
            System.arraycopy(x.marks, 0, marks, 0, MOST);
            System.arraycopy(x.code, 0, code, 0, CODE);
            System.arraycopy(x.order, 0, order, 0, MOST);
        }
    }

    /** A way through THE TREE of a graph, depth first; what it found stays till it looks at an unlike graph. */
    private abstract static class Walk {
        final Graph of = new Graph();
        final Cells[] way = new Cells[MOST];
        final Leaf here = new Leaf();
        final Leaf best = new Leaf();
        int nodes = 0;
        int leafs = 0;
        int cut = 0;
        int skipped = 0;
        private boolean seen = false;

        Walk() {
            for (int d = 0; d < MOST; d++) {
                way[d] = new Cells();
            }
        }

        /** Whether the child of a vertex is left unseen, some of the same parent having been looked at. */
        abstract boolean skips(int v, int looked, int apart);

        /** Whether the node at a depth is left with all below it. */
        abstract boolean cuts(int depth);

        /** What comes of the leaf that is here. */
        abstract void reach();

        abstract void forget();

        final void look(Graph g) {
            if (seen && of.same(g)) {
                return;
            }
            seen = true;
            of.take(g);
            nodes = 0;
            leafs = 0;
            cut = 0;
            skipped = 0;
            forget();
            way[0].begin(of);
            here.marks[0] = way[0].mark();
            come(0, 0);
        }

        private void come(int depth, int apart) {
            nodes++;
            int target = way[depth].target();
            if (target == 0 || depth + 1 >= MOST) {
                leafs++;
                here.write(of, way[depth], depth);
                reach();
                return;
            }
            Cells child = way[depth + 1];
            int looked = 0;
            for (int v = 0; v < of.count; v++) {
                if (!in(target, v)) {
                    continue;
                }
                if (skips(v, looked, apart)) {
                    skipped++;
                    continue;
                }
                looked |= 1 << v;
                child.take(way[depth]);
                child.putAhead(v);
                child.refine(of);
                here.marks[depth + 1] = child.mark();
                if (cuts(depth + 1)) {
                    cut++;
                } else {
                    come(depth + 1, apart | 1 << v);
                }
            }
        }
    }

    /** The way through the whole tree. */
    private static final class Tree extends Walk {
        int deepest = 0;
        int like = 0;

        void forget() {
            deepest = 0;
            like = 0;
        }

        boolean skips(int v, int looked, int apart) {
            return false;
        }

        boolean cuts(int depth) {
            return false;
        }

        void reach() {
            deepest = Math.max(deepest, here.depth);
            int order = leafs == 1 ? -1 : here.compare(best);
            if (order < 0) {
                best.take(here);
                like = 1;
            } else if (order == 0) {
                like++;
            }
        }
    }

    /** THE SEARCH. Its best leaf is the least of the whole tree: what it leaves is greater or has a like one ahead. */
    private static final class Search extends Walk {
        int found = 0;
        int bests = 0;
        final int[] generators = new int[LEAFS];
        private final Leaf first = new Leaf();

        void forget() {
            found = 0;
            bests = 0;
        }

        boolean skips(int v, int looked, int apart) {
            return in(spread(looked, apart), v);
        }

        /** Where vertices come to by generators, one behind the other, that leave those set apart where they are. */
        private int spread(int set, int apart) {
            int all = set;
            int before = 0;
            for (int round = 0; round < MOST && all != before; round++) {
                before = all;
                for (int i = 0; i < found; i++) {
                    if (leavesAlone(generators[i], apart)) {
                        all |= imageOf(all, generators[i]);
                    }
                }
            }
            return all;
        }

        private boolean leavesAlone(int generator, int set) {
            for (int v = 0; v < of.count; v++) {
                if (in(set, v) && sentTo(generator, v) != v) {
                    return false;
                }
            }
            return true;
        }

        private int imageOf(int set, int generator) {
            int image = 0;
            for (int v = 0; v < of.count; v++) {
                if (in(set, v)) {
                    image |= 1 << sentTo(generator, v);
                }
            }
            return image;
        }

        boolean cuts(int depth) {
            if (leafs == 0) {
                return false;
            }
            for (int d = 0; d < depth; d++) {
                if (here.marks[d] != best.marks[d]) {
                    return false;
                }
            }
            return here.marks[depth] > best.marks[depth];
        }

        void reach() {
            if (leafs == 1) {
                first.take(here);
            } else if (here.compare(first) == 0) {
                note(first);
                return;
            }
            int order = leafs == 1 ? -1 : here.compare(best);
            if (order < 0) {
                best.take(here);
                bests++;
            } else if (order == 0) {
                note(best);
            }
        }

        private void note(Leaf from) {
            if (found >= LEAFS) {
                return;
            }
            int row = 0;
            for (int c = 0; c < of.count; c++) {
                row |= here.order[c] << 3 * from.order[c];
            }
            generators[found] = row;
            found++;
        }
    }

    /** Ways to send the vertices of one graph to those of another one. */
    private static final class Pairing {
        int ways = 0;
        final int[] least = new int[MOST];
        /** To which vertices (bits) maps send each. */
        final int[] reached = new int[MOST];
        private final Graph from = new Graph();
        private final Graph to = new Graph();
        private final int[] goes = new int[MOST];
        private int stay = 0;
        private int fewest = 0;

        /** Finds all maps that leave some vertices where they are. */
        void match(Graph x, Graph y, int staying) {
            from.take(x);
            to.take(y);
            stay = staying;
            ways = 0;
            for (int v = 0; v < MOST; v++) {
                reached[v] = 0;
            }
            if (x.count == y.count) {
                send(0, 0);
            }
        }

        private void send(int v, int used) {
            if (v >= from.count) {
                note();
                return;
            }
            for (int w = 0; w < to.count; w++) {
                if (!in(used, w) && fits(v, w)) {
                    goes[v] = w;
                    send(v + 1, used | 1 << w);
                }
            }
        }

        private boolean fits(int v, int w) {
            return (v == w || !in(stay, v)) && unlike(v, w) == 0;
        }

        /** How much differs of a vertex and its image, links with those ahead of it counted. */
        private int unlike(int v, int w) {
            int sum = from.colours[v] == to.colours[w] ? 0 : 1;
            for (int u = 0; u < v; u++) {
                if (from.kinds[u][v] != to.kinds[goes[u]][w]) {
                    sum++;
                }
            }
            return sum;
        }

        private void note() {
            if (ways == 0) {
                System.arraycopy(goes, 0, least, 0, MOST);
            }
            ways++;
            for (int v = 0; v < from.count; v++) {
                reached[v] |= 1 << goes[v];
            }
        }

        /** How many orbits there are, behind a match of a graph with itself. */
        int orbits() {
            int sum = 0;
            for (int v = 0; v < from.count; v++) {
                if ((reached[v] & (1 << v) - 1) == 0) {
                    sum++;
                }
            }
            return sum;
        }

        int unmoved() {
            int sum = 0;
            for (int v = 0; v < from.count; v++) {
                if (reached[v] == 1 << v) {
                    sum++;
                }
            }
            return sum;
        }

        int leastChanges(Graph x, Graph y) {
            from.take(x);
            to.take(y);
            fewest = CODE + 1;
            weigh(0, 0, 0);
            return fewest;
        }

        private void weigh(int v, int used, int cost) {
            if (cost >= fewest) {
                return;
            }
            if (v >= from.count) {
                fewest = cost;
                return;
            }
            for (int w = 0; w < to.count; w++) {
                if (!in(used, w)) {
                    goes[v] = w;
                    weigh(v + 1, used | 1 << w, cost + unlike(v, w));
                }
            }
        }
    }

    /** The tape, and the text on it read into a graph. */
    private static final class Reader {
        private static final int END = 0;
        private static final int SIGN = 1;
        private static final int WORD = 2;
        private static final int PART = 3;
        private static final int OTHER = 4;

        private static final int FORM = 1;
        private static final int BOUNDS = 2;
        private static final int TWICE = 3;

        int held = 0;
        int fault = 0;
        int place = NONE;
        final Graph graph = new Graph();
        private final int[] tape = new int[TAPE];
        private int end = 0;
        private int token = END;
        private int at = 0;
        private int next = 0;
        private int painted = 0;

        void put(int number) {
            for (int shift = 24; shift >= 0 && held < TAPE; shift -= 8) {
                tape[held] = number >>> shift & 255;
                held++;
            }
        }

        /** Reads the first bytes, of which there are as many; the tape is empty then. */
        void read(int bytes) {
            end = bytes;
            held = 0;
            next = 0;
            fault = 0;
            painted = 0;
            step();
            if (readSize()) {
                readLines();
            }
        }

        private boolean readSize() {
            if (!isWord("size")) {
                return fails(FORM);
            }
            step();
            if (token != SIGN) {
                return fails(FORM);
            }
            if (digit() < 1 || digit() > MOST) {
                return fails(BOUNDS);
            }
            graph.empty(digit());
            step();
            return true;
        }

        private void readLines() {
            for (int i = 0; i < TAPE && token == PART; i++) {
                step();
                if (!readLine()) {
                    return;
                }
            }
            if (token != END) {
                fails(FORM);
            }
        }

        private boolean readLine() {
            if (isWord("paint")) {
                step();
                return readPaint();
            }
            if (isWord("link")) {
                step();
                return readLink();
            }
            if (isWord("path")) {
                step();
                return readChain(2, false);
            }
            if (isWord("ring")) {
                step();
                return readChain(3, true);
            }
            return fails(FORM);
        }

        private boolean readPaint() {
            if (!isVertex()) {
                return false;
            }
            int v = digit();
            if (in(painted, v)) {
                return fails(TWICE);
            }
            painted |= 1 << v;
            step();
            if (token != SIGN) {
                return fails(FORM);
            }
            graph.colours[v] = digit();
            step();
            return true;
        }

        private boolean readLink() {
            if (!isVertex()) {
                return false;
            }
            int a = digit();
            step();
            if (!isVertex()) {
                return false;
            }
            int b = digit();
            if (!joins(a, b)) {
                return false;
            }
            step();
            if (token != SIGN) {
                return true;
            }
            if (digit() < 1 || digit() >= KINDS) {
                return fails(BOUNDS);
            }
            graph.join(a, b, digit());
            step();
            return true;
        }

        private boolean readChain(int fewest, boolean ring) {
            int first = 0;
            int last = 0;
            for (int i = 0; i < TAPE && (i < fewest || token == SIGN); i++) {
                if (!isVertex()) {
                    return false;
                }
                int v = digit();
                if (i == 0) {
                    first = v;
                } else if (!joins(last, v)) {
                    return false;
                }
                last = v;
                step();
            }
            // a token with which no text goes on has the lesser fault, and is told of by whoever meets it
            return !ring || token != PART && token != END || joins(last, first);
        }

        /** Links two by kind 1; false, with a fault at the token that is here, if they can't be. */
        private boolean joins(int a, int b) {
            if (a == b || graph.kinds[a][b] != 0) {
                return fails(TWICE);
            }
            graph.join(a, b, 1);
            return true;
        }

        private boolean fails(int number) {
            fault = number;
            place = at;
            return false;
        }

        private boolean isVertex() {
            if (token != SIGN) {
                return fails(FORM);
            }
            return graph.has(digit()) || fails(BOUNDS);
        }

        private int digit() {
            return at < TAPE ? tape[at] - '0' : 0;
        }

        private boolean isWord(String word) {
            if (token != WORD || next - at != word.length()) {
                return false;
            }
            for (int i = 0; i < word.length(); i++) {
                if (tape[at + i] != word.charAt(i)) {
                    return false;
                }
            }
            return true;
        }

        /** Goes to the next token. */
        private void step() {
            at = next;
            while (at < end && tape[at] == ' ') {
                at++;
            }
            if (at >= end) {
                token = END;
                next = at;
                return;
            }
            next = at + 1;
            int b = tape[at];
            if (isLetter(b)) {
                while (next < end && isLetter(tape[next])) {
                    next++;
                }
                // more than five letters are no word of a text, nor a token: the same fault at the same place
                token = WORD;
            } else if (b >= '0' && b <= '9') {
                token = SIGN;
            } else {
                token = b == ';' ? PART : OTHER;
            }
        }

        private static boolean isLetter(int b) {
            return b >= 'a' && b <= 'z';
        }
    }

    /** The graphs that the latest acts changed, as they were ahead of each. */
    private static final class Past {
        int count = 0;
        private int next = 0;
        private final int[] which = new int[ACTS];
        private final Graph[] were = new Graph[ACTS];

        Past() {
            for (int i = 0; i < ACTS; i++) {
                were[i] = new Graph();
            }
        }

        void keep(int g, Graph x) {
            which[next] = g;
            were[next].take(x);
            next = (next + 1) % ACTS;
            count = Math.min(count + 1, ACTS);
        }

        void bringBack(Graph[] graphs) {
            next = (next + ACTS - 1) % ACTS;
            count--;
            graphs[which[next]].take(were[next]);
        }
    }
}
