import java.util.Arrays;
import java.util.NoSuchElementException;
import java.util.function.IntUnaryOperator;

/**
 * For each sentence of the document that names a boundary: the last value that is allowed and the first that is not, on both
 * sides; nothing at all; full; numbers that wrap around; refused calls, which change nothing but what the document says.
 * A message tells the promise and the sentence that it holds.
 */
public final class GraphNamesBoundaries {
    private static final int NONE = GraphNames.NONE;
    private static final int PROMISES = 43;
    private static final int CALLS = 512;
    private static int wrong = 0;
    private static int asked = 0;
    private static int promise = 0;
    private static String sentence = "";
    private static final int[] held = new int[PROMISES + 1];

    /** What the checks that follow hold. */
    private static void holds(int number, String words) {
        promise = number;
        sentence = words;
    }

    private static void due(String call, long got, long want) {
        due(call, "" + got, "" + want);
    }

    private static void due(String call, boolean got, boolean want) {
        due(call, "" + got, "" + want);
    }

    private static void due(String call, String got, String want) {
        asked++;
        held[promise]++;
        if (!got.equals(want)) {
            wrong++;
            System.out.println("promise " + promise + ", '" + sentence + "': " + call + " answered " + got + ", due is " + want);
        }
    }

    private static void fine(String call, GraphNames x, int got, int want) {
        due(call, got, want);
        due(call + ", trouble()", x.trouble(), 0);
        due(call + ", where()", x.where(), NONE);
    }

    private static void refused(String call, GraphNames x, int got, int trouble) {
        due(call, got, NONE);
        due(call + ", trouble()", x.trouble(), trouble);
    }

    /** A call with one number. */
    private interface Call {
        int on(GraphNames x, int n);
    }

    /** A call of the face that answers true or false counts as 1 or NONE. */
    private static int told(boolean answer) {
        return answer ? 1 : NONE;
    }

    public static void main(String[] args) {
        newObjects();
        tapes();
        texts();
        bytes();
        textBounds();
        forms();
        digits();
        twice();
        firstFaults();
        faultsAndPlaces();
        graphBounds();
        whatBounds();
        vertexBounds();
        otherBounds();
        setBounds();
        troublesTold();
        notSo();
        noneThere();
        whatIsTold();
        starts();
        trees();
        searches();
        searchesFurther();
        askedAgain();
        names();
        symmetries();
        twoGraphs();
        cardsAndTurned();
        bases();
        acts();
        shuffles();
        sizes();
        undone();
        undoneTwice();
        images();
        rows();
        troubles();
        lastCall();
        for (int p = 1; p <= PROMISES; p++) {
            holds(p, "each promise has boundaries");
            due("checks", held[p] > 0, true);
        }
        System.out.println(wrong == 0 ? asked + " answers are as due" : wrong + " answers are not as due");
        if (wrong != 0) {
            System.exit(1);
        }
    }

    // ---- what the tests share

    private static void put(GraphNames x, String bytes) {
        for (int i = 0; i < bytes.length(); i += 20) {
            int[] w = new int[5];
            for (int j = 0; j < 20; j++) {
                w[j / 4] = w[j / 4] << 8 | (i + j < bytes.length() ? bytes.charAt(i + j) : ' ');
            }
            x.feed(w[0], w[1], w[2], w[3], w[4]);
        }
    }

    private static int read(GraphNames x, int g, String text) {
        put(x, text);
        return x.text(g, text.length());
    }

    /** A new object with texts read into its first graphs. */
    private static GraphNames with(String... texts) {
        GraphNames x = new GraphNames();
        for (int g = 0; g < texts.length; g++) {
            due("text '" + texts[g] + "' is read", read(x, g, texts[g]) > 0, true);
        }
        return x;
    }

    private static String blanks(int n) {
        return " ".repeat(n);
    }

    private static int row(GraphNames x, int g, int v) {
        try {
            return x.row(g, v);
        } catch (NoSuchElementException e) {
            return NONE;
        }
    }

    /** V, colours, kinds: all that a graph is. */
    private static String picture(GraphNames x, int g) {
        int n = x.graph(g, 0);
        StringBuilder s = new StringBuilder().append(n).append('|');
        for (int v = 0; v < n; v++) {
            s.append(x.colour(g, v));
        }
        s.append('|');
        for (int a = 0; a < n; a++) {
            for (int b = a + 1; b < n; b++) {
                s.append(x.kind(g, a, b));
            }
        }
        return s.toString();
    }

    /** Rows, degrees and links are those of the kinds. */
    private static void agrees(String call, GraphNames x, int g) {
        int n = x.graph(g, 0);
        int links = 0;
        int most = 0;
        for (int v = 0; v < n; v++) {
            int[] degrees = new int[4];
            int bits = 0;
            for (int w = 0; w < n; w++) {
                int k = w == v ? 0 : x.kind(g, v, w);
                if (k != 0) {
                    degrees[0]++;
                    degrees[k]++;
                    bits |= 1 << w;
                }
            }
            due(call + ", row(" + g + ", " + v + ")", row(x, g, v), bits);
            for (int k = 0; k < 4; k++) {
                due(call + ", degree(" + g + ", " + v + ", " + k + ")", x.degree(g, v, k), degrees[k]);
            }
            links += degrees[0];
            most = Math.max(most, degrees[0]);
        }
        due(call + ", graph(" + g + ", 1)", x.graph(g, 1), links / 2);
        due(call + ", graph(" + g + ", 3)", x.graph(g, 3), most);
    }

    private static String pictures(GraphNames x) {
        return picture(x, 0) + " " + picture(x, 1) + " " + picture(x, 2);
    }

    /** Ten acts, eight of them kept; an image 0, none 1; a text on the tape; a fault. V are 7, 3 and 1. */
    private static GraphNames scene() {
        GraphNames x = new GraphNames();
        read(x, 0, "size 4;paint 1 3;link 0 1 2");
        read(x, 1, "size 3;path 0 1 2");
        x.image(0);
        x.paint(2, 0, 4);
        x.paint(2, 0, 6);
        x.swap(1, 0, 1);
        x.grow(0, 5, 0);
        x.link(0, 2, 3, 3);
        x.turn(2);
        x.grow(0, 2, 1);
        x.grow(0, 63, 9);
        read(x, 0, "size 3;link 1 1");
        put(x, "size 2;link 0 1 3");
        return x;
    }

    /** All of an object that calls tell: its graphs, what can be undone, images, tape, fault. */
    private static String all(GraphNames x) {
        StringBuilder s = new StringBuilder().append(x.fault()).append(' ').append(x.size()).append(' ').append(pictures(x));
        int left = x.undo();
        while (left != NONE) {
            s.append("; undone, ").append(left).append(' ').append(pictures(x));
            left = x.undo();
        }
        s.append("; text ").append(x.text(1, x.size())).append(' ').append(pictures(x));
        for (int i = 0; i < 2; i++) {
            s.append("; image ").append(i).append(x.again(i)).append(' ').append(pictures(x));
        }
        return s.toString();
    }

    private static final String SCENE = all(scene());

    /** A call on the scene that is refused, not by a fault: all else stays. */
    private static void refuses(String call, int trouble, Call c, int n) {
        GraphNames x = scene();
        int got = c.on(x, n);
        due(call, got, NONE);
        due(call + ", trouble()", x.trouble(), trouble);
        due(call + ", where()", x.where(), NONE);
        due(call + ", all else", all(x), SCENE);
    }

    private static void refuses(String call, int trouble, Call c) {
        refuses(call, trouble, c, 0);
    }

    /** Each number from first to last isn't refused; those beyond, far ones and such that wrap around to them, are. */
    private static void bounds(String call, int first, int last, int trouble, Call c) {
        for (int n = first; n <= last; n++) {
            GraphNames x = scene();
            due(call + " with " + n + " is allowed", c.on(x, n) != NONE, true);
            due(call + " with " + n + ", trouble()", x.trouble(), 0);
        }
        int[] beyond = {
            first - 1, last + 1, last + 2, -last - 1, first - 32, first + 32, last + 32, first + 64, last + 256, first + (1 << 16),
            first + (1 << 24), Integer.MIN_VALUE, Integer.MIN_VALUE + first, Integer.MIN_VALUE + last, Integer.MAX_VALUE,
        };
        for (int n : beyond) {
            if (n < first || n > last) {
                refuses(call + " with " + n, trouble, c, n);
            }
        }
    }

    // ---- a new object

    private static void newObjects() {
        GraphNames other = scene();
        GraphNames x = new GraphNames();
        holds(1, "NONE = -1: There is none; refused");
        due("NONE", GraphNames.NONE, -1);
        holds(1, "Three VERTICES, alone; THREE GRAPHS, 0 .. 2 (each with one VERTEX of COLOUR 0 at first)");
        due("all graphs", pictures(x), "1|0| 1|0| 1|0|");
        for (int g = 0; g < 3; g++) {
            fine("graph(g, 0)", x, x.graph(g, 0), 1);
            fine("graph(g, 1)", x, x.graph(g, 1), 0);
            fine("graph(g, 3)", x, x.graph(g, 3), 0);
            due("row(g, 0)", row(x, g, 0), 0);
            due("row(g, 1)", row(x, g, 1), NONE);
            refused("colour(g, 1)", x, x.colour(g, 1), 1);
        }
        refused("graph(3, 0)", x, x.graph(3, 0), 1);
        refused("graph(-1, 0)", x, x.graph(-1, 0), 1);
        x = new GraphNames();
        due("size(): no bytes", x.size(), 0);
        due("fault(): none", x.fault(), 0);
        due("where(): none", x.where(), NONE);
        due("trouble(): none", x.trouble(), 0);
        refused("undo(): no act", x, x.undo(), 5);
        x = new GraphNames();
        due("again(0): no image", x.again(0), false);
        due("again(1): no image", x.again(1), false);
        due("objects have nothing in common", all(other), SCENE);
    }

    // ---- texts

    private static void tapes() {
        holds(2, "Twenty bytes come behind THE TAPE, of each number the highest first");
        for (int ahead = 0; ahead <= 20; ahead += 20) {
            for (int p = 6; p < 20; p++) {
                GraphNames x = new GraphNames();
                put(x, blanks(ahead));
                // bytes 128 .. 255 make numbers below 0 and must not be taken for others
                String t = "size 3" + blanks(14);
                put(x, t.substring(0, p) + (char) (115 + 10 * p - 60) + t.substring(p + 1));
                refused("a byte at " + (ahead + p), x, x.text(0, ahead + 20), 4);
                due("its place", x.where(), ahead + p);
            }
        }
        GraphNames x = new GraphNames();
        due("feed of 'size 6;ring 0 2 4 5'", x.feed(0x73697a65, 0x20363b72, 0x696e6720, 0x30203220, 0x34203520), 20);
        fine("text(0, 20)", x, x.text(0, 20), 6);
        due("the graph", picture(x, 0), "6|000000|010010000010001");
        holds(2, "how many it has");
        x = new GraphNames();
        for (int i = 1; i <= 20; i++) {
            due("feed number " + i, x.feed(Integer.MIN_VALUE, -1, 0, 1, Integer.MAX_VALUE), 20 * i);
            due("size()", x.size(), 20 * i);
        }
        holds(2, "NONE, and none comes, if there would be more than 400");
        due("feed number 21", x.feed(0, 0, 0, 0, 0), NONE);
        due("size()", x.size(), 400);
        due("feed number 22", x.feed(0, 0, 0, 0, 0), NONE);
        due("size()", x.size(), 400);
        holds(2, "(trouble() stays)");
        due("trouble() behind feeds", x.trouble(), 0);
        x.copy(0, 0);
        x.feed(0, 0, 0, 0, 0);
        due("trouble() behind a feed that was too much", x.trouble(), 5);
        fullTape();
    }

    /** What can't be fed leaves the bytes that there are, and all else. */
    private static void fullTape() {
        holds(2, "NONE, and none comes, if there would be more than 400");
        GraphNames x = with("size 3;link 0 2");
        read(x, 1, "size 2;x");
        String full = "size 7;link 0 1" + blanks(384) + "3";
        put(x, full);
        due("size()", x.size(), 400);
        due("feed", x.feed(-1, -1, -1, -1, -1), NONE);
        holds(2, "(trouble() stays)");
        due("trouble()", x.trouble(), 4);
        due("where()", x.where(), 7);
        due("fault()", x.fault(), 1);
        holds(2, "NONE, and none comes, if there would be more than 400");
        fine("text(1, 400)", x, x.text(1, 400), 7);
        due("the last byte of 400 is read", x.kind(1, 0, 1), 3);
        due("feed behind a text", x.feed(0x73697a65, 0x20323b6c, 0x696e6b20, 0x30203120, 0x20202020), 20);
        fine("text(1, 20): nothing is left of the bytes ahead", x, x.text(1, 20), 2);
        holds(42, "Bytes of THE TAPE: full, empty");
        put(x, blanks(400));
        due("size()", x.size(), 400);
        x.text(0, 3);
        due("size() behind a text of fewer", x.size(), 0);
        holds(2, "A refused feed changes nothing");
        x = scene();
        for (int i = 0; i < 19; i++) {
            due("feed", x.feed(-1, -1, -1, -1, -1), 40 + 20 * i);
        }
        due("feed", x.feed(-1, -1, -1, -1, -1), NONE);
        due("trouble()", x.trouble(), 4);
        due("where()", x.where(), 14);
        due("fault()", x.fault(), 3);
        due("graphs", pictures(x), pictures(scene()));
        due("undo()", x.undo(), 7);
    }

    private static void reads(String text, String picture) {
        GraphNames x = with("size 7;paint 6 1;ring 4 5 6");
        x.link(0, 0, 5, 3);
        fine("text '" + text + "'", x, read(x, 0, text), picture.charAt(0) - '0');
        due("text '" + text + "', the graph", picture(x, 0), picture);
        due("text '" + text + "', fault()", x.fault(), 0);
        due("text '" + text + "', size()", x.size(), 0);
    }

    private static void texts() {
        holds(3, "size DIGIT (V) {; LINE}: no LINE, V is 1 .. 7");
        for (int v = 1; v <= 7; v++) {
            reads("size " + v, v + "|" + "0".repeat(v) + "|" + "0".repeat(v * (v - 1) / 2));
        }
        holds(3, "paint VERTEX DIGIT (its COLOUR, 0 without; each VERTEX once): COLOURS 0 .. 9");
        for (int c = 0; c <= 9; c++) {
            reads("size 2;paint 1 " + c, "2|0" + c + "|0");
        }
        reads("size 7;paint 0 9;paint 6 8;paint 5 0", "7|9000008|" + "0".repeat(21));
        reads("size 1;paint 0 7", "1|7|");
        holds(3, "link VERTEX VERTEX [DIGIT] (KIND 1 .. 3; 1 without)");
        reads("size 2;link 0 1", "2|00|1");
        for (int k = 1; k <= 3; k++) {
            reads("size 2;link 1 0 " + k, "2|00|" + k);
        }
        reads("size 3;link 0 1;link 1 2 2;link 0 2 3", "3|000|132");
        holds(3, "path VERTEX VERTEX {VERTEX}: two at least");
        reads("size 3;path 2 1", "3|000|001");
        reads("size 3;path 2 1 0", "3|000|101");
        reads("size 3;path 2 1 0 2", "3|000|111");
        holds(3, "ring VERTEX VERTEX VERTEX {VERTEX}: three at least, from the last to the first, too");
        reads("size 4;ring 2 1 0", "4|0000|110100");
        reads("size 4;ring 2 1 0 3", "4|0000|101101");
        reads("size 5;ring 0 1 2 0 3 4", "5|00000|1111100001");
        reads("size 5;link 0 2;ring 0 1 2 3", "5|00000|1110100100");
        holds(3, "path, ring: as many VERTICES as can be linked once each, 21 links");
        String round = "012345602461350362514";
        reads("size7;ring" + round, "7|0000000|" + "1".repeat(21));
        reads("size7;path" + round + "0", "7|0000000|" + "1".repeat(21));
        fault("size7;path" + round + "01", 3, 10 + 22);
        fault("size7;ring" + round + "0", 3, 10 + 22);
        fullText();
    }

    private static void fullText() {
        StringBuilder t = new StringBuilder("size 7");
        StringBuilder colours = new StringBuilder();
        StringBuilder kinds = new StringBuilder();
        for (int v = 0; v < 7; v++) {
            t.append(";paint ").append(v).append(' ').append(9 - v);
            colours.append(9 - v);
        }
        for (int a = 0, k = 2; a < 7; a++) {
            for (int b = a + 1; b < 7; b++, k = k % 3 + 1) {
                t.append(";link ").append(b).append(' ').append(a).append(' ').append(k);
                kinds.append(k);
            }
        }
        holds(3, "A TEXT: each VERTEX painted, each two linked");
        reads(t.toString(), "7|" + colours + "|" + kinds);
        holds(3, "A TEXT (THE TAPE has 400 bytes)");
        int last = t.length() - 1;
        String full = t.substring(0, last) + blanks(399 - last) + t.charAt(last);
        reads(full, "7|" + colours + "|" + kinds);
        holds(3, "the first n bytes of THE TAPE are a GRAPH: all but the last");
        GraphNames x = new GraphNames();
        put(x, full);
        fine("text(0, 399)", x, x.text(0, 399), 7);
        due("the KIND that isn't read", x.kind(0, 5, 6), 1);
        due("size(): it is empty then", x.size(), 0);
        fault(blanks(399) + "x", 1, 399);
        fault(blanks(400), 1, 400);
        fault("size 3;link 1 2" + blanks(384) + "4", 2, 399);
        fault("size 3;link 1 2;link 2" + blanks(377) + "1", 3, 399);
        fault("size 3;link 0 2;ring 0 1 2" + blanks(374), 3, 400);
        fault("size 3" + blanks(393) + ";", 1, 400);
        fault("x".repeat(400), 1, 0);
        fault(";".repeat(400), 1, 0);
        fault("size 3" + ";".repeat(394), 1, 7);
        reads("size 3" + blanks(394), "3|000|000");
    }

    /** What a text is after which each byte stands, for all of them. */
    private static void bytes() {
        for (int b = 0; b < 256; b++) {
            char c = (char) b;
            boolean letter = c >= 'a' && c <= 'z';
            boolean digit = c >= '0' && c <= '9';
            holds(3, "blanks, 32, part TOKENS and mean nothing else; single digits; a row of letters ends at any other byte");
            if (c == ' ') {
                reads("size" + c + "3", "3|000|000");
                reads("size 3" + c, "3|000|000");
                continue;
            }
            holds(4, "1 FORM: a byte that begins no TOKEN; a row of letters ends at any other byte (byte " + b + ")");
            fault(c + "size 3", 1, 0);
            if (digit) {
                fault("size" + c + "3", c < '1' || c > '7' ? 2 : 1, c < '1' || c > '7' ? 4 : 5);
            } else {
                fault("size" + c + "3", 1, letter ? 0 : 4);
            }
            fault("size 3" + c, 1, c == ';' ? 7 : 6);
            fault("size 3;" + c + "link 0 1", 1, 7);
            fault("size 3;link" + c + " x", digit && c > '2' ? 2 : 1, letter ? 7 : digit && c <= '2' ? 13 : 11);
            if (digit && c >= '1' && c <= '3') {
                reads("size 3;link 0 1" + c, "3|000|" + c + "00");
            } else {
                fault("size 3;link 0 1" + c, digit ? 2 : 1, c == ';' ? 16 : 15);
            }
        }
        holds(3, "blanks, 32, part TOKENS and mean nothing else: none, many");
        reads("size3;paint25;link0 1;link123", "3|005|103");
        reads("  size   3  ;  paint  2  5  ;  link  0  1  ;  link  1  2  3  ", "3|005|103");
        holds(4, "1 FORM: blanks part WORDS, too");
        fault("si ze 3", 1, 0);
        fault("size 3;li nk 0 1", 1, 7);
    }

    // ---- faults

    /** A text with a fault: refused, THE TAPE is empty, graphs and acts stay. */
    private static void fault(String text, int fault, int place) {
        GraphNames x = new GraphNames();
        x.paint(1, 0, 7);
        put(x, text);
        due("text '" + text + "'", x.text(1, text.length()), NONE);
        due("text '" + text + "', trouble()", x.trouble(), 4);
        due("text '" + text + "', fault()", x.fault(), fault);
        due("text '" + text + "', where()", x.where(), place);
        due("text '" + text + "', size()", x.size(), 0);
        due("text '" + text + "', the graph", picture(x, 1), "1|7|");
        due("text '" + text + "' is no ACT", x.undo(), 0);
    }

    private static void textBounds() {
        holds(3, "NONE: 2 (n)");
        for (int n : new int[] {-1, 21, 22, 40, 276, 400, 401, -20, Integer.MIN_VALUE, Integer.MIN_VALUE + 17, Integer.MAX_VALUE}) {
            refuses("text(0, n) of 20 bytes with " + n, 2, GraphNamesBoundaries::textIntoFirst, n);
        }
        GraphNames x = scene();
        fine("text(0, 20) of 20 bytes", x, x.text(0, 20), 2);
        due("the graph", picture(x, 0), "2|00|3");
        x = scene();
        fine("text(0, 17) of 20 bytes", x, x.text(0, 17), 2);
        due("the graph", picture(x, 0), "2|00|3");
        x = scene();
        fine("text(0, 16) of 20 bytes", x, x.text(0, 16), 2);
        due("the graph", picture(x, 0), "2|00|1");
        x = scene();
        fine("text(0, 6) of 20 bytes", x, x.text(0, 6), 2);
        due("the graph", picture(x, 0), "2|00|0");
        due("size(): all of it is gone", x.size(), 0);
        holds(3, "NONE: 2 (n): no bytes, all of 400, one more");
        x = new GraphNames();
        refused("text(0, 1) of 0 bytes", x, x.text(0, 1), 2);
        refused("text(0, -1) of 0 bytes", x, x.text(0, -1), 2);
        refused("text(0, 0) of 0 bytes", x, x.text(0, 0), 4);
        due("fault()", x.fault(), 1);
        due("where()", x.where(), 0);
        put(x, "size 5" + blanks(394));
        refused("text(0, 401) of 400", x, x.text(0, 401), 2);
        due("size() stays", x.size(), 400);
        fine("text(0, 400) of 400", x, x.text(0, 400), 5);
        refusedByFault();
    }

    private static int textIntoFirst(GraphNames x, int n) {
        return x.text(0, n);
    }

    private static void refusedByFault() {
        holds(3, "What is refused changes nothing but trouble(), where(); by 4 THE TAPE (empty then), fault()");
        GraphNames x = scene();
        refused("text(0, 5), the end", x, x.text(0, 5), 4);
        due("fault()", x.fault(), 1);
        due("where()", x.where(), 5);
        due("size()", x.size(), 0);
        // a text on the tape and the fault as in the scene make all as it was there
        read(x, 0, "size 3;link 1 1");
        put(x, "size 2;link 0 1 3");
        due("all else", all(x), SCENE);
        x = scene();
        refused("text(0, 0), no bytes", x, x.text(0, 0), 4);
        due("size()", x.size(), 0);
        due("where()", x.where(), 0);
    }

    private static void forms() {
        holds(4, "1 FORM: a TOKEN with which no TEXT goes on (the end: how many bytes there are)");
        fault("", 1, 0);
        fault(" ", 1, 1);
        fault("   ", 1, 3);
        fault("size", 1, 4);
        fault("size  ", 1, 6);
        fault("size 3;", 1, 7);
        fault("size 3; ", 1, 8);
        fault("size 3;paint", 1, 12);
        fault("size 3;paint ", 1, 13);
        fault("size 3;paint 0", 1, 14);
        fault("size 3;paint 0 ", 1, 15);
        fault("size 3;link", 1, 11);
        fault("size 3;link 0", 1, 13);
        fault("size 3;link 0 ", 1, 14);
        fault("size 3;path", 1, 11);
        fault("size 3;path 0", 1, 13);
        fault("size 3;ring 0", 1, 13);
        fault("size 3;ring 0 1", 1, 15);
        fault("size 3;ring 0 1  ", 1, 17);
        GraphNames x = new GraphNames();
        put(x, "size 3");
        x.text(0, 4);
        due("text 'size' of 'size 3', where()", x.where(), 4);
        put(x, "sizes 3");
        x.text(0, 4);
        due("text 'size' of 'sizes 3', where()", x.where(), 4);
        put(x, "size 3;paint");
        x.text(0, 11);
        due("text 'size 3;pain' of 'size 3;paint', where()", x.where(), 7);
        holds(4, "1 FORM: a TOKEN with which no TEXT goes on");
        fault("3", 1, 0);
        fault(";size 3", 1, 0);
        fault("link 0 1", 1, 0);
        fault("size size 3", 1, 5);
        fault("size ;3", 1, 5);
        fault("size 33", 1, 6);
        fault("size 3 0", 1, 7);
        fault("size 3 link 0 1", 1, 7);
        fault("size 3;;link 0 1", 1, 7);
        fault("size 3;0", 1, 7);
        fault("size 3;size 3", 1, 7);
        fault("size 3;paint;", 1, 12);
        fault("size 3;paint paint", 1, 13);
        fault("size 3;paint 0;", 1, 14);
        fault("size 3;paint 0 0 0", 1, 17);
        fault("size 3;link;", 1, 11);
        fault("size 3;link 0;", 1, 13);
        fault("size 3;link 0 link", 1, 14);
        fault("size 3;link 0 1 1 1", 1, 18);
        fault("size 3;path;", 1, 11);
        fault("size 3;path 0;", 1, 13);
        fault("size 3;path 0 1 path", 1, 16);
        fault("size 3;ring 0 1;", 1, 15);
        fault("size 3;ring 0 1 ring", 1, 16);
        words();
    }

    private static void words() {
        holds(4, "1 FORM: WORDS of 1 to 5 small letters; more than five letters that stand together (at the first of them)");
        String[] words = {"size", "paint", "link", "path", "ring"};
        for (String w : words) {
            fault("size 3;" + w + "a 0 1 2", 1, 7);
            fault("size 3;a" + w + " 0 1 2", 1, 7);
            fault("size 3;" + w.substring(1) + " 0 1 2", 1, 7);
            fault("size 3;" + w.substring(0, w.length() - 1) + " 0 1 2", 1, 7);
            fault("size 3;" + w + w + " 0 1 2", 1, 7);
            fault("size 3;" + w.toUpperCase() + " 0 1 2", 1, 7);
            for (int i = 0; i < w.length(); i++) {
                char c = w.charAt(i);
                fault("size 3;" + w.substring(0, i) + (char) (c + 1) + w.substring(i + 1) + " 0 1 2", 1, 7);
                fault(w.substring(0, i) + (char) (c - 1) + w.substring(i + 1) + " 3", 1, 0);
            }
        }
        fault("a", 1, 0);
        fault("abcde", 1, 0);
        fault("abcdef", 1, 0);
        fault(" sizesize 3", 1, 1);
        fault("size sizess", 1, 5);
        fault("size 3 linkss", 1, 7);
        fault("size 3;" + "z".repeat(393), 1, 7);
        fault("size 3;paint 0 linkss", 1, 15);
        fault("size 3;link 0 1 linkss", 1, 16);
        fault("size 3;ring 0 1 2 linkss", 1, 18);
        fault("size 3;paintt 0 1", 1, 7);
        reads("size 3;paint 0 1", "3|100|000");
    }

    private static void digits() {
        holds(4, "2 a DIGIT that isn't within its bounds: V is 1 .. 7");
        fault("size 0", 2, 5);
        fault("size 8", 2, 5);
        fault("size 9", 2, 5);
        fault("size 0;path 0 1", 2, 5);
        for (int v = 1; v <= 7; v++) {
            holds(4, "2 a DIGIT that isn't within its bounds: A VERTEX is a DIGIT, below V (" + v + ")");
            String s = "size " + v;
            String none = "|" + "0".repeat(v - 1);
            reads(s + ";paint " + (v - 1) + " 4", v + none + "4|" + "0".repeat(v * (v - 1) / 2));
            for (int d = v; d <= 9; d++) {
                fault(s + ";paint " + d + " 0", 2, 13);
                fault(s + ";link " + d + " 0", 2, 12);
                fault(s + ";link 0 " + d, 2, 14);
                fault(s + ";path " + d + " 0", 2, 12);
                fault(s + ";path 0 " + d, 2, 14);
                fault(s + ";ring " + d + " 0 1", 2, 12);
                if (v > 1) {
                    fault(s + ";path 0 1 " + d, 2, 16);
                    fault(s + ";ring 0 1 " + d, 2, 16);
                }
                if (v > 2) {
                    fault(s + ";ring 0 1 2 " + d, 2, 18);
                }
            }
        }
        holds(4, "2 a DIGIT that isn't within its bounds: KIND 1 .. 3");
        for (int k : new int[] {0, 4, 5, 6, 7, 8, 9}) {
            fault("size 7;link 0 6 " + k, 2, 16);
        }
        holds(4, "2 a DIGIT that isn't within its bounds: every COLOUR is");
        reads("size 1;paint 0 0", "1|0|");
        reads("size 1;paint 0 9", "1|9|");
    }

    private static void twice() {
        holds(4, "3 a VERTEX painted again, at it");
        fault("size 3;paint 1 4;paint 1 4", 3, 23);
        fault("size 3;paint 1 0;paint 1", 3, 23);
        fault("size 7;paint 6 1;paint 0 1;paint 6 0", 3, 33);
        reads("size 3;paint 1 4;paint 0 4;paint 2 4", "3|444|000");
        GraphNames x = with("size 3;paint 1 4");
        fine("a VERTEX painted by the text ahead", x, read(x, 0, "size 3;paint 1 5"), 3);
        holds(4, "3 two that are linked already, or one and itself, at the second one");
        fault("size 3;link 0 1;link 0 1", 3, 23);
        fault("size 3;link 0 1;link 1 0 2", 3, 23);
        fault("size 3;link 0 1 3;path 2 0 1", 3, 27);
        fault("size 3;link 0 1 3;ring 2 0 1", 3, 27);
        fault("size 3;path 0 1 2;link 2 1", 3, 25);
        fault("size 3;ring 0 1 2;link 2 0", 3, 25);
        fault("size 3;path 0 1 0", 3, 16);
        fault("size 3;path 0 1 2 0 1", 3, 20);
        fault("size 3;ring 0 1 0", 3, 16);
        fault("size 1;link 0 0", 3, 14);
        fault("size 7;link 6 6", 3, 14);
        fault("size 3;path 1 1", 3, 14);
        fault("size 3;path 0 1 1", 3, 16);
        fault("size 3;ring 1 1 2", 3, 14);
        fault("size 3;ring 0 1 2 2", 3, 18);
        x = with("size 3;link 1 2");
        fine("two linked by the text ahead", x, read(x, 0, "size 3;link 1 2 2"), 3);
        x = with("size 2");
        fine("two of the GRAPH that was there", x, read(x, 0, "size 3;path 0 1 2"), 3);
        holds(4, "3 in a ring, if it is by its last link, at what stands behind the last VERTEX");
        fault("size 3;link 2 0;ring 0 1 2", 3, 26);
        fault("size 3;link 2 0;ring 0 1 2   ", 3, 29);
        fault("size 3;link 2 0;ring 0 1 2;", 3, 26);
        fault("size 3;link 2 0;ring 0 1 2  ;link 0 1", 3, 28);
        fault("size 4;ring 0 1 2 0", 3, 19);
        fault("size 4;ring 0 1 2 0;", 3, 19);
        fault("size 5;ring 0 1 2 3 1", 3, 21);
        fault("size 5;ring 0 1 2 3 1 ;", 3, 22);
        fault("size 4;path 0 1 2 3;ring 0 2 3", 3, 29);
    }

    private static void firstFaults() {
        holds(4, "FAULTS. Told is the first TOKEN, from the left, at which one is found");
        fault("size 9;foo", 2, 5);
        fault("foo 9;link 0 0", 1, 0);
        fault("size 3;paint 3 x", 2, 13);
        fault("size 3;link 1 1 9", 3, 14);
        fault("size 3;link 0 1 4;foo", 2, 16);
        fault("size 3;link 0 1;link 0 1 4", 3, 23);
        fault("size 3;paint 1 1;paint 1 ;", 3, 23);
        fault("size 3;link 2 0;ring 0 1 2;foo", 3, 26);
        fault("size 3;ring 0 0 9", 3, 14);
        fault("size 3;path 0 9 x", 2, 14);
        holds(4, "of one TOKEN the least number");
        fault("size 3;link 2 0;ring 0 1 2 x", 1, 27);
        fault("size 3;link 2 0;ring 0 1 2 link", 1, 27);
        fault("size 3;link 2 0;ring 0 1 2\n", 1, 26);
        fault("size 3;link 2 0;ring 0 1 2 3", 2, 27);
        fault("size 3;link 2 0;ring 0 1 2 9", 2, 27);
        fault("size 3;link 2 0;ring 0 1 2 0", 3, 27);
        fault("size 3;paint 3 0;paint 3 0", 2, 13);
        fault("size 3;link 3 3", 2, 12);
        reads("size 5;link 2 0;ring 0 1 2 3", "5|00000|1110100100");
    }

    private static void faultsAndPlaces() {
        holds(4, "The FAULT of the latest text() not refused by 1, 2; 0 without one, ahead of any");
        GraphNames x = new GraphNames();
        due("fault() ahead of any", x.fault(), 0);
        x.text(3, 0);
        due("fault() behind one refused by 1", x.fault(), 0);
        x.text(0, 1);
        due("fault() behind one refused by 2", x.fault(), 0);
        String[] texts = {"size 3;", "size 8", "size 3;link 0 0", "size 3"};
        int[] faults = {1, 2, 3, 0};
        int[] places = {7, 5, 14, NONE};
        for (int i = 0; i < 4; i++) {
            holds(4, "The FAULT of the latest text() not refused by 1, 2; 0 without one, ahead of any");
            read(x, 0, texts[i]);
            due("fault()", x.fault(), faults[i]);
            holds(5, "Its place, if the latest call that may be refused was by 4; NONE else");
            due("where()", x.where(), places[i]);
            due("where() again", x.where(), places[i]);
            x.text(-1, 0);
            due("where() behind a text refused by 1", x.where(), NONE);
            x.text(0, 21);
            due("where() behind a text refused by 2", x.where(), NONE);
            holds(4, "The FAULT of the latest text() not refused by 1, 2; 0 without one, ahead of any");
            due("fault() behind texts refused by 1 and 2", x.fault(), faults[i]);
            x.undo();
            x.undo();
            x.again(0);
            due("fault() behind other calls", x.fault(), faults[i]);
        }
        holds(5, "Its place, if the latest call that may be refused was by 4; NONE else");
        read(x, 0, "size 3;link 0 0");
        x.feed(0, 0, 0, 0, 0);
        x.fault();
        x.size();
        x.trouble();
        row(x, 0, 0);
        row(x, 0, 7);
        row(x, 7, 0);
        due("where() behind calls that aren't refused so", x.where(), 14);
        x.graph(0, 0);
        due("where() behind a call that wasn't refused", x.where(), NONE);
        read(x, 0, "size 3;link 0 0");
        x.image(0);
        due("where() behind image()", x.where(), NONE);
        read(x, 0, "size 3;link 0 0");
        x.again(1);
        due("where() behind again() that was refused", x.where(), NONE);
        read(x, 0, "size 3;link 0 0");
        x.again(0);
        due("where() behind again()", x.where(), NONE);
    }

    // ---- what is refused

    private static void graphBounds() {
        String s = "NONE: 1: there is no such GRAPH (0 .. 2)";
        holds(3, s);
        bounds("text(g, 17)", 0, 2, 1, (x, g) -> x.text(g, 17));
        holds(6, s);
        bounds("graph(g, 0)", 0, 2, 1, (x, g) -> x.graph(g, 0));
        holds(7, s);
        bounds("colour(g, 0)", 0, 2, 1, (x, g) -> x.colour(g, 0));
        holds(8, s);
        bounds("kind(g, 0, 1)", 0, 1, 1, (x, g) -> x.kind(g, 0, 1));
        holds(9, s);
        bounds("degree(g, 0, 0)", 0, 2, 1, (x, g) -> x.degree(g, 0, 0));
        holds(10, s);
        bounds("start(g, 0)", 0, 2, 1, (x, g) -> x.start(g, 0));
        holds(11, s);
        bounds("cell(g, 0)", 0, 2, 1, (x, g) -> x.cell(g, 0));
        holds(12, s);
        bounds("apart(g, 1, 0)", 1, 1, 1, (x, g) -> x.apart(g == 0 || g == 2 ? -1 : g, 1, 0));
        holds(13, s);
        bounds("tree(g, 0)", 0, 2, 1, (x, g) -> x.tree(g, 0));
        holds(14, s);
        bounds("search(g, 0)", 0, 2, 1, (x, g) -> x.search(g, 0));
        holds(15, s);
        bounds("name(g, 0)", 0, 2, 1, (x, g) -> x.name(g, 0));
        holds(16, s);
        bounds("place(g, 0)", 0, 2, 1, (x, g) -> x.place(g, 0));
        holds(17, s);
        bounds("less(g, 1)", 0, 2, 1, (x, g) -> x.less(g, 1));
        bounds("less(1, h)", 0, 2, 1, (x, h) -> x.less(1, h));
        holds(18, s);
        bounds("generator(g, 0, 0)", 1, 1, 1, (x, g) -> x.generator(g == 0 || g == 2 ? -1 : g, 0, 0));
        holds(19, s);
        bounds("symmetries(g, 0)", 0, 2, 1, (x, g) -> x.symmetries(g, 0));
        holds(20, s);
        bounds("orbit(g, 0)", 0, 2, 1, (x, g) -> x.orbit(g, 0));
        holds(21, s);
        bounds("leave(g, 0)", 0, 2, 1, (x, g) -> x.leave(g, 0));
        holds(22, s);
        bounds("maps(g, 1)", 0, 2, 1, (x, g) -> x.maps(g, 1));
        bounds("maps(1, h)", 0, 2, 1, (x, h) -> x.maps(1, h));
        moreGraphBounds(s);
        actGraphBounds(s);
    }

    /** Where all three graphs must have as many vertices, or two at least, the scene's become so. */
    private static GraphNames three(GraphNames x) {
        x.copy(1, 0);
        x.copy(1, 2);
        return x;
    }

    private static void evenBounds(String call, Call c) {
        for (int g = 0; g < 3; g++) {
            GraphNames x = three(scene());
            due(call + " with " + g + " is allowed", c.on(x, g) != NONE, true);
            due(call + " with " + g + ", trouble()", x.trouble(), 0);
        }
        for (int g : new int[] {-1, 3, 4, 32, 256, Integer.MIN_VALUE, Integer.MAX_VALUE}) {
            refuses(call + " with " + g, 1, c, g);
        }
    }

    private static void moreGraphBounds(String s) {
        holds(8, s);
        evenBounds("kind(g, 0, 1)", (x, g) -> x.kind(g, 0, 1));
        holds(12, s);
        evenBounds("apart(g, 1, 0)", (x, g) -> x.apart(g, 1, 0));
        holds(18, s);
        evenBounds("generator(g, 0, 0)", (x, g) -> x.generator(g, 0, 0));
        holds(23, s);
        evenBounds("map(g, 1, 0)", (x, g) -> x.map(g, 1, 0));
        evenBounds("map(1, h, 0)", (x, h) -> x.map(1, h, 0));
        holds(24, s);
        evenBounds("changes(g, 1)", (x, g) -> x.changes(g, 1));
        evenBounds("changes(1, h)", (x, h) -> x.changes(1, h));
        holds(25, s);
        evenBounds("told(g, 1)", (x, g) -> x.told(g, 1));
        evenBounds("told(1, h)", (x, h) -> x.told(1, h));
        holds(26, s);
        evenBounds("cards(g, 0)", (x, g) -> x.cards(g, 0));
        holds(27, s);
        bounds("turned(g)", 0, 2, 1, (x, g) -> x.turned(g));
        holds(28, s);
        bounds("base(g, 0)", 0, 2, 1, (x, g) -> x.base(g, 0));
        holds(29, s);
        bounds("fewest(g)", 0, 2, 1, (x, g) -> x.fewest(g));
    }

    private static void actGraphBounds(String s) {
        holds(30, s);
        evenBounds("link(g, 0, 1, 1)", (x, g) -> x.link(g, 0, 1, 1));
        holds(31, s);
        bounds("paint(g, 0, 0)", 0, 2, 1, (x, g) -> x.paint(g, 0, 0));
        holds(32, s);
        evenBounds("swap(g, 0, 1)", (x, g) -> x.swap(g, 0, 1));
        holds(33, s);
        bounds("shuffle(g, 1)", 0, 2, 1, (x, g) -> x.shuffle(g, 1));
        holds(34, s);
        bounds("copy(g, h)", 0, 2, 1, (x, g) -> x.copy(g, g == 1 ? 2 : 1));
        bounds("copy(g, h)", 0, 2, 1, (x, h) -> x.copy(h == 1 ? 2 : 1, h));
        holds(35, s);
        bounds("turn(g)", 0, 2, 1, (x, g) -> x.turn(g));
        holds(36, s);
        evenBounds("drop(g, 0)", (x, g) -> x.drop(g, 0));
        holds(37, s);
        evenBounds("grow(g, 0, 0)", (x, g) -> x.grow(g, 0, 0));
        holds(39, "IMAGE i (0, 1) is kept: true; false: 1");
        bounds("image(i)", 0, 1, 1, (x, i) -> told(x.image(i)));
        holds(40, "BACK TO it: true; false: 1");
        bounds("again(i) with image 0 alone", 0, 0, 1, (x, i) -> told(x.again(i)));
        GraphNames x = scene();
        x.image(1);
        due("again(1)", x.again(1), true);
        due("again(0)", x.again(0), true);
        due("again(2)", x.again(2), false);
        due("again(2), trouble()", x.trouble(), 1);
    }

    private static void whatBounds() {
        holds(6, "NONE: 1 (what, too): 0 .. 3");
        bounds("graph(0, what)", 0, 3, 1, (x, w) -> x.graph(0, w));
        holds(10, "NONE: 1 (what, too): 0 .. 3");
        bounds("start(0, what)", 0, 3, 1, (x, w) -> x.start(0, w));
        holds(12, "NONE: 1 (what, too): 0, 1");
        bounds("apart(1, 1, what)", 0, 1, 1, (x, w) -> x.apart(1, 1, w));
        holds(13, "NONE: 1 (what, too): 0 .. 4");
        bounds("tree(1, what)", 0, 4, 1, (x, w) -> x.tree(1, w));
        holds(14, "NONE: 1 (what, too): 0 .. 5");
        bounds("search(1, what)", 0, 5, 1, (x, w) -> x.search(1, w));
        holds(19, "NONE: 1 (what, too): 0 .. 2");
        bounds("symmetries(1, what)", 0, 2, 1, (x, w) -> x.symmetries(1, w));
        holds(26, "NONE: 1 (what, too): 0, 1");
        bounds("cards(1, what)", 0, 1, 1, (x, w) -> x.cards(1, w));
    }

    /** Vertices of a graph of seven (0), three (1) and one (2). */
    private static void vertexBounds() {
        for (int g = 0; g < 3; g++) {
            int at = g;
            int last = new int[] {6, 2, 0}[g];
            String s = "NONE: 1: there is no such VERTEX (0 .. " + last + ")";
            holds(7, s);
            bounds("colour(" + g + ", v)", 0, last, 1, (x, v) -> x.colour(at, v));
            holds(9, s);
            bounds("degree(" + g + ", v, 1)", 0, last, 1, (x, v) -> x.degree(at, v, 1));
            holds(20, s);
            bounds("orbit(" + g + ", v)", 0, last, 1, (x, v) -> x.orbit(at, v));
            holds(23, s);
            bounds("map(" + g + ", " + g + ", v)", 0, last, 1, (x, v) -> x.map(at, at, v));
            holds(31, s);
            bounds("paint(" + g + ", v, 9)", 0, last, 1, (x, v) -> x.paint(at, v, 9));
            holds(41, "NoSuchElementException if there is none such (0 .. " + last + ")");
            rowBounds(at, last);
        }
        String s = "NONE: 1: there is no such VERTEX (0 .. 6)";
        holds(8, s);
        bounds("kind(0, a, 0)", 1, 6, 1, (x, v) -> x.kind(0, v == 0 ? -1 : v, 0));
        bounds("kind(0, 6, b)", 0, 5, 1, (x, v) -> x.kind(0, 6, v == 6 ? -1 : v));
        holds(30, s);
        bounds("link(0, a, 0, 2)", 1, 6, 1, (x, v) -> x.link(0, v == 0 ? -1 : v, 0, 2));
        bounds("link(0, 6, b, 2)", 0, 5, 1, (x, v) -> x.link(0, 6, v == 6 ? -1 : v, 2));
        holds(32, s);
        bounds("swap(0, a, 0)", 1, 6, 1, (x, v) -> x.swap(0, v == 0 ? -1 : v, 0));
        bounds("swap(0, 6, b)", 0, 5, 1, (x, v) -> x.swap(0, 6, v == 6 ? -1 : v));
        holds(36, s);
        bounds("drop(0, v)", 0, 6, 1, (x, v) -> x.drop(0, v));
        holds(12, "NONE: 1: there is no such VERTEX (0 .. 2)");
        bounds("apart(1, v, 0)", 1, 2, 1, (x, v) -> x.apart(1, v == 0 ? -1 : v, 0));
        bounds("apart(1, v, 1)", 1, 2, 1, (x, v) -> x.apart(1, v == 0 ? -1 : v, 1));
        holds(18, "NONE: 1: there is no such VERTEX (0 .. 2)");
        bounds("generator(1, 0, v)", 0, 2, 1, (x, v) -> x.generator(1, 0, v));
        holds(23, "NONE: 1: a VERTEX of the first GRAPH");
        GraphNames x = with("size 2", "size 3");
        refused("map(0, 1, 2)", x, x.map(0, 1, 2), 1);
        refused("map(0, 1, 1)", x, x.map(0, 1, 1), 6);
        refused("map(1, 0, 2)", x, x.map(1, 0, 2), 6);
    }

    private static void rowBounds(int g, int last) {
        for (int v = 0; v <= last; v++) {
            due("row(" + g + ", " + v + ") is told", row(scene(), g, v) != NONE, true);
        }
        for (int v : new int[] {-1, last + 1, last + 32, 32, 256, Integer.MIN_VALUE, Integer.MAX_VALUE}) {
            GraphNames x = scene();
            due("row(" + g + ", " + v + ") throws", row(x, g, v), NONE);
            due("row(" + g + ", " + v + "), trouble() stays", x.trouble(), 4);
            due("row(" + g + ", " + v + "), where() stays", x.where(), 14);
            due("row(" + g + ", " + v + "), all else", all(x), SCENE);
        }
    }

    private static void otherBounds() {
        holds(9, "KIND (1 .. 3; 0: by any of these). NONE: 2 (KIND)");
        bounds("degree(0, 0, kind)", 0, 3, 2, (x, k) -> x.degree(0, 0, k));
        holds(11, "NONE: 1: there is no such CELL");
        bounds("cell(0, c) of 7", 0, 6, 1, (x, c) -> x.cell(0, c));
        bounds("cell(1, c) of 2", 0, 1, 1, (x, c) -> x.cell(1, c));
        bounds("cell(2, c) of 1", 0, 0, 1, (x, c) -> x.cell(2, c));
        holds(15, "NONE: 6 (it has not so many, k below 0)");
        bounds("name(0, k) of 7 VERTICES", 0, 27, 6, (x, k) -> x.name(0, k));
        bounds("name(1, k) of 3 VERTICES", 0, 5, 6, (x, k) -> x.name(1, k));
        bounds("name(2, k) of one VERTEX", 0, 0, 6, (x, k) -> x.name(2, k));
        holds(16, "NONE: 6 (no such PLACE)");
        bounds("place(0, k) of 7 VERTICES", 0, 6, 6, (x, k) -> x.place(0, k));
        bounds("place(1, k) of 3 VERTICES", 0, 2, 6, (x, k) -> x.place(1, k));
        bounds("place(2, k) of one VERTEX", 0, 0, 6, (x, k) -> x.place(2, k));
        holds(18, "NONE: 6 (there are not so many, i below 0)");
        bounds("generator(1, i, 0) of one", 0, 0, 6, (x, i) -> x.generator(1, i, 0));
        refuses("generator(0, 0, 0) of none", 6, (x, i) -> x.generator(0, 0, 0));
        refuses("generator(2, 0, 0) of none", 6, (x, i) -> x.generator(2, 0, 0));
        holds(30, "KIND of two VERTICES becomes k (0 .. 3). NONE: 2");
        bounds("link(0, 0, 6, k)", 0, 3, 2, (x, k) -> x.link(0, 0, 6, k));
        holds(31, "COLOUR of a VERTEX becomes c (0 .. 9). NONE: 2");
        bounds("paint(0, 6, c)", 0, 9, 2, (x, c) -> x.paint(0, 6, c));
        holds(37, "of a COLOUR (0 .. 9). NONE: 2");
        bounds("grow(1, 0, colour)", 0, 9, 2, (x, c) -> x.grow(1, 0, c));
        holds(33, "x at first a seed 1 .. 2147483646. NONE: 2");
        for (int seed : new int[] {0, -1, 2147483647, -2147483647, Integer.MIN_VALUE}) {
            refuses("shuffle(0, " + seed + ")", 2, (x, n) -> x.shuffle(0, n), seed);
            refuses("shuffle(2, " + seed + ")", 2, (x, n) -> x.shuffle(2, n), seed);
        }
        for (int seed : new int[] {1, 2, 2147483645, 2147483646}) {
            GraphNames x = scene();
            due("shuffle(0, " + seed + ") is allowed", x.shuffle(0, seed) != NONE, true);
            due("shuffle(0, " + seed + "), trouble()", x.trouble(), 0);
        }
    }

    private static void setBounds() {
        String s = "some VERTICES (bits). NONE: 2 (bits of others): none, all, one more, the sign";
        holds(21, s);
        bounds("leave(0, set) of 7", 0, 127, 2, (x, set) -> x.leave(0, set));
        bounds("leave(1, set) of 3", 0, 7, 2, (x, set) -> x.leave(1, set));
        bounds("leave(2, set) of one", 0, 1, 2, (x, set) -> x.leave(2, set));
        holds(28, s);
        bounds("base(0, set) of 7", 0, 127, 2, (x, set) -> x.base(0, set));
        bounds("base(1, set) of 3", 0, 7, 2, (x, set) -> x.base(1, set));
        bounds("base(2, set) of one", 0, 1, 2, (x, set) -> x.base(2, set));
        holds(37, "linked by KIND 1 with some (bits). NONE: 2: none, all, one more, the sign");
        bounds("grow(1, set, 0) of 3", 0, 7, 2, (x, set) -> x.grow(1, set, 0));
        bounds("grow(2, set, 0) of one", 0, 1, 2, (x, set) -> x.grow(2, set, 0));
        for (int b = 3; b < 32; b++) {
            int set = 1 << b;
            holds(21, s);
            refuses("leave(1, 1 << " + b + ")", 2, (x, n) -> x.leave(1, n), set);
            refuses("leave(1, 7 and 1 << " + b + ")", 2, (x, n) -> x.leave(1, n), 7 | set);
            holds(28, s);
            refuses("base(1, 1 << " + b + ")", 2, (x, n) -> x.base(1, n), set);
            holds(37, s);
            refuses("grow(1, 1 << " + b + ", 0)", 2, (x, n) -> x.grow(1, n, 0), set);
        }
    }

    private static void troublesTold() {
        String s = "TROUBLE: Of several the one that the call tells first";
        holds(3, s);
        refuses("text(3, -1)", 1, (x, n) -> x.text(3, -1));
        refuses("text(-1, 0), a FAULT, too", 1, (x, n) -> x.text(-1, 0));
        refuses("text(0, 21), a FAULT, too", 2, (x, n) -> x.text(0, 21));
        holds(8, s);
        refuses("kind(0, 7, 7)", 1, (x, n) -> x.kind(0, 7, 7));
        refuses("kind(0, -1, -1)", 1, (x, n) -> x.kind(0, -1, -1));
        refuses("kind(3, 0, 0)", 1, (x, n) -> x.kind(3, 0, 0));
        holds(9, s);
        refuses("degree(0, 7, 4)", 1, (x, n) -> x.degree(0, 7, 4));
        refuses("degree(3, 0, -1)", 1, (x, n) -> x.degree(3, 0, -1));
        holds(12, s);
        refuses("apart(1, 0, 2)", 1, (x, n) -> x.apart(1, 0, 2));
        refuses("apart(2, 0, -1)", 1, (x, n) -> x.apart(2, 0, -1));
        refuses("apart(2, 1, 0)", 1, (x, n) -> x.apart(2, 1, 0));
        holds(15, s);
        refuses("name(3, -1)", 1, (x, n) -> x.name(3, -1));
        holds(16, s);
        refuses("place(3, 7)", 1, (x, n) -> x.place(3, 7));
        holds(18, s);
        refuses("generator(1, 1, 3)", 1, (x, n) -> x.generator(1, 1, 3));
        refuses("generator(1, -1, -1)", 1, (x, n) -> x.generator(1, -1, -1));
        refuses("generator(3, -1, 0)", 1, (x, n) -> x.generator(3, -1, 0));
        holds(21, s);
        refuses("leave(3, -1)", 1, (x, n) -> x.leave(3, -1));
        holds(23, s);
        refuses("map(0, 1, 7)", 1, (x, n) -> x.map(0, 1, 7));
        refuses("map(0, 3, 0)", 1, (x, n) -> x.map(0, 3, 0));
        holds(26, s);
        refuses("cards(2, 2)", 1, (x, n) -> x.cards(2, 2));
        refuses("cards(2, -1)", 1, (x, n) -> x.cards(2, -1));
        holds(28, s);
        refuses("base(-1, -1)", 1, (x, n) -> x.base(-1, -1));
        holds(30, s);
        refuses("link(0, 7, 7, 4)", 1, (x, n) -> x.link(0, 7, 7, 4));
        refuses("link(3, 0, 0, 4)", 1, (x, n) -> x.link(3, 0, 0, 4));
        refuses("link(0, 6, 6, 4)", 5, (x, n) -> x.link(0, 6, 6, 4));
        refuses("link(2, 0, 0, -1)", 5, (x, n) -> x.link(2, 0, 0, -1));
        holds(31, s);
        refuses("paint(0, 7, 10)", 1, (x, n) -> x.paint(0, 7, 10));
        refuses("paint(3, 0, -1)", 1, (x, n) -> x.paint(3, 0, -1));
        holds(32, s);
        refuses("swap(0, 7, 7)", 1, (x, n) -> x.swap(0, 7, 7));
        refuses("swap(-1, 0, 0)", 1, (x, n) -> x.swap(-1, 0, 0));
        holds(33, s);
        refuses("shuffle(3, 0)", 1, (x, n) -> x.shuffle(3, 0));
        holds(34, s);
        refuses("copy(3, 3)", 1, (x, n) -> x.copy(3, 3));
        refuses("copy(-1, -1)", 1, (x, n) -> x.copy(-1, -1));
        holds(36, s);
        refuses("drop(2, 1)", 1, (x, n) -> x.drop(2, 1));
        refuses("drop(2, -1)", 1, (x, n) -> x.drop(2, -1));
        holds(37, s);
        refuses("grow(3, -1, 10)", 1, (x, n) -> x.grow(3, -1, 10));
        refuses("grow(0, 128, 0) of 7", 2, (x, n) -> x.grow(0, 128, 0));
        refuses("grow(0, 0, 10) of 7", 2, (x, n) -> x.grow(0, 0, 10));
    }

    private static void notSo() {
        holds(8, "NONE: 5 (it is one)");
        for (int v = 0; v < 7; v++) {
            refuses("kind(0, v, v) with " + v, 5, (x, n) -> x.kind(0, n, n), v);
            holds(30, "NONE: 5 (it is one)");
            refuses("link(0, v, v, 1) with " + v, 5, (x, n) -> x.link(0, n, n, 1), v);
            holds(32, "NONE: 5 (it is one)");
            refuses("swap(0, v, v) with " + v, 5, (x, n) -> x.swap(0, n, n), v);
        }
        holds(12, "NONE: 5 (it isn't in the TARGET)");
        refuses("apart(1, 0, 0): alone in its CELL", 5, (x, n) -> x.apart(1, 0, 0));
        refuses("apart(1, 0, 1)", 5, (x, n) -> x.apart(1, 0, 1));
        refuses("apart(0, 6, 0): no TARGET", 5, (x, n) -> x.apart(0, 6, 0));
        refuses("apart(2, 0, 0): one VERTEX", 5, (x, n) -> x.apart(2, 0, 0));
        GraphNames x = with("size 5;paint 0 1;paint 1 1");
        refused("apart(0, 2, 0): in a CELL that is larger", x, x.apart(0, 2, 0), 5);
        fine("apart(0, 0, 0)", x, x.apart(0, 0, 0), 3);
        x = with("size 4;paint 0 1;paint 1 1");
        refused("apart(0, 0, 0): in a CELL as large, behind it", x, x.apart(0, 0, 0), 5);
        fine("apart(0, 2, 0)", x, x.apart(0, 2, 0), 3);
        holds(24, "NONE: 5 (V is unlike)");
        refuses("changes(0, 1)", 5, (y, n) -> y.changes(0, 1));
        refuses("changes(1, 2)", 5, (y, n) -> y.changes(1, 2));
        holds(25, "NONE: 5 (V is unlike)");
        refuses("told(0, 1)", 5, (y, n) -> y.told(0, 1));
        refuses("told(2, 1)", 5, (y, n) -> y.told(2, 1));
        holds(26, "NONE: 5 (V is 1)");
        refuses("cards(2, 0)", 5, (y, n) -> y.cards(2, 0));
        refuses("cards(2, 1)", 5, (y, n) -> y.cards(2, 1));
        holds(34, "NONE: 5 (it is one)");
        for (int g = 0; g < 3; g++) {
            refuses("copy(g, g) with " + g, 5, (y, n) -> y.copy(n, n), g);
        }
        holds(36, "NONE: 5 (V is 1)");
        refuses("drop(2, 0)", 5, (y, n) -> y.drop(2, 0));
        holds(37, "NONE: 5 (there are 7)");
        refuses("grow(0, 0, 0)", 5, (y, n) -> y.grow(0, 0, 0));
        refuses("grow(0, 127, 9)", 5, (y, n) -> y.grow(0, 127, 9));
    }

    private static void noneThere() {
        holds(23, "NONE: 6 (there is no MAP)");
        refuses("map(0, 1, 0): V is unlike", 6, (x, n) -> x.map(0, 1, 0));
        refuses("map(2, 0, 0): V is unlike", 6, (x, n) -> x.map(2, 0, 0));
        GraphNames x = with("size 3;path 0 1 2", "size 3;path 0 1 2;link 0 2 2", "size 3;path 0 1 2;paint 1 1");
        refused("map(0, 1, 0): a KIND is unlike", x, x.map(0, 1, 0), 6);
        refused("map(0, 2, 0): a COLOUR is unlike", x, x.map(0, 2, 0), 6);
        fine("map(0, 0, 2)", x, x.map(0, 0, 2), 2);
        holds(38, "NONE: 5 (no act can be undone)");
        GraphNames y = scene();
        y.again(0);
        String then = all(y);
        y = scene();
        y.again(0);
        refused("undo() behind again()", y, y.undo(), 5);
        due("where()", y.where(), NONE);
        due("all else", all(y), then);
        y = new GraphNames();
        refused("undo() of a new object", y, y.undo(), 5);
        due("all else", all(y), all(new GraphNames()));
        holds(40, "false: 1 (it wasn't kept, too)");
        refuses("again(1)", 1, (z, n) -> told(z.again(1)));
    }

    // ---- what is told of one vertex, of seven

    private static final String ALL_THREE = "size 7;link 0 1 3;link 0 2 3;link 0 3 3;link 0 4 3;link 0 5 3;link 0 6 3;link 1 2 3;link 1 3 3;"
        + "link 1 4 3;link 1 5 3;link 1 6 3;link 2 3 3;link 2 4 3;link 2 5 3;link 2 6 3;link 3 4 3;link 3 5 3;link 3 6 3;link 4 5 3;"
        + "link 4 6 3;link 5 6 3";

    private static void tellsAll(String call, Call c, int... want) {
        for (int what = 0; what < want.length; what++) {
            due(call + " with what " + what, c.on(null, what), want[what]);
        }
    }

    private static void whatIsTold() {
        GraphNames x = with("size 1", ALL_THREE, "size 7;paint 0 9;paint 1 1;paint 2 2;paint 3 3;paint 4 4;paint 5 5");
        holds(6, "0 V, 1 links (KIND not 0), 2 how many COLOURS there are, 3 links of the VERTEX with most: one VERTEX; full; none linked");
        tellsAll("graph of one VERTEX", (n, w) -> x.graph(0, w), 1, 0, 1, 0);
        tellsAll("graph with each two linked", (n, w) -> x.graph(1, w), 7, 21, 1, 6);
        tellsAll("graph with 7 COLOURS", (n, w) -> x.graph(2, w), 7, 0, 7, 0);
        x.paint(2, 6, 9);
        fine("graph(2, 2): COLOURS that there are", x, x.graph(2, 2), 6);
        x.link(2, 5, 6, 1);
        x.link(2, 0, 6, 2);
        x.link(2, 0, 6, 0);
        fine("graph(2, 1)", x, x.graph(2, 1), 1);
        fine("graph(2, 3)", x, x.graph(2, 3), 1);
        GraphNames star = with("size 7;link 0 1;link 0 2 2;link 0 3 3", "size 7;link 6 0;link 6 1 3;link 4 5", "size 7;path 0 1 2");
        fine("graph(0, 3): the first VERTEX", star, star.graph(0, 3), 3);
        fine("graph(1, 3): the last VERTEX", star, star.graph(1, 3), 2);
        fine("graph(2, 3)", star, star.graph(2, 3), 2);
        holds(7, "COLOUR of a VERTEX: 0 .. 9");
        fine("colour(2, 0)", x, x.colour(2, 0), 9);
        fine("colour(0, 0)", x, x.colour(0, 0), 0);
        holds(8, "KIND of two VERTICES: 0 .. 3, from both sides");
        fine("kind(1, 0, 6)", x, x.kind(1, 0, 6), 3);
        fine("kind(1, 6, 0)", x, x.kind(1, 6, 0), 3);
        fine("kind(2, 6, 0)", x, x.kind(2, 6, 0), 0);
        holds(9, "(1 .. 3; 0: by any of these): none, all");
        int[] all = {6, 0, 0, 6};
        for (int k = 0; k <= 3; k++) {
            fine("degree(1, 6, " + k + ")", x, x.degree(1, 6, k), all[k]);
            fine("degree(0, 0, " + k + ")", x, x.degree(0, 0, k), 0);
        }
        x.link(1, 6, 5, 2);
        x.link(1, 6, 0, 1);
        x.link(1, 6, 4, 0);
        int[] some = {5, 1, 1, 3};
        for (int k = 0; k <= 3; k++) {
            fine("degree(1, 6, " + k + ")", x, x.degree(1, 6, k), some[k]);
        }
        holds(41, "VERTICES linked with one (bits; by any KIND): none, all");
        due("row(1, 0)", row(x, 1, 0), 126);
        due("row(1, 6)", row(x, 1, 6), 63 - 16);
        due("row(0, 0)", row(x, 0, 0), 0);
    }

    private static void starts() {
        holds(10, "START of one VERTEX; of as many COLOURS as VERTICES; of one CELL (0: there is no TARGET)");
        GraphNames x = with("size 1;paint 0 9", "size 7;paint 0 9;paint 1 1;paint 2 2;paint 3 3;paint 4 4;paint 5 5", ALL_THREE);
        tellsAll("start of one VERTEX", (n, w) -> x.start(0, w), 1, 0, 1, 0);
        tellsAll("start of 7 COLOURS", (n, w) -> x.start(1, w), 7, 0, 7, 0);
        tellsAll("start with each two linked", (n, w) -> x.start(2, w), 1, 0, 1, 127);
        holds(11, "VERTICES (bits) of a CELL of START: one VERTEX; all; by COLOURS rising, 0 .. 9");
        fine("cell(0, 0)", x, x.cell(0, 0), 1);
        fine("cell(1, 0)", x, x.cell(1, 0), 64);
        fine("cell(1, 1)", x, x.cell(1, 1), 2);
        fine("cell(1, 6)", x, x.cell(1, 6), 1);
        fine("cell(2, 0)", x, x.cell(2, 0), 127);
        holds(10, "REFINED: ROUND by ROUND, till one divides nothing (that one isn't counted): four ROUNDS");
        // 01345 | 26, then 0134 | 5 | 26, then 01 | 34 | 5 | 26, then 01 | 34 | 5 | 2 | 6
        GraphNames y = with("size 7;link 0 5;link 0 6;link 1 5;link 1 6;link 2 3;link 2 4;link 2 6;link 3 4", "size 4;path 0 1 2 3");
        tellsAll("start of four ROUNDS", (n, w) -> y.start(0, w), 5, 4, 1, 3);
        tellsAll("start of one ROUND", (n, w) -> y.start(1, w), 2, 1, 1, 9);
        holds(10, "TARGET: of CELLS with two VERTICES at least one with the fewest, of these the first");
        GraphNames z = with("size 6;paint 0 1;paint 1 2;paint 2 2;paint 3 3;paint 4 3;paint 5 4", "size 7;paint 0 1;paint 1 1;paint 2 1",
            "size 7;paint 0 1;paint 1 1;paint 2 1;paint 3 1;paint 4 2");
        fine("start(0, 3): not one alone; the first of like ones", z, z.start(0, 3), 6);
        fine("start(1, 3): three ahead of four", z, z.start(1, 3), 7);
        fine("start(2, 3): two ahead of four and one", z, z.start(2, 3), 96);
        signs();
    }

    /** Signs are compared number by number, with as many numbers as there can be, up to the largest. */
    private static void signs() {
        holds(11, "SIGN: CELL by CELL, KIND by KIND (1, 2, 3) (compared number by number)");
        // six CELLS: the last is 5 and 6, which are linked unlike
        String six = "size 7;paint 1 1;paint 2 2;paint 3 3;paint 4 4;paint 5 5;paint 6 5";
        String[][] lines = {
            {";link 0 5;link 4 6 3", "6 ahead of 5, the first number of all"}, {";link 0 5 3;link 4 6", "6 ahead of 5"},
            {";link 0 5;link 0 6 3", "6 ahead of 5, KIND 1 ahead of KIND 3"}, {";link 4 5 2;link 4 6 3", "6 ahead of 5"},
            {";link 3 5 3;link 4 6", "6 ahead of 5"}, {";link 4 5 3", "6 ahead of 5, none ahead of one"},
        };
        for (String[] l : lines) {
            GraphNames x = with(six + l[0]);
            fine("cell(0, 5) of '" + l[0] + "', " + l[1], x, x.cell(0, 5), 64);
            fine("cell(0, 6) of '" + l[0] + "'", x, x.cell(0, 6), 32);
            GraphNames y = with((six + l[0]).replace("5 3;link 4 6", "6 3;link 4 5"));
            fine("start(0, 0) of '" + l[0] + "'", y, y.start(0, 0), 7);
        }
        GraphNames four = with("size 6;paint 2 1;paint 3 1;paint 4 1;paint 5 1;link 0 2;link 1 2 2;link 1 3 2;link 1 4 2;link 1 5 2");
        // 0 is linked with one by KIND 1, 1 with four by KIND 2: one ROUND tells them apart, 1 ahead
        tellsAll("start of one and four", (n, w) -> four.start(0, w), 4, 1, 2, 8 + 16 + 32);
        fine("cell(0, 0): four by KIND 2 are ahead of one by KIND 1", four, four.cell(0, 0), 2);
        // one linked with six, the others with one: six is more than one, and than two of another KIND
        GraphNames x = with("size 7;link 0 1;link 0 2;link 0 3;link 0 4;link 0 5;link 0 6", "size 7;path 1 2 0 3 4;link 5 6 3");
        fine("cell(0, 0)", x, x.cell(0, 0), 126);
        fine("cell(0, 1): linked with six", x, x.cell(0, 1), 1);
        // 5 6 (KIND 3), then 1 4 (one by KIND 1), then 2 and 3 (two, of them 0), and 0
        fine("cell(1, 0): KIND 3 is compared last", x, x.cell(1, 0), 96);
        fine("cell(1, 1)", x, x.cell(1, 1), 18);
    }

    private static void trees() {
        GraphNames x = with("size 1;paint 0 5", "size 7", "size 7;paint 0 6;paint 1 1;paint 2 2;paint 3 3;paint 4 4;paint 5 5");
        holds(13, "a NODE without a TARGET is a LEAF: the root alone");
        tellsAll("tree of one VERTEX", (n, w) -> x.tree(0, w), 1, 1, 0, 10, 1);
        tellsAll("tree of 7 COLOURS", (n, w) -> x.tree(2, w), 1, 1, 0, 11111110, 1);
        holds(13, "THE TREE: the most NODES, LEAFS, VERTICES SET APART");
        tellsAll("tree of 7 VERTICES, none linked", (n, w) -> x.tree(1, w), 1 + 7 + 42 + 210 + 840 + 2520 + 5040, 5040, 6, 70, 5040);
        x.turn(1);
        tellsAll("tree of 7 VERTICES, all linked", (n, w) -> x.tree(1, w), 1 + 7 + 42 + 210 + 840 + 2520 + 5040, 5040, 6, 70, 5040);
        holds(13, "LEAFS that are like the least: one of two");
        // the ring of three, 4 5 6, is less (1421 against 11322): 3 * 16 of its leafs are like the least
        GraphNames y = with("size 7;ring 0 1 2 3;ring 4 5 6", "size 2", "size 2;paint 1 1");
        fine("tree(0, 4)", y, y.tree(0, 4), 48);
        tellsAll("tree of two", (n, w) -> y.tree(1, w), 3, 2, 1, 20, 2);
        tellsAll("tree of two of unlike COLOURS", (n, w) -> y.tree(2, w), 1, 1, 0, 110, 1);
        holds(12, "its MARK then: seven digits");
        GraphNames z = with("size 7;paint 0 1;paint 1 2;paint 2 3;paint 3 4;paint 4 5", "size 2");
        fine("apart(0, 5, 1): no ROUND", z, z.apart(0, 5, 1), 11111110);
        fine("apart(0, 6, 0)", z, z.apart(0, 6, 0), 7);
        fine("apart(1, 1, 1)", z, z.apart(1, 1, 1), 110);
        x.paint(1, 0, 1);
        fine("apart(1, 1, 1) of six alike", x, x.apart(1, 1, 1), 1510);
        holds(12, "A VERTEX of it is SET APART: it is a CELL alone, all others of its CELL are one right behind it; then REFINED");
        GraphNames r = with("size 7;ring 0 1 2;ring 3 4 5 6", "size 7;path 0 1 2 3 4 5 6");
        // 3 | 5 | 012 | 46 by two ROUNDS, 0 | 3456 | 12 by one
        fine("apart(0, 3, 0)", r, r.apart(0, 3, 0), 4);
        fine("apart(0, 3, 1): two ROUNDS", r, r.apart(0, 3, 1), 11322);
        fine("apart(0, 0, 1): one ROUND", r, r.apart(0, 0, 1), 1421);
        fine("apart(1, 6, 0)", r, r.apart(1, 6, 0), 7);
        fine("apart(1, 6, 1)", r, r.apart(1, 6, 1), 11111112);
        holds(13, "MARK of the root: ten times that and how many ROUNDS were counted for it");
        // 06 | 24 | 3 | 15 by three ROUNDS
        fine("tree(1, 3)", r, r.tree(1, 3), 22123);
        fine("tree(0, 3)", r, r.tree(0, 3), 70);
    }

    private static void searches() {
        GraphNames x = with("size 1", "size 7", "size 2");
        holds(14, "THE SEARCH of one VERTEX: FIRST alone (it gives no GENERATOR)");
        tellsAll("search of one VERTEX", (n, w) -> x.search(0, w), 1, 1, 0, 0, 0, 1);
        holds(14, "THE SEARCH: two LEAFS, the second one like FIRST");
        tellsAll("search of two", (n, w) -> x.search(2, w), 3, 2, 0, 0, 1, 1);
        holds(14, "THE SEARCH: the most LEAFS that are like FIRST");
        tellsAll("search of 7 VERTICES, none linked", (n, w) -> x.search(1, w), 63, 22, 0, 70, 21, 1);
        holds(18, "To which VERTEX the i-th GENERATOR (0 on, as they were found): the first, the last, one more");
        int[] first = {0, 1, 2, 3, 4, 6, 5};
        for (int v = 0; v < 7; v++) {
            fine("generator(1, 0, " + v + ")", x, x.generator(1, 0, v), first[v]);
            due("generator(1, 20, " + v + ") is a VERTEX", x.generator(1, 20, v) >= 0, true);
        }
        refused("generator(1, 21, 0)", x, x.generator(1, 21, 0), 6);
        refused("generator(0, 0, 0): FIRST gives none", x, x.generator(0, 0, 0), 6);
        fine("generator(2, 0, 0)", x, x.generator(2, 0, 0), 1);
        refused("generator(2, 1, 0)", x, x.generator(2, 1, 0), 6);
        holds(14, "A NODE is CUT if the MARKS on the way to it are as on the way to BEST, but its own is greater: like and lesser ones are not");
        // with the ring of three first (1421) those of the ring of four (11322) are CUT, not the other way round
        GraphNames y = with("size 7;ring 0 1 2;ring 3 4 5 6", "size 7;ring 0 1 2 3;ring 4 5 6");
        tellsAll("search, greater ones behind", (n, w) -> y.search(0, w), 19, 7, 1, 18, 6, 1);
        // FIRST is 0 1 4 5; 4 5 0 1 becomes BEST, as 1421 is less than 11322
        tellsAll("search, lesser ones behind", (n, w) -> y.search(1, w), 23, 8, 0, 19, 6, 2);
        y.link(1, 0, 4, 1);
        fine("search(1, 0) of what it is now", y, y.search(1, 0), 6);
    }

    private static void searchesFurther() {
        holds(14, "(of the same parent) comes to its VERTEX: by GENERATORS that leave each VERTEX that was SET APART where it is");
        GraphNames x = with("size 3", "size 5;ring 0 1 2 3 4", "size 3;paint 0 1;paint 2 1");
        // 1 2 0 is looked at, though 1 2 comes of 1 0: what sends 2 to 0 moves 1
        tellsAll("search of three", (n, w) -> x.search(0, w), 7, 4, 0, 1, 3, 1);
        holds(14, "by GENERATORS found so far, one behind the other");
        // 0 to 1 and on, so that 2, 3 and 4 are SKIPPED
        tellsAll("search of a ring of five", (n, w) -> x.search(1, w), 7, 4, 0, 3, 3, 1);
        holds(14, "A NODE is CUT if its own is greater: a like one isn't");
        tellsAll("search of two that are alike", (n, w) -> x.search(2, w), 3, 2, 0, 0, 1, 1);
        holds(14, "A LEAF that is like FIRST (MARKS and CODE), else one that is like BEST, gives a GENERATOR");
        // FIRST is below 0, then 1 becomes BEST; 3 is like FIRST, 4 and 5 are SKIPPED
        String behindBest = "size 6;link 0 2;link 0 3 3;link 0 4 2;link 1 3 2;link 1 4;link 1 5 3;link 2 4 3;link 2 5 2;link 3 5";
        // FIRST 0 4 1 2 with four like it; BEST 1 2 0 4 with 1 2 4 0 and 1 2 4 5 like it
        String likeBest = "size 7;ring 0 4 5 6;ring 1 2 3";
        // BEST is below 1; MARKS are to be as on the way to it, not as on the way to FIRST
        String cutByBest = "size 6;link 0 3 2;link 0 4;link 0 5;link 1 2;link 1 4;link 1 5 2;link 2 3;link 2 4 2;link 3 5";
        GraphNames y = with(behindBest, likeBest, cutByBest);
        tellsAll("search, like FIRST behind another BEST", (n, w) -> y.search(0, w), 5, 4, 0, 2, 1, 2);
        rowOfVertices("generator(0, 0, v)", v -> y.generator(0, 0, v), 3, 4, 5, 0, 1, 2);
        tellsAll("search, like BEST that isn't FIRST", (n, w) -> y.search(1, w), 19, 8, 0, 13, 6, 2);
        rowOfVertices("generator(1, 3, v), from FIRST", v -> y.generator(1, 3, v), 0, 1, 2, 3, 6, 5, 4);
        rowOfVertices("generator(1, 4, v), from BEST", v -> y.generator(1, 4, v), 4, 1, 2, 3, 0, 6, 5);
        rowOfVertices("generator(1, 5, v), from BEST", v -> y.generator(1, 5, v), 4, 1, 2, 3, 5, 6, 0);
        holds(16, "(of the first such LEAF, if one goes through the TREE CHILD by CHILD, depth first)");
        rowOfVertices("place(1, k)", k -> y.place(1, k), 1, 0, 5, 4, 6, 2, 3);
        holds(14, "A NODE is CUT if the MARKS on the way to it are as on the way to BEST, but its own is greater");
        tellsAll("search, CUT by BEST", (n, w) -> y.search(2, w), 7, 4, 1, 3, 2, 2);
        holds(15, "LEAFS are compared by MARKS from the root on, then by CODES: a lesser MARK with a greater CODE");
        GraphNames z = with("size 6;link 0 1 3;link 0 2;link 0 4;link 1 3;link 1 4;link 2 3 3;link 2 5;link 3 5;link 4 5 3");
        tellsAll("search, MARKS of LEAFS", (n, w) -> z.search(0, w), 6, 4, 0, 3, 2, 2);
        rowOfVertices("name(0, 6 and k)", k -> z.name(0, 6 + k), 0, 0, 3, 1, 1, 3, 1, 0, 1, 1, 1, 0, 0, 0, 3);
        rowOfVertices("place(0, k)", k -> z.place(0, k), 4, 2, 3, 5, 1, 0);
    }

    private static void rowOfVertices(String call, IntUnaryOperator c, int... want) {
        for (int i = 0; i < want.length; i++) {
            due(call + " with " + i, c.applyAsInt(i), want[i]);
        }
    }

    /** Whatever was asked of a graph ahead of an act doesn't tell behind it. */
    private static void askedAgain() {
        String[] firsts = {"size 7;ring 0 1 2;ring 3 4 5 6", "size 6", "size 7", "size 2;link 0 1", "size 7;ring 0 4 5 6;ring 1 2 3"};
        Call[] changes = {
            (x, n) -> read(x, 0, "size 7;ring 0 1 2 3;ring 4 5 6"), (x, n) -> read(x, 0, "size 1"), (x, n) -> x.link(0, 0, 1, 2),
            (x, n) -> x.link(0, x.graph(0, 0) - 1, x.graph(0, 0) - 2, 0), (x, n) -> x.paint(0, 0, 1),
            (x, n) -> x.paint(0, x.graph(0, 0) - 1, 9), (x, n) -> x.swap(0, 0, 1), (x, n) -> x.shuffle(0, 4711),
            (x, n) -> x.copy(2, 0), (x, n) -> x.turn(0), (x, n) -> x.drop(0, 0), (x, n) -> x.drop(0, x.graph(0, 0) - 1),
            (x, n) -> x.grow(0, 0, 0), (x, n) -> x.grow(0, 1, 1), (x, n) -> x.undo(), (x, n) -> told(x.again(0)),
        };
        for (String first : firsts) {
            for (int i = 0; i < changes.length; i++) {
                GraphNames x = new GraphNames();
                x.image(0);
                read(x, 0, first);
                asked(x);
                changes[i].on(x, 0);
                GraphNames y = new GraphNames();
                y.image(0);
                read(y, 0, first);
                changes[i].on(y, 0);
                holds(i < 14 ? 14 : 38, "what is told of a GRAPH is told of it as it is now");
                due("all that is told of '" + first + "' behind change " + i, asked(x), asked(y));
            }
        }
    }

    private static String asked(GraphNames x) {
        StringBuilder s = new StringBuilder();
        for (int what = 0; what < 6; what++) {
            s.append(x.tree(0, what)).append(' ').append(x.search(0, what)).append(' ').append(x.start(0, what)).append(' ');
        }
        int n = x.graph(0, 0);
        for (int k = 0; k < n * (n + 1) / 2; k++) {
            s.append(x.name(0, k));
        }
        for (int v = 0; v < n; v++) {
            s.append(' ').append(x.place(0, v)).append(' ').append(x.orbit(0, v));
            for (int i = 0; i < 6; i++) {
                s.append(' ').append(x.generator(0, i, v));
            }
        }
        return s.append(' ').append(x.cards(0, 0)).append(x.cards(0, 1)).append(x.turned(0)).append(x.fewest(0)).toString();
    }

    private static void names() {
        GraphNames x = with("size 1;paint 0 9", "size 7;paint 3 1;link 0 6 3", "size 2;link 0 1 3;paint 0 1");
        holds(15, "Number k of THE NAME: the first, the last");
        fine("name(0, 0)", x, x.name(0, 0), 9);
        // 1 2 4 5 | 0 6 | 3: COLOURS, then the KIND of 0 and 6 is number 7 + 6 + 5 + 4 + 3 of all, that ahead of the last two
        int[] name = new int[28];
        name[6] = 1;
        name[7 + 6 + 5 + 4 + 3] = 3;
        for (int k = 0; k < 28; k++) {
            fine("name(1, " + k + ")", x, x.name(1, k), name[k]);
        }
        fine("name(2, 2)", x, x.name(2, 2), 3);
        fine("name(2, 1)", x, x.name(2, 1), 1);
        holds(16, "The VERTEX in PLACE k: the first, the last");
        int[] places = {1, 2, 4, 5, 0, 6, 3};
        for (int k = 0; k < 7; k++) {
            fine("place(1, " + k + ")", x, x.place(1, k), places[k]);
        }
        fine("place(0, 0)", x, x.place(0, 0), 0);
        fine("place(2, 0)", x, x.place(2, 0), 1);
        fine("place(2, 1)", x, x.place(2, 1), 0);
        holds(17, "(of two with unlike V that with less): one less, the most and the least");
        fine("less(0, 2)", x, x.less(0, 2), 0);
        fine("less(2, 0)", x, x.less(2, 0), 1);
        fine("less(1, 0)", x, x.less(1, 0), 1);
        fine("less(0, 1)", x, x.less(0, 1), 0);
        holds(17, "the lesser NAME: by its first number, by its last; 2 they are alike; a GRAPH and itself");
        for (int g = 0; g < 3; g++) {
            fine("less(g, g)", x, x.less(g, g), 2);
        }
        GraphNames y = with("size 7;paint 3 1;link 0 6 3", "size 7;paint 2 1;link 1 0 3", "size 7;paint 3 1;link 0 6 2");
        fine("less(0, 1)", y, y.less(0, 1), 2);
        fine("less(0, 2)", y, y.less(0, 2), 1);
        fine("less(2, 0)", y, y.less(2, 0), 0);
        GraphNames z = with("size 2;link 0 1 2", "size 2;link 0 1 3", "size 2;paint 0 1;paint 1 1");
        fine("less(0, 1): the last number", z, z.less(0, 1), 0);
        fine("less(1, 0): the last number", z, z.less(1, 0), 1);
        fine("less(1, 2): the first number", z, z.less(1, 2), 0);
    }

    private static void symmetries() {
        GraphNames x = with("size 1", "size 7", "size 7;path 0 1 2 3 4 5 6;paint 0 1");
        holds(19, "How many SYMMETRIES, ORBITS, VERTICES that each leaves: one VERTEX; all alike; none alike");
        tellsAll("symmetries of one VERTEX", (n, w) -> x.symmetries(0, w), 1, 1, 1);
        tellsAll("symmetries of 7, none linked", (n, w) -> x.symmetries(1, w), 5040, 1, 0);
        tellsAll("symmetries of 7 that are unlike", (n, w) -> x.symmetries(2, w), 1, 7, 7);
        holds(20, "ORBIT of a VERTEX (bits): itself, all");
        fine("orbit(0, 0)", x, x.orbit(0, 0), 1);
        for (int v = 0; v < 7; v++) {
            fine("orbit(1, " + v + ")", x, x.orbit(1, v), 127);
            fine("orbit(2, " + v + ")", x, x.orbit(2, v), 1 << v);
        }
        holds(21, "How many SYMMETRIES leave each of some VERTICES (bits) where it is: of none, of one, of all");
        fine("leave(0, 0)", x, x.leave(0, 0), 1);
        fine("leave(0, 1)", x, x.leave(0, 1), 1);
        int[] left = {5040, 720, 120, 24, 6, 2, 1, 1};
        for (int i = 0; i <= 7; i++) {
            fine("leave(1, " + ((1 << i) - 1) + ")", x, x.leave(1, (1 << i) - 1), left[i]);
            fine("leave(1, " + (127 - ((1 << i) - 1)) + ")", x, x.leave(1, 127 - ((1 << i) - 1)), left[7 - i]);
        }
        fine("leave(2, 0)", x, x.leave(2, 0), 1);
        fine("leave(2, 127)", x, x.leave(2, 127), 1);
    }

    private static void twoGraphs() {
        GraphNames x = with("size 7", "size 7", "size 6");
        holds(22, "how many (0 with unlike V, too); of one GRAPH to itself");
        fine("maps(0, 1)", x, x.maps(0, 1), 5040);
        fine("maps(1, 1)", x, x.maps(1, 1), 5040);
        fine("maps(0, 2)", x, x.maps(0, 2), 0);
        fine("maps(2, 0)", x, x.maps(2, 0), 0);
        holds(23, "the least MAP: each VERTEX to itself, or as far as it can be");
        for (int v = 0; v < 7; v++) {
            fine("map(0, 1, " + v + ")", x, x.map(0, 1, v), v);
        }
        refused("map(0, 2, 6)", x, x.map(0, 2, 6), 6);
        refused("map(2, 0, 5)", x, x.map(2, 0, 5), 6);
        x.paint(0, 0, 1);
        x.paint(1, 6, 1);
        for (int v = 0; v < 7; v++) {
            fine("map(0, 1, " + v + ")", x, x.map(0, 1, v), v == 0 ? 6 : v - 1);
        }
        holds(24, "the fewest COLOURS and KINDS that are not alike, together: none, all 28");
        fine("changes(0, 1)", x, x.changes(0, 1), 0);
        GraphNames y = with("size 7", "size 7;paint 0 1;paint 1 1;paint 2 1;paint 3 1;paint 4 1;paint 5 1;paint 6 1", "size 6");
        fine("changes(0, 1): COLOURS", y, y.changes(0, 1), 7);
        y.turn(1);
        fine("changes(0, 1): all", y, y.changes(0, 1), 28);
        y.link(1, 5, 6, 0);
        fine("changes(0, 1): all but one", y, y.changes(0, 1), 27);
        fine("changes(1, 1)", y, y.changes(1, 1), 0);
        refused("changes(0, 2)", y, y.changes(0, 2), 5);
        refused("changes(2, 0)", y, y.changes(2, 0), 5);
        GraphNames one = with("size 1", "size 1;paint 0 3", "size 2");
        fine("changes(0, 1) of one VERTEX", one, one.changes(0, 1), 1);
        fine("changes(0, 0) of one VERTEX", one, one.changes(0, 0), 0);
        fine("maps(0, 1) of one VERTEX", one, one.maps(0, 1), 0);
        refused("changes(0, 2)", one, one.changes(0, 2), 5);
        toldApart(one);
    }

    private static void toldApart(GraphNames one) {
        holds(25, "By which ROUND two GRAPHS are TOLD APART; -2: by none: 0, the latest, none");
        fine("told(0, 1) of one VERTEX", one, one.told(0, 1), 0);
        fine("told(0, 0) of one VERTEX", one, one.told(0, 0), -2);
        refused("told(0, 2)", one, one.told(0, 2), 5);
        GraphNames x = with("size 7;link 0 2;link 0 4;link 1 5;link 1 6;link 2 3;link 3 5;link 3 6;link 4 5;link 4 6",
            "size 7;link 0 2;link 0 5;link 1 4;link 1 6;link 2 3;link 3 4;link 3 5;link 4 6;link 5 6", "size 7");
        fine("told(0, 1): as late as the plain program tells", x, x.told(0, 1), 4);
        fine("told(1, 0)", x, x.told(1, 0), 4);
        fine("told(0, 2)", x, x.told(0, 2), 1);
        fine("told(2, 2)", x, x.told(2, 2), -2);
        x.copy(2, 1);
        x.turn(2);
        fine("told(1, 2): no ROUND divides either of them", x, x.told(1, 2), 1);
        x.paint(2, 6, 1);
        fine("told(1, 2): COLOURS", x, x.told(1, 2), 0);
        holds(25, "0, if COLOURS are not alike (how many of each)");
        GraphNames y = with("size 3;paint 0 1", "size 3;paint 0 2", "size 3;paint 0 1;paint 1 1");
        fine("told(0, 1): other COLOURS", y, y.told(0, 1), 0);
        fine("told(0, 2): as many COLOURS, of each not as many", y, y.told(0, 2), 0);
        y.paint(1, 0, 0);
        y.paint(1, 2, 1);
        fine("told(0, 1)", y, y.told(0, 1), -2);
        holds(25, "alike: for each SIGN, as it is ahead of that ROUND, as many VERTICES have it in both");
        GraphNames z = with("size 6;ring 0 1 2 3 4 5", "size 6;ring 0 1 2;ring 3 4 5", "size 6;link 0 1;link 2 3;link 4 5");
        fine("told(0, 1): the same SIGNS", z, z.told(0, 1), -2);
        fine("told(0, 2): other SIGNS", z, z.told(0, 2), 1);
        z.link(2, 0, 1, 2);
        z.link(0, 0, 1, 0);
        read(z, 1, "size 6;path 0 1 2 3 4;link 0 5 2");
        fine("told(0, 1): another KIND", z, z.told(0, 1), 1);
    }

    private static void cardsAndTurned() {
        GraphNames x = with("size 2;link 0 1", "size 7", "size 7;paint 0 6;paint 1 1;paint 2 2;paint 3 3;paint 4 4;paint 5 5");
        holds(26, "How many unlike NAMES the CARDS have, how many CARDS have that of CARD 0: V is 2; all alike; none alike");
        tellsAll("cards of two", (n, w) -> x.cards(0, w), 1, 2);
        tellsAll("cards of 7, none linked", (n, w) -> x.cards(1, w), 1, 7);
        tellsAll("cards of 7 COLOURS", (n, w) -> x.cards(2, w), 7, 1);
        x.paint(0, 0, 1);
        tellsAll("cards of two of unlike COLOURS", (n, w) -> x.cards(0, w), 2, 1);
        x.paint(1, 6, 1);
        tellsAll("cards, the last one unlike", (n, w) -> x.cards(1, w), 2, 6);
        x.swap(1, 0, 6);
        tellsAll("cards, the first one unlike", (n, w) -> x.cards(1, w), 2, 1);
        holds(27, "Whether a GRAPH, TURNED, is alike to what it was (1, 0): one VERTEX, two, seven");
        GraphNames y = with("size 1;paint 0 3", "size 2", "size 7");
        fine("turned(0)", y, y.turned(0), 1);
        for (int k = 0; k <= 3; k++) {
            y.link(1, 0, 1, k);
            fine("turned(1) with KIND " + k, y, y.turned(1), 0);
        }
        fine("turned(2): 21 can't be halved", y, y.turned(2), 0);
        read(y, 2, "size 5;ring 0 1 2 3 4");
        fine("turned(2)", y, y.turned(2), 1);
        due("turned() leaves the GRAPH as it is", picture(y, 2), "5|00000|1001100101");
        holds(27, "KINDS 0 and 1, 2 and 3 change");
        read(y, 2, "size 4;link 0 1 2;link 1 2 2;link 2 3 2;link 0 2 3;link 0 3 3;link 1 3 3");
        fine("turned(2)", y, y.turned(2), 1);
        read(y, 2, "size 4;link 0 1 2;link 1 2 2;link 2 3 2");
        fine("turned(2)", y, y.turned(2), 0);
    }

    private static void bases() {
        GraphNames x = with("size 1", "size 7", "size 7;paint 0 6;paint 1 1;paint 2 2;paint 3 3;paint 4 4;paint 5 5");
        holds(28, "How many CELLS there are, if some VERTICES (bits) are made a CELL alone: none, all, one that is alone already");
        fine("base(0, 0)", x, x.base(0, 0), 1);
        fine("base(0, 1)", x, x.base(0, 1), 1);
        int[] cells = {1, 2, 3, 4, 5, 6, 7, 7};
        for (int i = 0; i <= 7; i++) {
            fine("base(1, " + ((1 << i) - 1) + ")", x, x.base(1, (1 << i) - 1), cells[i]);
            fine("base(1, " + (127 - ((1 << i) - 1)) + ")", x, x.base(1, 127 - ((1 << i) - 1)), cells[7 - i]);
        }
        fine("base(2, 0)", x, x.base(2, 0), 7);
        fine("base(2, 127)", x, x.base(2, 127), 7);
        holds(28, "all is REFINED at last");
        GraphNames y = with("size 7;path 0 1 2 3 4 5 6", "size 6;ring 0 1 2 3 4 5", "size 2");
        fine("base(0, 0)", y, y.base(0, 0), 4);
        fine("base(0, 8): alone already", y, y.base(0, 8), 4);
        fine("base(0, 32)", y, y.base(0, 32), 7);
        fine("base(1, 9)", y, y.base(1, 9), 4);
        fine("base(1, 21): every other one", y, y.base(1, 21), 6);
        holds(29, "The fewest VERTICES (bits, of like ones the least number): none, one, all but one");
        fine("fewest(0)", x, x.fewest(0), 0);
        fine("fewest(1)", x, x.fewest(1), 63);
        fine("fewest(2)", x, x.fewest(2), 0);
        fine("fewest(0) of a path", y, y.fewest(0), 1);
        fine("fewest(1) of a ring", y, y.fewest(1), 3);
        fine("fewest(2) of two", y, y.fewest(2), 1);
        GraphNames z = with("size 6;link 0 1;link 2 3;link 4 5", "size 4;paint 3 1;link 3 1 2", "size 7;paint 0 1;link 5 6");
        fine("fewest(0): one of each pair", z, z.fewest(0), 5 + 16);
        fine("fewest(1): 0 or 2", z, z.fewest(1), 1);
        fine("fewest(2): two of 1 2 3 4, one of 5 6", z, z.fewest(2), 2 + 4 + 8 + 32);
        z.swap(2, 0, 6);
        fine("fewest(2)", z, z.fewest(2), 1 + 2 + 4 + 8);
    }

    // ---- acts

    private static void acts() {
        holds(30, "KIND of two VERTICES becomes k (0 .. 3): what it was");
        GraphNames x = with("size 7", "size 2");
        for (int was = 0; was <= 3; was++) {
            for (int k = 0; k <= 3; k++) {
                x.link(0, 0, 6, was);
                fine("link(0, 6, 0, " + k + ")", x, x.link(0, 6, 0, k), was);
                fine("kind(0, 0, 6)", x, x.kind(0, 0, 6), k);
                due("row(0, 0)", row(x, 0, 0), k == 0 ? 0 : 64);
                for (int d = 1; d <= 3; d++) {
                    fine("degree(0, 6, " + d + ")", x, x.degree(0, 6, d), k == d ? 1 : 0);
                }
            }
        }
        holds(31, "COLOUR of a VERTEX becomes c (0 .. 9): what it was");
        GraphNames y = with("size 7");
        fine("paint(0, 6, 9)", y, y.paint(0, 6, 9), 0);
        fine("paint(0, 6, 9): what it is already", y, y.paint(0, 6, 9), 9);
        fine("paint(0, 6, 0)", y, y.paint(0, 6, 0), 9);
        fine("paint(0, 0, 1)", y, y.paint(0, 0, 1), 0);
        due("the graph", picture(y, 0), "7|1000000|" + "0".repeat(21));
        holds(32, "two VERTICES change numbers: how many are linked with both: none, all");
        GraphNames z = with(ALL_THREE, "size 7;link 0 6 3;paint 0 1;paint 6 2", "size 2;paint 0 4;link 0 1 2");
        fine("swap(0, 0, 6)", z, z.swap(0, 0, 6), 5);
        due("the graph", picture(z, 0), "7|0000000|" + "3".repeat(21));
        fine("swap(1, 6, 0): linked with one another alone", z, z.swap(1, 6, 0), 0);
        due("the graph", picture(z, 1), "7|2000001|000003" + "0".repeat(15));
        agrees("swap(0, 0, 6)", z, 0);
        fine("swap(2, 0, 1)", z, z.swap(2, 0, 1), 0);
        due("the graph", picture(z, 2), "2|04|2");
        holds(34, "GRAPH h becomes as GRAPH g is: V: the most, the least");
        GraphNames c = with("size 7;ring 0 5 6;paint 6 1", "size 1;paint 0 9");
        fine("copy(1, 0)", c, c.copy(1, 0), 1);
        due("the graphs", pictures(c), "1|9| 1|9| 1|0|");
        c.undo();
        fine("copy(0, 2)", c, c.copy(0, 2), 7);
        due("the graph", picture(c, 2), picture(c, 0));
        c.grow(1, 1, 1);
        fine("copy(2, 1)", c, c.copy(2, 1), 7);
        due("the graph", picture(c, 1), picture(c, 0));
        holds(35, "a GRAPH is TURNED: its links then: none, all");
        GraphNames t = with("size 1;paint 0 2", "size 7;paint 1 2", "size 2;link 0 1 2");
        fine("turn(0)", t, t.turn(0), 0);
        due("the graph", picture(t, 0), "1|2|");
        fine("turn(1)", t, t.turn(1), 21);
        due("the graph", picture(t, 1), "7|0200000|" + "1".repeat(21));
        agrees("turn(1)", t, 1);
        fine("turn(1)", t, t.turn(1), 0);
        fine("turn(2): KIND 2", t, t.turn(2), 1);
        fine("kind(2, 0, 1)", t, t.kind(2, 0, 1), 3);
        fine("turn(2): KIND 3", t, t.turn(2), 1);
        fine("kind(2, 0, 1)", t, t.kind(2, 0, 1), 2);
    }

    private static void shuffles() {
        holds(33, "by a seed 1 .. 2147483646: x becomes 48271 x modulo 2147483647 (it wraps around no int)");
        int[] seeds = {1, 2, 2147483645, 2147483646};
        // which number stands where then, and how many changes were of unlike ones; reckoned with numbers without a bound
        String[] colours = {"5234106", "2413605", "4560213", "4306512"};
        int[] unlike = {4, 5, 5, 6};
        for (int i = 0; i < 4; i++) {
            GraphNames x = with("size 7;paint 1 1;paint 2 2;paint 3 3;paint 4 4;paint 5 5;paint 6 6;link 0 1 3", "size 2;paint 0 1", "size 1;paint 0 1");
            fine("shuffle(0, " + seeds[i] + ")", x, x.shuffle(0, seeds[i]), unlike[i]);
            due("the COLOURS", picture(x, 0).substring(2, 9), colours[i]);
            fine("the KIND of 0 and 1 goes with them", x, x.kind(0, colours[i].indexOf('0'), colours[i].indexOf('1')), 3);
            holds(33, "for i from V less 1 down to 1: V is 2, V is 1");
            fine("shuffle(1, " + seeds[i] + ")", x, x.shuffle(1, seeds[i]), i % 2);
            due("the graph", picture(x, 1), i % 2 == 1 ? "2|01|0" : "2|10|0");
            fine("shuffle(2, " + seeds[i] + ")", x, x.shuffle(2, seeds[i]), 0);
            due("the graph", picture(x, 2), "1|1|");
            holds(33, "ACT: also if nothing changes");
            due("undo()", x.undo(), 5);
        }
    }

    private static void sizes() {
        GraphNames x = with("size 7;paint 0 1;paint 6 9;path 0 1 2 3 4 5 6;link 0 6 3");
        holds(36, "a GRAPH becomes CARD v: V then: the last VERTEX, the first, down to one");
        fine("drop(0, 6): the last", x, x.drop(0, 6), 6);
        due("the graph", picture(x, 0), "6|100000|100001000100101");
        refused("colour(0, 6)", x, x.colour(0, 6), 1);
        due("row(0, 6)", row(x, 0, 6), NONE);
        agrees("drop(0, 6)", x, 0);
        x.undo();
        fine("drop(0, 0): the first", x, x.drop(0, 0), 6);
        due("the graph", picture(x, 0), "6|000009|100001000100101");
        agrees("drop(0, 0)", x, 0);
        for (int v = 5; v >= 1; v--) {
            fine("drop(0, 0)", x, x.drop(0, 0), v);
        }
        due("the graph", picture(x, 0), "1|9|");
        refused("drop(0, 0) of one", x, x.drop(0, 0), 5);
        due("the graph", picture(x, 0), "1|9|");
        holds(37, "a VERTEX more, linked by KIND 1 with some (bits), of a COLOUR (0 .. 9): V then: none, all, up to 7");
        for (int v = 2; v <= 7; v++) {
            fine("grow(0, all, 0)", x, x.grow(0, (1 << v - 1) - 1, 0), v);
        }
        due("the graph", picture(x, 0), "7|9000000|" + "1".repeat(21));
        refused("grow(0, 0, 0) of 7", x, x.grow(0, 0, 0), 5);
        refused("grow(0, 127, 9) of 7", x, x.grow(0, 127, 9), 5);
        due("the graph", picture(x, 0), "7|9000000|" + "1".repeat(21));
        x.drop(0, 6);
        fine("grow(0, 0, 9): linked with none, where one was that was linked", x, x.grow(0, 0, 9), 7);
        due("the graph", picture(x, 0), "7|9000009|111110111101110110100");
        agrees("grow(0, 0, 9)", x, 0);
        x.drop(0, 3);
        fine("grow(0, 32, 0): with the last alone", x, x.grow(0, 32, 0), 7);
        due("the graph", picture(x, 0), "7|9000090|111100111001100100001");
        GraphNames y = with("size 7;ring 0 2 6;ring 1 3 5", "size 3");
        y.turn(0);
        y.copy(1, 0);
        fine("grow(0, 5, 1)", y, y.grow(0, 5, 1), 4);
        due("the graph: nothing is left of a larger one", picture(y, 0), "4|0001|001001");
        agrees("grow(0, 5, 1)", y, 0);
    }

    // ---- what can be undone

    private static void undone() {
        holds(38, "the latest 8 that weren't refused can be undone, the latest first");
        for (int made = 0; made <= 26; made++) {
            GraphNames x = new GraphNames();
            for (int i = 1; i <= made; i++) {
                x.paint(i % 3, 0, i % 10);
            }
            int can = Math.min(made, 8);
            for (int i = 1; i <= can; i++) {
                fine("undo() number " + i + " of " + made + " ACTS", x, x.undo(), can - i);
                for (int g = 0; g < 3; g++) {
                    int latest = made - i;
                    while (latest > 0 && latest % 3 != g) {
                        latest--;
                    }
                    due("the COLOUR of " + g, x.colour(g, 0), latest % 10);
                }
            }
            String then = pictures(x);
            refused("undo() of more than there are of " + made, x, x.undo(), 5);
            due("the graphs", pictures(x), then);
        }
        holds(38, "ACTS (calls that say so), a TEXT is one, too: each of them, and no other call");
        Call[] each = {
            (x, n) -> read(x, 1, "size 2"), (x, n) -> x.link(1, 0, 2, 3), (x, n) -> x.paint(1, 2, 9), (x, n) -> x.swap(1, 0, 1),
            (x, n) -> x.shuffle(1, 2), (x, n) -> x.copy(0, 1), (x, n) -> x.turn(1), (x, n) -> x.drop(1, 0), (x, n) -> x.grow(1, 2, 3),
        };
        for (int i = 0; i < each.length; i++) {
            GraphNames x = scene();
            String then = pictures(x);
            due("ACT " + i + " isn't refused", each[i].on(x, 0) != NONE, true);
            due("ACT " + i + " changes something", pictures(x).equals(then), false);
            fine("undo() of ACT " + i, x, x.undo(), 7);
            due("the graphs behind ACT " + i, pictures(x), then);
            fine("undo() of the ACT ahead", x, x.undo(), 6);
        }
        askingIsNoAct();
    }

    private static void askingIsNoAct() {
        Call[] asking = {
            (x, n) -> x.graph(0, 2), (x, n) -> x.colour(0, 1), (x, n) -> x.kind(0, 0, 1), (x, n) -> x.degree(0, 1, 1),
            (x, n) -> x.start(0, 0), (x, n) -> x.cell(1, 1), (x, n) -> x.apart(1, 1, 1), (x, n) -> x.tree(1, 4),
            (x, n) -> x.search(1, 0), (x, n) -> x.name(1, 2), (x, n) -> x.place(1, 2), (x, n) -> x.less(0, 1),
            (x, n) -> x.generator(1, 0, 1), (x, n) -> x.symmetries(1, 0), (x, n) -> x.orbit(1, 1), (x, n) -> x.leave(1, 1),
            (x, n) -> x.maps(0, 0), (x, n) -> x.map(0, 0, 0), (x, n) -> x.changes(1, 1), (x, n) -> x.told(1, 1),
            (x, n) -> x.cards(1, 0), (x, n) -> x.turned(1), (x, n) -> x.base(1, 2), (x, n) -> x.fewest(1), (x, n) -> row(x, 0, 0),
            (x, n) -> x.size(), (x, n) -> x.fault(), (x, n) -> x.where(), (x, n) -> x.trouble(), (x, n) -> told(x.image(0)),
        };
        for (int i = 0; i < asking.length; i++) {
            GraphNames x = scene();
            String then = pictures(x);
            asking[i].on(x, 0);
            due("the graphs behind call " + i, pictures(x), then);
            due("undo() behind call " + i, x.undo(), 7);
            if (i < asking.length - 1) {
                x = scene();
                asking[i].on(x, 0);
                due("all behind call " + i, all(x), SCENE);
            }
        }
    }

    private static String colours(GraphNames x) {
        return x.colour(0, 0) + " " + x.colour(1, 0) + " " + x.colour(2, 0);
    }

    private static void undoneTwice() {
        holds(38, "how many still can be: ACTS behind undone ones count anew");
        GraphNames x = new GraphNames();
        String[] then = new String[40];
        int made = 0;
        int can = 0;
        // acts and undone ones by turns, more than there is room for
        int[] turns = {8, -3, 2, -7, 1, -1, 9, -8, 12, -5, 4, -7};
        for (int t : turns) {
            for (int i = 0; i < t; i++) {
                then[made] = colours(x);
                made++;
                can = Math.min(can + 1, 8);
                x.paint(made % 3, 0, (made + t) % 10);
            }
            for (int i = 0; i < -t; i++) {
                made--;
                can--;
                fine("undo()", x, x.undo(), can);
                due("the COLOURS", colours(x), then[made]);
            }
        }
        refused("undo()", x, x.undo(), 5);
        holds(38, "those that weren't refused: refused ones between them are not counted");
        GraphNames y = new GraphNames();
        y.paint(0, 0, 5);
        for (int i = 0; i < 9; i++) {
            y.paint(0, 0, 10);
            y.link(0, 0, 0, 1);
            y.grow(0, 2, 0);
            y.drop(1, 0);
            y.copy(1, 1);
            y.shuffle(0, 0);
            y.turn(3);
            y.swap(0, 0, 0);
            y.text(0, 0);
        }
        fine("undo()", y, y.undo(), 0);
        due("the graph", picture(y, 0), "1|0|");
        holds(38, "The latest ACT is undone: THE TAPE and fault() stay");
        GraphNames z = with("size 3;link 0 1");
        put(z, "size 2");
        fine("undo() of a TEXT", z, z.undo(), 0);
        due("size()", z.size(), 20);
        due("the graph", picture(z, 0), "1|0|");
    }

    private static void images() {
        holds(39, "IMAGES 0, 1 keep all three GRAPHS");
        GraphNames x = with("size 7;ring 0 5 6 4;paint 6 2", "size 2;link 0 1 2", "size 4;paint 0 7");
        String first = pictures(x);
        due("image(0)", x.image(0), true);
        due("trouble()", x.trouble(), 0);
        due("undo() behind it", x.undo(), 2);
        for (int i = 0; i < 12; i++) {
            x.grow(i % 3, 0, 1);
            x.paint(i % 3, 0, i % 10);
        }
        String second = pictures(x);
        due("image(1)", x.image(1), true);
        x.drop(0, 1);
        x.turn(1);
        x.copy(1, 2);
        holds(40, "BACK TO one (it stays) they are as then, no ACT can be undone");
        for (int i = 0; i < 2; i++) {
            due("again(0)", x.again(0), true);
            due("trouble()", x.trouble(), 0);
            due("the graphs", pictures(x), first);
            refused("undo()", x, x.undo(), 5);
            due("again(1)", x.again(1), true);
            due("the graphs", pictures(x), second);
            refused("undo()", x, x.undo(), 5);
            x.turn(0);
            x.drop(1, 0);
            x.paint(2, 0, 3);
            due("undo() of ACTS behind it", x.undo(), 2);
        }
        moreImages();
    }

    private static void moreImages() {
        holds(39, "IMAGE i is kept: again, in place of what was kept");
        GraphNames x = with("size 3");
        x.image(0);
        x.paint(0, 0, 1);
        x.image(0);
        x.paint(0, 0, 2);
        due("again(0)", x.again(0), true);
        due("colour(0, 0)", x.colour(0, 0), 1);
        holds(40, "false: 1 (it wasn't kept, too): one is kept, the other one isn't");
        due("again(1)", x.again(1), false);
        due("trouble()", x.trouble(), 1);
        GraphNames y = with("size 3");
        y.image(1);
        y.paint(0, 0, 1);
        due("again(0)", y.again(0), false);
        due("trouble()", y.trouble(), 1);
        due("colour(0, 0) stays", y.colour(0, 0), 1);
        due("undo() behind it", y.undo(), 1);
        due("again(1)", y.again(1), true);
        due("colour(0, 0)", y.colour(0, 0), 0);
        holds(39, "false: 1: nothing is kept");
        GraphNames z = with("size 3");
        due("image(2)", z.image(2), false);
        due("image(-1)", z.image(-1), false);
        due("again(0)", z.again(0), false);
        due("again(1)", z.again(1), false);
        holds(40, "BACK TO it: THE TAPE and fault() stay");
        z.image(0);
        read(z, 0, "size 3;x");
        z.feed(1, 2, 3, 4, 5);
        z.again(0);
        due("size()", z.size(), 20);
        due("fault()", z.fault(), 1);
        holds(40, "no ACT can be undone: of those behind it all eight");
        for (int i = 1; i <= 9; i++) {
            z.paint(0, 0, i);
        }
        due("undo()", z.undo(), 7);
        z.again(0);
        for (int i = 1; i <= 8; i++) {
            z.paint(0, 1, i);
        }
        for (int i = 7; i >= 0; i--) {
            due("undo()", z.undo(), i);
            due("colour(0, 1)", z.colour(0, 1), i);
        }
        refused("undo()", z, z.undo(), 5);
    }

    // ---- rows

    private static void rows() {
        holds(41, "NoSuchElementException if there is none such: no such GRAPH");
        for (int g : new int[] {-1, 3, 4, 32, 256, Integer.MIN_VALUE, Integer.MAX_VALUE}) {
            GraphNames x = scene();
            due("row(" + g + ", 0) throws", row(x, g, 0), NONE);
            due("row(" + g + ", 7) throws", row(x, g, 7), NONE);
            due("trouble() stays", x.trouble(), 4);
            due("all else", all(x), SCENE);
        }
        for (int g = 0; g < 3; g++) {
            due("row(" + g + ", 0) is told", row(scene(), g, 0) != NONE, true);
        }
        holds(42, "Bytes of THE TAPE: none, twenty more by each feed, none behind a text, also one with a FAULT");
        GraphNames x = new GraphNames();
        due("size()", x.size(), 0);
        x.feed(0, 0, 0, 0, 0);
        due("size()", x.size(), 20);
        x.text(3, 20);
        x.text(0, 21);
        due("size() behind texts refused by 1 and 2", x.size(), 20);
        x.text(0, 20);
        due("size() behind a text with a FAULT", x.size(), 0);
        read(x, 0, "size 2");
        due("size() behind a text", x.size(), 0);
    }

    private static void troubles() {
        holds(43, "TROUBLE of the latest call that may be refused: 0 it wasn't");
        GraphNames x = new GraphNames();
        due("trouble() ahead of any", x.trouble(), 0);
        Call[] refused = {
            (y, n) -> y.graph(3, 0), (y, n) -> y.degree(0, 0, 4), (y, n) -> y.text(0, 0), (y, n) -> y.kind(0, 0, 0),
            (y, n) -> y.name(0, 1), (y, n) -> told(y.image(2)), (y, n) -> told(y.again(0)),
        };
        int[] troubles = {1, 2, 4, 5, 6, 1, 1};
        for (int i = 0; i < refused.length; i++) {
            due("call " + i, refused[i].on(x, 0), NONE);
            due("trouble() of call " + i, x.trouble(), troubles[i]);
            due("trouble() again", x.trouble(), troubles[i]);
            x.feed(0, 0, 0, 0, 0);
            x.size();
            x.fault();
            x.where();
            row(x, 0, 0);
            row(x, 0, 1);
            holds(43, "(those of which a number is told here): others leave it");
            due("trouble() behind other calls", x.trouble(), troubles[i]);
            holds(43, "TROUBLE of the latest call that may be refused: 0 it wasn't");
            x.colour(0, 0);
            due("trouble() of a call that wasn't", x.trouble(), 0);
        }
        answers();
    }

    /** An answer that isn't refused makes trouble 0, whatever it was. */
    private static void answers() {
        Call[] each = {
            (x, n) -> x.text(0, 17), (x, n) -> x.graph(0, 3), (x, n) -> x.colour(0, 6), (x, n) -> x.kind(0, 6, 0),
            (x, n) -> x.degree(0, 6, 3), (x, n) -> x.start(0, 3), (x, n) -> x.cell(0, 6), (x, n) -> x.apart(1, 2, 1),
            (x, n) -> x.tree(0, 4), (x, n) -> x.search(0, 5), (x, n) -> x.name(0, 27), (x, n) -> x.place(0, 6),
            (x, n) -> x.less(1, 0), (x, n) -> x.generator(1, 0, 2), (x, n) -> x.symmetries(0, 2), (x, n) -> x.orbit(0, 6),
            (x, n) -> x.leave(0, 127), (x, n) -> x.maps(0, 1), (x, n) -> x.map(0, 0, 6), (x, n) -> x.changes(0, 0),
            (x, n) -> x.told(0, 0), (x, n) -> x.cards(0, 1), (x, n) -> x.turned(0), (x, n) -> x.base(0, 127),
            (x, n) -> x.fewest(0), (x, n) -> x.link(0, 0, 1, 0), (x, n) -> x.paint(0, 0, 9), (x, n) -> x.swap(0, 0, 6),
            (x, n) -> x.shuffle(0, 2147483646), (x, n) -> x.copy(0, 2), (x, n) -> x.turn(0), (x, n) -> x.drop(0, 6),
            (x, n) -> x.grow(2, 1, 9), (x, n) -> x.undo(), (x, n) -> told(x.image(1)), (x, n) -> told(x.again(0)),
        };
        for (int i = 0; i < each.length; i++) {
            GraphNames x = scene();
            x.kind(0, 0, 0);
            due("call " + i + " isn't refused", each[i].on(x, 0) != NONE, true);
            due("trouble() of call " + i, x.trouble(), 0);
            due("where() of call " + i, x.where(), NONE);
            x = scene();
            each[i].on(x, 0);
            due("trouble() of call " + i + " behind a FAULT", x.trouble(), 0);
            due("where() of call " + i + " behind a FAULT", x.where(), NONE);
        }
    }

    private static void lastCall() {
        holds(1, "An object is used for at most 512 calls: the last of them");
        GraphNames x = new GraphNames();
        for (int call = 1; call < CALLS; call++) {
            int got = x.paint(call % 3, 0, call % 10);
            int want = call > 3 ? (call - 3) % 10 : 0;
            if (got != want) {
                due("call " + call, got, want);
            }
        }
        due("call 512, undo()", x.undo(), 7);
        int[] dear = new int[CALLS];
        GraphNames y = new GraphNames();
        read(y, 0, "size 7");
        for (int call = 4; call < CALLS; call += 2) {
            y.turn(0);
            dear[call] = y.search(0, 0);
        }
        due("the dearest calls", Arrays.stream(dear).max().getAsInt(), 63);
    }
}
