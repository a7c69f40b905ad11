import java.util.NoSuchElementException;

/** For each promise, by its number, small examples worked out by hand: ordinary ones, edges, wrong inputs. */
public final class GraphNamesPromises {
    private static final int NONE = GraphNames.NONE;
    private static int wrong = 0;
    private static int asked = 0;
    private static int promise = 0;

    private static void due(String call, long got, long want) {
        asked++;
        if (got != want) {
            wrong++;
            System.out.println("promise " + promise + ": " + call + " answered " + got + ", due is " + want);
        }
    }

    private static void due(String call, boolean got, boolean want) {
        due(call, got ? 1 : 0, want ? 1 : 0);
    }

    /** A call that is refused, with its trouble. */
    private static void refused(String call, GraphNames x, int got, int trouble) {
        due(call, got, NONE);
        due(call + ", trouble()", x.trouble(), trouble);
    }

    /** A call that isn't refused. */
    private static void fine(String call, GraphNames x, int got, int want) {
        due(call, got, want);
        due(call + ", trouble()", x.trouble(), 0);
    }

    private static void put(GraphNames x, String bytes) {
        for (int i = 0; i < bytes.length(); i += 20) {
            int[] w = new int[5];
            for (int j = 0; j < 20; j++) {
                w[j / 4] = w[j / 4] << 8 | (i + j < bytes.length() ? bytes.charAt(i + j) : ' ');
            }
            x.feed(w[0], w[1], w[2], w[3], w[4]);
        }
    }

    private static int read(GraphNames x, int g, String text) {
        put(x, text);
        return x.text(g, text.length());
    }

    /** A new object with a text read into each of the first graphs. */
    private static GraphNames with(String... texts) {
        GraphNames x = new GraphNames();
        for (int g = 0; g < texts.length; g++) {
            due("text '" + texts[g] + "'", read(x, g, texts[g]) > 0, true);
        }
        return x;
    }

    private static void row(String call, GraphNames x, int g, int v, int want) {
        int got;
        try {
            got = x.row(g, v);
        } catch (NoSuchElementException e) {
            got = -7;
        }
        due(call, got, want);
    }

    private static final int THROWS = -7;

    public static void main(String[] args) {
        newObject();
        tape();
        texts();
        faults();
        places();
        whatIsTold();
        starts();
        setApart();
        trees();
        searches();
        names();
        less();
        generators();
        symmetries();
        maps();
        changes();
        told();
        cards();
        turned();
        bases();
        links();
        numbers();
        copies();
        turns();
        dropsAndGrowths();
        undone();
        images();
        rows();
        troubles();
        System.out.println(wrong == 0 ? asked + " answers are as due" : wrong + " answers are not as due");
        if (wrong != 0) {
            System.exit(1);
        }
    }

    private static void newObject() {
        promise = 1;
        GraphNames x = new GraphNames();
        due("NONE", GraphNames.NONE, -1);
        due("size()", x.size(), 0);
        due("trouble()", x.trouble(), 0);
        due("fault()", x.fault(), 0);
        due("where()", x.where(), NONE);
        for (int g = 0; g < 3; g++) {
            due("graph(g, 0)", x.graph(g, 0), 1);
            due("graph(g, 1)", x.graph(g, 1), 0);
            due("graph(g, 2)", x.graph(g, 2), 1);
            due("graph(g, 3)", x.graph(g, 3), 0);
            due("colour(g, 0)", x.colour(g, 0), 0);
            row("row(g, 0)", x, g, 0, 0);
            due("tree(g, 0)", x.tree(g, 0), 1);
            due("tree(g, 3)", x.tree(g, 3), 10);
            due("symmetries(g, 0)", x.symmetries(g, 0), 1);
        }
        due("undo()", x.undo(), NONE);
        due("again(0)", x.again(0), false);
        due("again(1)", x.again(1), false);
    }

    private static void tape() {
        promise = 2;
        GraphNames x = new GraphNames();
        due("feed: the highest byte first",
            x.feed(0x73697a65, 0x20323b70, 0x61746820, 0x3020313b, 0x6c696e6b), 20);
        fine("text of 15 of 20", x, x.text(0, 15), 2);
        due("kind(0, 0, 1)", x.kind(0, 0, 1), 1);
        x.kind(0, 0, 0);
        for (int i = 1; i <= 20; i++) {
            due("feed", x.feed(-1, -2, 0, 1 << 31, 7), 20 * i);
        }
        due("feed, trouble() stays", x.trouble(), 5);
        due("feed of more than 400", x.feed(0, 0, 0, 0, 0), NONE);
        due("feed of more than 400, trouble() stays", x.trouble(), 5);
        promise = 42;
        due("size()", x.size(), 400);
        promise = 2;
        x.text(0, 400);
        due("feed behind a text", x.feed(0, 0, 0, 0, 0), 20);
        // a byte of 128 and more is one, too: here it is the fault
        x = new GraphNames();
        x.feed(0x73697a65, 0x33fffefd, 0, 0, 0);
        x.text(0, 20);
        due("byte 255", x.where(), 5);
    }

    private static void texts() {
        promise = 3;
        GraphNames x = new GraphNames();
        fine("size alone", x, read(x, 0, "size 7"), 7);
        due("graph(0, 1)", x.graph(0, 1), 0);
        due("the tape is empty", x.size(), 0);
        fine("size1", x, read(x, 0, "size1"), 1);
        read(x, 0, "size5;link0 1 2;link01");
        due("two linked twice, without blanks", x.where(), 21);
    }

    private static void faults() {
        GraphNames x = new GraphNames();
        due("fault() ahead of any", x.fault(), 0);
        promise = 3;
        fine("every kind of line", x, read(x, 1, "  size 6 ;paint 0 9;paint 5 0; link 0 5 3;link 1 0;path 2 3 4;ring 3 5 1 "), 6);
        due("fault()", x.fault(), 0);
        due("colour(1, 0)", x.colour(1, 0), 9);
        due("colour(1, 1): 0 without", x.colour(1, 1), 0);
        due("kind(1, 0, 5)", x.kind(1, 0, 5), 3);
        due("kind(1, 0, 1): 1 without", x.kind(1, 0, 1), 1);
        due("kind(1, 2, 3)", x.kind(1, 2, 3), 1);
        due("kind(1, 3, 4)", x.kind(1, 3, 4), 1);
        due("kind(1, 4, 2): a path isn't closed", x.kind(1, 4, 2), 0);
        due("kind(1, 3, 5)", x.kind(1, 3, 5), 1);
        due("kind(1, 5, 1)", x.kind(1, 5, 1), 1);
        due("kind(1, 1, 3): a ring is closed", x.kind(1, 1, 3), 1);
        due("graph(1, 1)", x.graph(1, 1), 7);
        promise = 4;
        // what comes of a text: its fault and where
        String[] right = {
            "size 1", "size 7", "size 3;path 0 1 2;link 2 0", "size 2;link 1 0 3", "size 4;ring 0 1 2 3",
            "size 5;ring 0 1 2 0 3 4", "size 4;path 0 1 2 0 3", "size 2;paint 0 0;paint 1 9", "size    2",
        };
        for (String t : right) {
            due("'" + t + "'", read(x, 0, t) > 0, true);
            due("'" + t + "' fault()", x.fault(), 0);
            due("'" + t + "' where()", x.where(), NONE);
        }
    }

    private static void fault(String text, int fault, int place) {
        GraphNames x = with("size 3;link 0 1 2");
        x.link(0, 0, 2, 3);
        put(x, text);
        promise = 3;
        refused("'" + text + "'", x, x.text(0, text.length()), 4);
        promise = 4;
        due("'" + text + "' fault()", x.fault(), fault);
        promise = 5;
        due("'" + text + "' where()", x.where(), place);
        promise = 3;
        due("'" + text + "': the tape is empty", x.size(), 0);
        due("'" + text + "': where() behind", x.where(), place);
        due("'" + text + "': the graph stays", x.graph(0, 0) * 100 + x.kind(0, 0, 1) * 10 + x.kind(0, 0, 2), 323);
        due("'" + text + "': where() behind a call that wasn't refused", x.where(), NONE);
        due("'" + text + "': it is no act", x.undo(), 1);
    }

    private static void places() {
        // form
        fault("", 1, 0);
        fault("   ", 1, 3);
        fault("3", 1, 0);
        fault("paint 0 0", 1, 0);
        fault("sizes 3", 1, 0);
        fault("siz", 1, 0);
        fault("dize 3", 1, 0);
        fault("size 3;saint 0 0", 1, 7);
        fault("size 3;sink 0 1", 1, 7);
        fault("size 3;bath 0 1", 1, 7);
        fault("size 3;king 0 1 2", 1, 7);
        fault(" size", 1, 5);
        fault("size;", 1, 4);
        fault("size x", 1, 5);
        fault("size 3 3", 1, 7);
        fault("size 33", 1, 6);
        fault("size 3;", 1, 7);
        fault("size 3;;", 1, 7);
        fault("size 3; ; ", 1, 8);
        fault("size 3 link 0 1", 1, 7);
        fault("size 3;size 3", 1, 7);
        fault("size 3;links 0 1", 1, 7);
        fault("size 3;linkss 0 1", 1, 7);
        fault("size 3;linkslinks 0 1", 1, 7);
        fault("Size 3", 1, 0);
        fault("siZe 3", 1, 0);
        fault("size\t3", 1, 4);
        fault("size 3\n", 1, 6);
        fault("size 3!", 1, 6);
        fault("size 3;paint", 1, 12);
        fault("size 3;paint 0", 1, 14);
        fault("size 3;paint 0 ;", 1, 15);
        fault("size 3;paint 0 1 2", 1, 17);
        fault("size 3;link 0", 1, 13);
        fault("size 3;link 0;", 1, 13);
        fault("size 3;link 0 1 1 1", 1, 18);
        fault("size 3;link 0 1 x", 1, 16);
        fault("size 3;path 0", 1, 13);
        fault("size 3;path 0;", 1, 13);
        fault("size 3;path 0 1 x", 1, 16);
        fault("size 3;ring 0 1", 1, 15);
        fault("size 3;ring 0 1 ;", 1, 16);
        fault("size 3;ring 0 1 2 x", 1, 18);
        fault("size 3;ring 0 1 2  ?", 1, 19);
        // bounds
        fault("size 0", 2, 5);
        fault("size 8", 2, 5);
        fault("size 9 x", 2, 5);
        fault("size 3;paint 3 0", 2, 13);
        fault("size 3;link 3 0", 2, 12);
        fault("size 3;link 0 3", 2, 14);
        fault("size 3;link 0 1 0", 2, 16);
        fault("size 3;link 0 1 4", 2, 16);
        fault("size 3;path 0 1 3", 2, 16);
        fault("size 3;ring 0 1 2 3", 2, 18);
        fault("size 1;path 0 1", 2, 14);
        // again, twice, itself
        fault("size 3;paint 1 0;paint 1 0", 3, 23);
        fault("size 3;link 0 1;link 1 0", 3, 23);
        fault("size 3;link 1 1", 3, 14);
        fault("size 3;link 1 1 9", 3, 14);
        fault("size 3;path 0 1 0", 3, 16);
        fault("size 3;path 0 0", 3, 14);
        fault("size 3;link 0 1 2;path 2 0 1", 3, 27);
        fault("size 3;ring 0 1 0", 3, 16);
        fault("size 3;link 2 0;ring 0 1 2", 3, 26);
        fault("size 3;link 2 0;ring 0 1 2  ", 3, 28);
        fault("size 3;link 2 0;ring 0 1 2 ;x", 3, 27);
        fault("size 4;ring 0 1 2 0", 3, 19);
        fault("size 4;ring 0 1 2 3 1;", 3, 21);
        fault("size 5;ring 0 1 2 0 3", 3, 21);
        // the lesser fault of one token
        fault("size 3;link 2 0;ring 0 1 2 x", 1, 27);
        fault("size 3;link 2 0;ring 0 1 2 9", 2, 27);
        fault("size 3;link 2 0;ring 0 1 2 0", 3, 27);
        // what stands behind the bytes of the text is not of it
        GraphNames y = new GraphNames();
        put(y, "sizes 3");
        refused("'size' of 'sizes 3'", y, y.text(0, 4), 4);
        promise = 5;
        due("'size' of 'sizes 3', where()", y.where(), 4);
        put(y, "size 3;link 0 1 9");
        promise = 3;
        fine("'size 3;link 0 1' of 'size 3;link 0 1 9'", y, y.text(0, 15), 3);
        // refused ahead of its reading
        GraphNames x = new GraphNames();
        read(x, 0, "size 9");
        put(x, "size 3");
        promise = 3;
        refused("text(3, 0)", x, x.text(3, 0), 1);
        refused("text(-1, -1)", x, x.text(-1, -1), 1);
        refused("text(0, -1)", x, x.text(0, -1), 2);
        refused("text(0, 21)", x, x.text(0, 21), 2);
        promise = 4;
        due("fault() stays", x.fault(), 2);
        promise = 5;
        due("where()", x.where(), NONE);
        promise = 3;
        due("the tape stays", x.size(), 20);
        fine("text(2, 6)", x, x.text(2, 6), 3);
        promise = 4;
        due("fault() of a right one", x.fault(), 0);
        promise = 5;
        read(x, 0, "size 3; link 0 0");
        due("where()", x.where(), 15);
        x.feed(0, 0, 0, 0, 0);
        row("row", x, 0, 9, THROWS);
        due("where() behind calls that can't be refused so", x.where(), 15);
        x.colour(0, 9);
        due("where() behind one refused by 1", x.where(), NONE);
    }

    private static void whatIsTold() {
        GraphNames x = with("size 5;paint 1 4;paint 3 4;link 0 1 2;link 0 2;link 0 3 3;link 0 4;link 1 2 2");
        promise = 6;
        fine("graph(0, 0)", x, x.graph(0, 0), 5);
        fine("graph(0, 1)", x, x.graph(0, 1), 5);
        fine("graph(0, 2)", x, x.graph(0, 2), 2);
        fine("graph(0, 3)", x, x.graph(0, 3), 4);
        refused("graph(0, 4)", x, x.graph(0, 4), 1);
        refused("graph(0, -1)", x, x.graph(0, -1), 1);
        refused("graph(3, 0)", x, x.graph(3, 0), 1);
        refused("graph(-1, 0)", x, x.graph(-1, 0), 1);
        promise = 7;
        fine("colour(0, 1)", x, x.colour(0, 1), 4);
        fine("colour(0, 4)", x, x.colour(0, 4), 0);
        refused("colour(0, 5)", x, x.colour(0, 5), 1);
        refused("colour(0, -1)", x, x.colour(0, -1), 1);
        refused("colour(3, 0)", x, x.colour(3, 0), 1);
        promise = 8;
        fine("kind(0, 1, 0)", x, x.kind(0, 1, 0), 2);
        fine("kind(0, 0, 3)", x, x.kind(0, 0, 3), 3);
        fine("kind(0, 3, 4)", x, x.kind(0, 3, 4), 0);
        refused("kind(0, 4, 4)", x, x.kind(0, 4, 4), 5);
        refused("kind(0, 5, 5)", x, x.kind(0, 5, 5), 1);
        refused("kind(0, 0, 5)", x, x.kind(0, 0, 5), 1);
        refused("kind(0, -1, 0)", x, x.kind(0, -1, 0), 1);
        refused("kind(7, 0, 0)", x, x.kind(7, 0, 0), 1);
        promise = 9;
        fine("degree(0, 0, 0)", x, x.degree(0, 0, 0), 4);
        fine("degree(0, 0, 1)", x, x.degree(0, 0, 1), 2);
        fine("degree(0, 0, 2)", x, x.degree(0, 0, 2), 1);
        fine("degree(0, 0, 3)", x, x.degree(0, 0, 3), 1);
        fine("degree(0, 1, 2)", x, x.degree(0, 1, 2), 2);
        refused("degree(0, 0, 4)", x, x.degree(0, 0, 4), 2);
        refused("degree(0, 0, -1)", x, x.degree(0, 0, -1), 2);
        refused("degree(0, 5, 4)", x, x.degree(0, 5, 4), 1);
        refused("degree(3, 0, 4)", x, x.degree(3, 0, 4), 1);
    }

    private static void starts() {
        // colours 2 and 5; {2 3 4 5} | {0 1}: 2 is linked with 0 by kind 3, 3 with 0 by kind 1, 4 with 5
        GraphNames x = with("size 6;paint 0 5;paint 1 5;paint 2 2;paint 3 2;paint 4 2;paint 5 2;link 0 2 3;link 0 3;link 4 5",
            "size 7;path 0 1 2 3 4 5 6", "size 5;path 0 1 2;path 3 4");
        promise = 10;
        // signs (own cell: 1 2 3, other: 1 2 3): 2 000001, 3 000100, 4 and 5 100000; 0 101000, 1 000000
        fine("start(0, 0)", x, x.start(0, 0), 5);
        fine("start(0, 1)", x, x.start(0, 1), 1);
        fine("start(0, 2)", x, x.start(0, 2), 2);
        fine("start(0, 3)", x, x.start(0, 3), 16 + 32);
        promise = 11;
        fine("cell(0, 0)", x, x.cell(0, 0), 4);
        fine("cell(0, 1)", x, x.cell(0, 1), 8);
        fine("cell(0, 2)", x, x.cell(0, 2), 48);
        fine("cell(0, 3)", x, x.cell(0, 3), 2);
        fine("cell(0, 4)", x, x.cell(0, 4), 1);
        refused("cell(0, 5)", x, x.cell(0, 5), 1);
        refused("cell(0, -1)", x, x.cell(0, -1), 1);
        refused("cell(3, 0)", x, x.cell(3, 0), 1);
        promise = 10;
        // a path of seven: ends; then those beside them; ..: 06 | 12345, 06 | 234 | 15, 06 | 24 | 3 | 15
        fine("start(1, 0)", x, x.start(1, 0), 4);
        fine("start(1, 1)", x, x.start(1, 1), 3);
        fine("start(1, 2)", x, x.start(1, 2), 1);
        fine("start(1, 3): the first of the least", x, x.start(1, 3), 65);
        promise = 11;
        fine("cell(1, 1)", x, x.cell(1, 1), 4 + 16);
        fine("cell(1, 2)", x, x.cell(1, 2), 8);
        promise = 10;
        // 0234 | 1, then 34 | 02 | 1 as links with those of the first cell come ahead: 34 have one there
        fine("start(2, 0)", x, x.start(2, 0), 3);
        fine("start(2, 3)", x, x.start(2, 3), 5);
        promise = 11;
        fine("cell(2, 0)", x, x.cell(2, 0), 5);
        fine("cell(2, 1)", x, x.cell(2, 1), 24);
        promise = 10;
        refused("start(0, 4)", x, x.start(0, 4), 1);
        refused("start(0, -1)", x, x.start(0, -1), 1);
        refused("start(3, 0)", x, x.start(3, 0), 1);
        x = with("size 3;path 0 1 2;paint 0 3");
        fine("start of cells that can't be divided, TARGET", x, x.start(0, 3), 0);
        fine("start, CELLS", x, x.start(0, 0), 3);
    }

    private static void setApart() {
        GraphNames x = with("size 7;ring 0 1 2;ring 3 4 5 6", "size 7;path 0 1 2 3 4 5 6", "size 1");
        promise = 12;
        // 0 | 3456 | 12 by one round; 3 | 5 | 012 | 46 by two
        fine("apart(0, 0, 0)", x, x.apart(0, 0, 0), 3);
        fine("apart(0, 0, 1)", x, x.apart(0, 0, 1), 1421);
        fine("apart(0, 3, 0)", x, x.apart(0, 3, 0), 4);
        fine("apart(0, 3, 1)", x, x.apart(0, 3, 1), 11322);
        fine("apart(1, 6, 0)", x, x.apart(1, 6, 0), 7);
        // 0 | 6 | 24 | 3 | 15: by one round 5 and 1, by another one 4 and 2
        fine("apart(1, 0, 1)", x, x.apart(1, 0, 1), 11111112);
        refused("apart(1, 1, 0)", x, x.apart(1, 1, 0), 5);
        refused("apart(1, 7, 0)", x, x.apart(1, 7, 0), 1);
        refused("apart(1, 1, 2)", x, x.apart(1, 1, 2), 1);
        refused("apart(1, 0, -1)", x, x.apart(1, 0, -1), 1);
        refused("apart(3, 0, 0)", x, x.apart(3, 0, 0), 1);
        refused("apart(2, 0, 0): no TARGET", x, x.apart(2, 0, 0), 5);
        refused("apart(2, 1, 0)", x, x.apart(2, 1, 0), 1);
    }

    private static void trees() {
        GraphNames x = with("size 4", "size 7;ring 0 1 2;ring 3 4 5 6", "size 7");
        promise = 13;
        fine("tree(0, 0)", x, x.tree(0, 0), 1 + 4 + 12 + 24);
        fine("tree(0, 1)", x, x.tree(0, 1), 24);
        fine("tree(0, 2)", x, x.tree(0, 2), 3);
        fine("tree(0, 3)", x, x.tree(0, 3), 40);
        fine("tree(0, 4)", x, x.tree(0, 4), 24);
        // below one of the ring of 3: 2 ways, 4, 2; below one of the ring of 4 (3 | 5 | 012 | 46): 2, 3, 2
        fine("tree(1, 0)", x, x.tree(1, 0), 1 + 3 * (1 + 2 + 8 + 16) + 4 * (1 + 2 + 6 + 12));
        fine("tree(1, 1)", x, x.tree(1, 1), 3 * 16 + 4 * 12);
        fine("tree(1, 2)", x, x.tree(1, 2), 4);
        fine("tree(1, 3)", x, x.tree(1, 3), 70);
        fine("tree(1, 4)", x, x.tree(1, 4), 48);
        fine("tree(2, 0)", x, x.tree(2, 0), 8660);
        fine("tree(2, 1)", x, x.tree(2, 1), 5040);
        fine("tree(2, 2)", x, x.tree(2, 2), 6);
        fine("tree(2, 4)", x, x.tree(2, 4), 5040);
        refused("tree(0, 5)", x, x.tree(0, 5), 1);
        refused("tree(0, -1)", x, x.tree(0, -1), 1);
        refused("tree(3, 0)", x, x.tree(3, 0), 1);
        x.link(0, 0, 1, 1);
        fine("tree(0, 1) of what it is now", x, x.tree(0, 1), 4);
    }

    private static void searches() {
        promise = 14;
        // by hand: 0 1 3 4 is FIRST; 0 1 3 6, 0 1 4 3, 0 1 4 5, 0 2 3 4, 1 0 3 4, 1 2 3 4 give GENERATORS; 3 is CUT
        GraphNames x = with("size 7;ring 0 1 2;ring 3 4 5 6", "size 7;ring 0 1 2 3;ring 4 5 6", "size 1");
        fine("search(0, 0)", x, x.search(0, 0), 19);
        fine("search(0, 1)", x, x.search(0, 1), 7);
        fine("search(0, 2)", x, x.search(0, 2), 1);
        fine("search(0, 3)", x, x.search(0, 3), 18);
        fine("search(0, 4)", x, x.search(0, 4), 6);
        fine("search(0, 5)", x, x.search(0, 5), 1);
        promise = 18;
        fine("generator(0, 0, 4)", x, x.generator(0, 0, 4), 6);
        fine("generator(0, 0, 6)", x, x.generator(0, 0, 6), 4);
        fine("generator(0, 0, 3)", x, x.generator(0, 0, 3), 3);
        fine("generator(0, 2, 3)", x, x.generator(0, 2, 3), 4);
        fine("generator(0, 2, 4)", x, x.generator(0, 2, 4), 5);
        fine("generator(0, 2, 6)", x, x.generator(0, 2, 6), 3);
        fine("generator(0, 5, 0)", x, x.generator(0, 5, 0), 1);
        fine("generator(0, 5, 1)", x, x.generator(0, 5, 1), 2);
        fine("generator(0, 5, 2)", x, x.generator(0, 5, 2), 0);
        refused("generator(0, 6, 0)", x, x.generator(0, 6, 0), 6);
        promise = 14;
        // the ring of 4 comes first here, and is greater: its leafs are like FIRST till one of the ring of 3 is BEST
        fine("search(1, 5)", x, x.search(1, 5), 2);
        fine("search(1, 2)", x, x.search(1, 2), 0);
        promise = 16;
        due("place(1, 0): in the ring of 3", x.place(1, 0), 4);
        due("place(0, 0): in the ring of 3", x.place(0, 0), 0);
        promise = 14;
        fine("search(2, 0)", x, x.search(2, 0), 1);
        fine("search(2, 1)", x, x.search(2, 1), 1);
        fine("search(2, 4)", x, x.search(2, 4), 0);
        fine("search(2, 5)", x, x.search(2, 5), 1);
        refused("search(0, 6)", x, x.search(0, 6), 1);
        refused("search(0, -1)", x, x.search(0, -1), 1);
        refused("search(-1, 0)", x, x.search(-1, 0), 1);
        likeBest();
    }

    /** Leafs like BEST, which isn't FIRST, give generators from BEST. */
    private static void likeBest() {
        GraphNames x = with("size 7;ring 0 1 2 3;ring 4 5 6", "size 7;ring 0 4 5 6;ring 1 2 3");
        promise = 14;
        // FIRST 0 1 4 5 with 0 1 4 6, 0 1 5 4, 0 1 5 6, 0 3 4 5, 1 0 4 5, 1 2 4 5 like it; of what is below 4 only
        // BEST, 4 5 0 1, is come to
        fine("search(0, 4)", x, x.search(0, 4), 6);
        fine("search(0, 1)", x, x.search(0, 1), 8);
        // FIRST 0 4 1 2 with 0 4 1 3, 0 4 2 1, 0 4 2 3, 0 6 1 2 like it; BEST 1 2 0 4 with 1 2 4 0, 1 2 4 5 like it
        int[] search = {19, 8, 0, 13, 6, 2};
        for (int what = 0; what < 6; what++) {
            fine("search(1, " + what + ")", x, x.search(1, what), search[what]);
        }
        promise = 18;
        int[][] rows = {{0, 1, 3, 2, 4, 5, 6}, {0, 2, 1, 3, 4, 5, 6}, {0, 2, 3, 1, 4, 5, 6}, {0, 1, 2, 3, 6, 5, 4},
            {4, 1, 2, 3, 0, 6, 5}, {4, 1, 2, 3, 5, 6, 0}};
        for (int i = 0; i < 6; i++) {
            for (int v = 0; v < 7; v++) {
                fine("generator(1, " + i + ", " + v + ")", x, x.generator(1, i, v), rows[i][v]);
            }
        }
        promise = 14;
        x = with("size 6;link 0 2;link 0 4;link 0 5 2;link 1 3;link 1 4 2;link 1 5;link 2 3 2;link 2 5;link 3 4");
        fine("search(0, 5) with two kinds", x, x.search(0, 5), 2);
    }

    private static void names() {
        GraphNames x = with("size 4;path 0 1 2 3;paint 1 7;link 0 3 2", "size 3", "size 4;link 2 3 3");
        promise = 15;
        // colours 0 0 0 7: 0 is linked 1 with 1 and 2 with 3, 2 is linked 1 with 1 and 1 with 3:
        // signs (own 1 2 3, that of 1): 0 010 1, 2 100 1, 3 110 0: cells 0, 2, 3, 1
        int[] name = {0, 0, 0, 7, 0, 2, 1, 1, 1, 0};
        int[] places = {0, 2, 3, 1};
        for (int k = 0; k < 10; k++) {
            fine("name(0, " + k + ")", x, x.name(0, k), name[k]);
        }
        refused("name(0, 10)", x, x.name(0, 10), 6);
        refused("name(0, -1)", x, x.name(0, -1), 6);
        refused("name(3, 0)", x, x.name(3, 0), 1);
        refused("name(3, -1)", x, x.name(3, -1), 1);
        fine("name(1, 5)", x, x.name(1, 5), 0);
        refused("name(1, 6)", x, x.name(1, 6), 6);
        fine("name(2, 9)", x, x.name(2, 9), 3);
        fine("name(2, 4)", x, x.name(2, 4), 0);
        promise = 16;
        for (int k = 0; k < 4; k++) {
            fine("place(0, " + k + ")", x, x.place(0, k), places[k]);
            fine("place(2, " + k + ")", x, x.place(2, k), k);
        }
        refused("place(0, 4)", x, x.place(0, 4), 6);
        refused("place(0, -1)", x, x.place(0, -1), 6);
        refused("place(-1, 0)", x, x.place(-1, 0), 1);
        promise = 15;
        x.shuffle(0, 4711);
        for (int k = 0; k < 10; k++) {
            fine("name(0, " + k + ") of a like one", x, x.name(0, k), name[k]);
        }
    }

    private static void less() {
        promise = 17;
        GraphNames x = with("size 4;link 0 1", "size 4;link 2 3 2", "size 3;paint 0 9");
        // 0 0 0 0 | 0 0 0 0 0 1 against .. 2
        fine("less(0, 1)", x, x.less(0, 1), 0);
        fine("less(1, 0)", x, x.less(1, 0), 1);
        fine("less(0, 2)", x, x.less(0, 2), 1);
        fine("less(2, 0)", x, x.less(2, 0), 0);
        fine("less(2, 2)", x, x.less(2, 2), 2);
        x.copy(0, 2);
        x.swap(2, 0, 3);
        fine("less(0, 2) of like ones", x, x.less(0, 2), 2);
        refused("less(0, 3)", x, x.less(0, 3), 1);
        refused("less(-1, 0)", x, x.less(-1, 0), 1);
        // colours come ahead of kinds
        x.paint(2, 1, 1);
        fine("less by colours", x, x.less(1, 2), 0);
    }

    private static void generators() {
        promise = 18;
        GraphNames x = with("size 3", "size 3;path 0 1 2;paint 0 1");
        // FIRST 0 1 2; leafs 0 2 1, 1 0 2, 1 2 0; the child of 2 is skipped
        int[][] rows = {{0, 2, 1}, {1, 0, 2}, {1, 2, 0}};
        for (int i = 0; i < 3; i++) {
            for (int v = 0; v < 3; v++) {
                fine("generator(0, " + i + ", " + v + ")", x, x.generator(0, i, v), rows[i][v]);
            }
        }
        refused("generator(0, 3, 0)", x, x.generator(0, 3, 0), 6);
        refused("generator(0, -1, 0)", x, x.generator(0, -1, 0), 6);
        refused("generator(0, 0, 3)", x, x.generator(0, 0, 3), 1);
        refused("generator(0, -1, -1)", x, x.generator(0, -1, -1), 1);
        refused("generator(3, 0, 0)", x, x.generator(3, 0, 0), 1);
        refused("generator(1, 0, 0): there is none", x, x.generator(1, 0, 0), 6);
    }

    private static void symmetries() {
        GraphNames x = with("size 5;ring 0 1 2 3;link 0 2 2", "size 7", "size 4;link 0 1;link 2 3;paint 0 1");
        // ring 0 1 2 3 with 0 2 and 1 3 to be changed; 4 alone
        promise = 19;
        fine("symmetries(0, 0)", x, x.symmetries(0, 0), 4);
        fine("symmetries(0, 1)", x, x.symmetries(0, 1), 3);
        fine("symmetries(0, 2)", x, x.symmetries(0, 2), 1);
        fine("symmetries(1, 0)", x, x.symmetries(1, 0), 5040);
        fine("symmetries(1, 1)", x, x.symmetries(1, 1), 1);
        fine("symmetries(1, 2)", x, x.symmetries(1, 2), 0);
        fine("symmetries(2, 0)", x, x.symmetries(2, 0), 2);
        fine("symmetries(2, 1)", x, x.symmetries(2, 1), 3);
        fine("symmetries(2, 2)", x, x.symmetries(2, 2), 2);
        refused("symmetries(0, 3)", x, x.symmetries(0, 3), 1);
        refused("symmetries(0, -1)", x, x.symmetries(0, -1), 1);
        refused("symmetries(3, 0)", x, x.symmetries(3, 0), 1);
        promise = 20;
        fine("orbit(0, 0)", x, x.orbit(0, 0), 5);
        fine("orbit(0, 3)", x, x.orbit(0, 3), 10);
        fine("orbit(0, 4)", x, x.orbit(0, 4), 16);
        fine("orbit(1, 6)", x, x.orbit(1, 6), 127);
        refused("orbit(0, 5)", x, x.orbit(0, 5), 1);
        refused("orbit(0, -1)", x, x.orbit(0, -1), 1);
        refused("orbit(3, 0)", x, x.orbit(3, 0), 1);
        promise = 21;
        fine("leave(0, 0)", x, x.leave(0, 0), 4);
        fine("leave(0, 1)", x, x.leave(0, 1), 2);
        fine("leave(0, 16)", x, x.leave(0, 16), 4);
        fine("leave(0, 3)", x, x.leave(0, 3), 1);
        fine("leave(1, 7)", x, x.leave(1, 7), 24);
        fine("leave(1, 127)", x, x.leave(1, 127), 1);
        refused("leave(0, 32)", x, x.leave(0, 32), 2);
        refused("leave(0, -1)", x, x.leave(0, -1), 2);
        refused("leave(0, 1 << 31)", x, x.leave(0, 1 << 31), 2);
        refused("leave(3, -1)", x, x.leave(3, -1), 1);
    }

    private static void maps() {
        GraphNames x = with("size 4;path 2 0 3;paint 1 1", "size 4;path 3 2 1;paint 0 1", "size 3");
        promise = 22;
        fine("maps(0, 1)", x, x.maps(0, 1), 2);
        fine("maps(0, 0)", x, x.maps(0, 0), 2);
        fine("maps(0, 2)", x, x.maps(0, 2), 0);
        refused("maps(0, 3)", x, x.maps(0, 3), 1);
        refused("maps(-1, 0)", x, x.maps(-1, 0), 1);
        promise = 23;
        fine("map(0, 1, 0)", x, x.map(0, 1, 0), 2);
        fine("map(0, 1, 1)", x, x.map(0, 1, 1), 0);
        fine("map(0, 1, 2): the least", x, x.map(0, 1, 2), 1);
        fine("map(0, 1, 3)", x, x.map(0, 1, 3), 3);
        fine("map(1, 0, 3)", x, x.map(1, 0, 3), 3);
        fine("map(1, 1, 2)", x, x.map(1, 1, 2), 2);
        refused("map(0, 2, 0)", x, x.map(0, 2, 0), 6);
        refused("map(2, 0, 3)", x, x.map(2, 0, 3), 1);
        refused("map(0, 1, 4)", x, x.map(0, 1, 4), 1);
        refused("map(0, 1, -1)", x, x.map(0, 1, -1), 1);
        refused("map(0, 3, 0)", x, x.map(0, 3, 0), 1);
        refused("map(3, 0, 0)", x, x.map(3, 0, 0), 1);
        x.link(0, 2, 0, 2);
        promise = 22;
        fine("maps(0, 1) of unlike ones", x, x.maps(0, 1), 0);
        promise = 23;
        refused("map(0, 1, 0) of unlike ones", x, x.map(0, 1, 0), 6);
    }

    private static void changes() {
        promise = 24;
        GraphNames x = with("size 4;path 0 1 2 3", "size 4;link 0 1;link 0 2;link 0 3", "size 4;path 0 1 2 3;link 0 3 2;paint 2 1");
        fine("changes(0, 1)", x, x.changes(0, 1), 2);
        fine("changes(1, 0)", x, x.changes(1, 0), 2);
        fine("changes(0, 0)", x, x.changes(0, 0), 0);
        fine("changes(0, 2)", x, x.changes(0, 2), 2);
        x.turn(1);
        // a ring of 3 and one alone against a path: one link fewer here, one more there
        fine("changes(0, 1)", x, x.changes(0, 1), 2);
        read(x, 1, "size 5");
        refused("changes(0, 1)", x, x.changes(0, 1), 5);
        refused("changes(0, 3)", x, x.changes(0, 3), 1);
        refused("changes(-1, 0)", x, x.changes(-1, 0), 1);
        x = with("size 7", "size 7;paint 0 1;paint 1 2");
        x.turn(1);
        fine("changes of all", x, x.changes(0, 1), 23);
    }

    private static void told() {
        promise = 25;
        GraphNames x = with("size 6;ring 0 1 2 3 4 5", "size 6;ring 0 1 2;ring 3 4 5", "size 6;path 0 1 2 3 4 5");
        fine("told(0, 1)", x, x.told(0, 1), -2);
        fine("told(0, 0)", x, x.told(0, 0), -2);
        fine("told(0, 2)", x, x.told(0, 2), 1);
        x.paint(1, 0, 1);
        fine("told(0, 1)", x, x.told(0, 1), 0);
        x.paint(0, 5, 1);
        // 12345 | 0 in both; by round 1 two of the five are linked with it in both; by round 2 the others of a ring of 3
        // and of one of 6 are linked unlike
        fine("told(0, 1)", x, x.told(0, 1), 2);
        fine("told(1, 0)", x, x.told(1, 0), 2);
        x.paint(1, 0, 2);
        fine("told(0, 1)", x, x.told(0, 1), 0);
        // ends and how far: a path of 4 with a path of 3, against one of 5 with one of 2
        read(x, 0, "size 7;path 0 1 2 3;path 4 5 6");
        read(x, 1, "size 7;path 0 1 2 3 4;path 5 6");
        fine("told(0, 1)", x, x.told(0, 1), 2);
        // all have the same degree, but not in both
        read(x, 0, "size 4;ring 0 1 2 3");
        read(x, 1, "size 4;link 0 1;link 2 3");
        fine("told(0, 1)", x, x.told(0, 1), 1);
        refused("told(0, 2)", x, x.told(0, 2), 5);
        refused("told(0, 3)", x, x.told(0, 3), 1);
        refused("told(3, 0)", x, x.told(3, 0), 1);
        // -2 is an answer, no refusal
        fine("told(0, 0)", x, x.told(0, 0), -2);
    }

    private static void cards() {
        promise = 26;
        GraphNames x = with("size 5;path 0 1 2 3 4", "size 1", "size 2;paint 0 1");
        // without 0 or 4 a path of 4; without 1 or 3 a vertex and a path of 3; without 2 two paths of 2
        fine("cards(0, 0)", x, x.cards(0, 0), 3);
        fine("cards(0, 1)", x, x.cards(0, 1), 2);
        refused("cards(1, 0)", x, x.cards(1, 0), 5);
        refused("cards(1, 2)", x, x.cards(1, 2), 1);
        refused("cards(0, 2)", x, x.cards(0, 2), 1);
        refused("cards(0, -1)", x, x.cards(0, -1), 1);
        refused("cards(3, 0)", x, x.cards(3, 0), 1);
        fine("cards(2, 0)", x, x.cards(2, 0), 2);
        fine("cards(2, 1)", x, x.cards(2, 1), 1);
        x.swap(0, 0, 2);
        fine("cards(0, 1): of the middle one", x, x.cards(0, 1), 1);
    }

    private static void turned() {
        promise = 27;
        GraphNames x = with("size 5;ring 0 1 2 3 4", "size 4;path 0 1 2 3", "size 3");
        fine("turned(0)", x, x.turned(0), 1);
        fine("turned(1)", x, x.turned(1), 1);
        fine("turned(2)", x, x.turned(2), 0);
        x.paint(1, 0, 1);
        fine("turned(1): colours stay", x, x.turned(1), 0);
        fine("turned() changes nothing", x, x.graph(0, 1), 5);
        // kinds 2 and 3 as kinds 0 and 1
        read(x, 2, "size 4;link 0 1 2;link 1 2 2;link 2 3 2;link 0 2 3;link 0 3 3;link 1 3 3");
        fine("turned(2)", x, x.turned(2), 1);
        x.link(2, 0, 1, 3);
        fine("turned(2)", x, x.turned(2), 0);
        read(x, 2, "size 1");
        fine("turned(2) of one alone", x, x.turned(2), 1);
        refused("turned(3)", x, x.turned(3), 1);
        refused("turned(-1)", x, x.turned(-1), 1);
    }

    private static void bases() {
        GraphNames x = with("size 5", "size 6;ring 0 1 2 3 4 5", "size 3;path 0 1 2;paint 0 1");
        promise = 28;
        fine("base(0, 0)", x, x.base(0, 0), 1);
        fine("base(0, 4)", x, x.base(0, 4), 2);
        fine("base(0, 5)", x, x.base(0, 5), 3);
        fine("base(0, 15)", x, x.base(0, 15), 5);
        fine("base(0, 31)", x, x.base(0, 31), 5);
        fine("base(1, 1)", x, x.base(1, 1), 4);
        fine("base(1, 9): one and that over it", x, x.base(1, 9), 4);
        fine("base(1, 3)", x, x.base(1, 3), 6);
        fine("base(2, 7)", x, x.base(2, 7), 3);
        refused("base(0, 32)", x, x.base(0, 32), 2);
        refused("base(0, -1)", x, x.base(0, -1), 2);
        refused("base(3, -1)", x, x.base(3, -1), 1);
        promise = 29;
        fine("fewest(0)", x, x.fewest(0), 15);
        fine("fewest(1)", x, x.fewest(1), 3);
        fine("fewest(2): none", x, x.fewest(2), 0);
        refused("fewest(3)", x, x.fewest(3), 1);
        x = with("size 7;path 0 1 2 3 4 5 6", "size 4;link 0 1");
        fine("fewest(0)", x, x.fewest(0), 1);
        fine("fewest(1)", x, x.fewest(1), 5);
    }

    private static void links() {
        promise = 30;
        GraphNames x = with("size 3;link 0 1 2");
        fine("link(0, 1, 0, 3)", x, x.link(0, 1, 0, 3), 2);
        due("kind(0, 0, 1)", x.kind(0, 0, 1), 3);
        due("degree(0, 0, 2)", x.degree(0, 0, 2), 0);
        due("degree(0, 1, 3)", x.degree(0, 1, 3), 1);
        fine("link(0, 1, 0, 0)", x, x.link(0, 1, 0, 0), 3);
        row("row(0, 0)", x, 0, 0, 0);
        fine("link that changes nothing", x, x.link(0, 1, 2, 0), 0);
        due("undo() of it", x.undo(), 3);
        refused("link(0, 1, 1, 9)", x, x.link(0, 1, 1, 9), 5);
        refused("link(0, 3, 3, 9)", x, x.link(0, 3, 3, 9), 1);
        refused("link(0, 0, 1, 4)", x, x.link(0, 0, 1, 4), 2);
        refused("link(0, 0, 1, -1)", x, x.link(0, 0, 1, -1), 2);
        refused("link(0, -1, 1, 1)", x, x.link(0, -1, 1, 1), 1);
        refused("link(3, 0, 1, 1)", x, x.link(3, 0, 1, 1), 1);
        due("undo() behind refused ones", x.undo(), 2);
        promise = 31;
        fine("paint(0, 2, 9)", x, x.paint(0, 2, 9), 0);
        fine("paint(0, 2, 0)", x, x.paint(0, 2, 0), 9);
        due("colour(0, 2)", x.colour(0, 2), 0);
        due("undo()", x.undo(), 3);
        due("colour(0, 2)", x.colour(0, 2), 9);
        refused("paint(0, 2, 10)", x, x.paint(0, 2, 10), 2);
        refused("paint(0, 2, -1)", x, x.paint(0, 2, -1), 2);
        refused("paint(0, 3, 10)", x, x.paint(0, 3, 10), 1);
        refused("paint(3, 0, 10)", x, x.paint(3, 0, 10), 1);
    }

    private static void numbers() {
        promise = 32;
        GraphNames x = with("size 5;paint 0 3;link 0 1 2;link 0 2;link 1 2 3;link 1 3;link 0 3 3;link 0 4");
        fine("swap(0, 0, 1)", x, x.swap(0, 0, 1), 2);
        due("colour(0, 0)", x.colour(0, 0), 0);
        due("colour(0, 1)", x.colour(0, 1), 3);
        due("kind(0, 0, 1)", x.kind(0, 0, 1), 2);
        due("kind(0, 0, 2)", x.kind(0, 0, 2), 3);
        due("kind(0, 1, 2)", x.kind(0, 1, 2), 1);
        due("kind(0, 0, 3)", x.kind(0, 0, 3), 1);
        due("kind(0, 1, 3)", x.kind(0, 1, 3), 3);
        due("kind(0, 0, 4)", x.kind(0, 0, 4), 0);
        due("kind(0, 1, 4)", x.kind(0, 1, 4), 1);
        due("degree(0, 1, 3)", x.degree(0, 1, 3), 1);
        due("undo()", x.undo(), 1);
        due("colour(0, 0)", x.colour(0, 0), 3);
        refused("swap(0, 1, 1)", x, x.swap(0, 1, 1), 5);
        refused("swap(0, 5, 5)", x, x.swap(0, 5, 5), 1);
        refused("swap(0, 0, -1)", x, x.swap(0, 0, -1), 1);
        refused("swap(3, 0, 1)", x, x.swap(3, 0, 1), 1);
        promise = 33;
        x = with("size 4;paint 0 1;paint 1 2;paint 2 3;paint 3 4;link 0 1 3");
        // seed 1: 48271, 48271 * 48271 mod 2147483647 = 182605794, then 1291394886
        // i 3: 48271 mod 4 = 3 (itself); i 2: 182605794 mod 3 = 0; i 1: 1291394886 mod 2 = 0
        fine("shuffle(0, 1)", x, x.shuffle(0, 1), 2);
        int[] colours = {2, 3, 1, 4};
        for (int v = 0; v < 4; v++) {
            due("colour(0, " + v + ")", x.colour(0, v), colours[v]);
        }
        due("kind(0, 0, 2)", x.kind(0, 0, 2), 3);
        due("undo(): one act", x.undo(), 1);
        due("colour(0, 0)", x.colour(0, 0), 1);
        fine("shuffle of one alone", x, x.shuffle(1, 2147483646), 0);
        refused("shuffle(0, 0)", x, x.shuffle(0, 0), 2);
        refused("shuffle(0, -5)", x, x.shuffle(0, -5), 2);
        refused("shuffle(0, 2147483647)", x, x.shuffle(0, 2147483647), 2);
        refused("shuffle(3, 0)", x, x.shuffle(3, 0), 1);
    }

    private static void copies() {
        promise = 34;
        GraphNames x = with("size 3;paint 0 1;link 0 2 3", "size 5;ring 0 1 2 3 4;paint 4 9");
        fine("copy(0, 1)", x, x.copy(0, 1), 3);
        due("graph(1, 1)", x.graph(1, 1), 1);
        due("kind(1, 0, 2)", x.kind(1, 0, 2), 3);
        due("colour(1, 0)", x.colour(1, 0), 1);
        x.link(0, 0, 2, 1);
        due("the copy stays", x.kind(1, 0, 2), 3);
        x.undo();
        due("undo()", x.undo(), 2);
        due("graph(1, 1)", x.graph(1, 1), 5);
        due("graph(0, 0)", x.graph(0, 0), 3);
        refused("copy(0, 0)", x, x.copy(0, 0), 5);
        refused("copy(3, 3)", x, x.copy(3, 3), 1);
        refused("copy(0, -1)", x, x.copy(0, -1), 1);
        refused("copy(3, 0)", x, x.copy(3, 0), 1);
    }

    private static void turns() {
        promise = 35;
        GraphNames x = with("size 4;link 0 1;link 0 2 2;link 0 3 3;paint 2 6");
        fine("turn(0)", x, x.turn(0), 5);
        due("kind(0, 0, 1)", x.kind(0, 0, 1), 0);
        due("kind(0, 0, 2)", x.kind(0, 0, 2), 3);
        due("kind(0, 0, 3)", x.kind(0, 0, 3), 2);
        due("kind(0, 1, 2)", x.kind(0, 1, 2), 1);
        due("colour(0, 2)", x.colour(0, 2), 6);
        fine("turn(0)", x, x.turn(0), 3);
        due("undo()", x.undo(), 2);
        due("kind(0, 1, 2)", x.kind(0, 1, 2), 1);
        fine("turn(1) of one alone", x, x.turn(1), 0);
        refused("turn(3)", x, x.turn(3), 1);
        refused("turn(-1)", x, x.turn(-1), 1);
    }

    private static void dropsAndGrowths() {
        promise = 36;
        GraphNames x = with("size 4;paint 0 1;paint 1 2;paint 2 3;paint 3 4;link 0 1;link 1 2 2;link 2 3 3");
        fine("drop(0, 1)", x, x.drop(0, 1), 3);
        due("colour(0, 0)", x.colour(0, 0), 1);
        due("colour(0, 1)", x.colour(0, 1), 3);
        due("colour(0, 2)", x.colour(0, 2), 4);
        due("kind(0, 0, 1)", x.kind(0, 0, 1), 0);
        due("kind(0, 1, 2)", x.kind(0, 1, 2), 3);
        due("graph(0, 1)", x.graph(0, 1), 1);
        refused("drop(0, 3)", x, x.drop(0, 3), 1);
        refused("drop(0, -1)", x, x.drop(0, -1), 1);
        refused("drop(3, 0)", x, x.drop(3, 0), 1);
        refused("drop(1, 0)", x, x.drop(1, 0), 5);
        refused("drop(1, 1)", x, x.drop(1, 1), 1);
        due("undo()", x.undo(), 1);
        due("kind(0, 1, 2)", x.kind(0, 1, 2), 2);
        promise = 37;
        x = with("size 5;paint 1 2");
        fine("drop(0, 4)", x, x.drop(0, 4), 4);
        fine("grow(0, 5, 7)", x, x.grow(0, 5, 7), 5);
        due("kind(0, 4, 0)", x.kind(0, 4, 0), 1);
        due("kind(0, 4, 1)", x.kind(0, 4, 1), 0);
        due("kind(0, 2, 4)", x.kind(0, 2, 4), 1);
        due("kind(0, 3, 4)", x.kind(0, 3, 4), 0);
        due("colour(0, 4)", x.colour(0, 4), 7);
        due("colour(0, 1)", x.colour(0, 1), 2);
        fine("grow(0, 0, 0)", x, x.grow(0, 0, 0), 6);
        refused("grow(0, 64, 0)", x, x.grow(0, 64, 0), 2);
        refused("grow(0, -1, 0)", x, x.grow(0, -1, 0), 2);
        refused("grow(0, 0, 10)", x, x.grow(0, 0, 10), 2);
        refused("grow(0, 0, -1)", x, x.grow(0, 0, -1), 2);
        fine("grow(0, 63, 9)", x, x.grow(0, 63, 9), 7);
        refused("grow(0, 0, 0) of 7", x, x.grow(0, 0, 0), 5);
        refused("grow(0, 128, 0) of 7", x, x.grow(0, 128, 0), 2);
        refused("grow(3, 999, 99)", x, x.grow(3, 999, 99), 1);
        due("undo()", x.undo(), 4);
        due("graph(0, 0)", x.graph(0, 0), 6);
        due("graph(0, 1)", x.graph(0, 1), 2);
    }

    private static void undone() {
        promise = 38;
        GraphNames x = new GraphNames();
        refused("undo() of none", x, x.undo(), 5);
        for (int c = 1; c <= 9; c++) {
            x.paint(c % 3, 0, c);
        }
        // 9 acts: 8 can be undone; colours then: 9 7 8
        int[][] then = {{6, 7, 8}, {6, 7, 5}, {6, 4, 5}, {3, 4, 5}, {3, 4, 2}, {3, 1, 2}, {0, 1, 2}, {0, 1, 0}};
        for (int i = 0; i < 8; i++) {
            fine("undo()", x, x.undo(), 7 - i);
            for (int g = 0; g < 3; g++) {
                due("colour(" + g + ", 0)", x.colour(g, 0), then[i][g]);
            }
        }
        refused("undo() of a ninth", x, x.undo(), 5);
        due("colour(1, 0)", x.colour(1, 0), 1);
        x.paint(0, 0, 4);
        fine("undo() behind all that", x, x.undo(), 0);
        due("colour(0, 0)", x.colour(0, 0), 0);
        fine("a text is an act", x, read(x, 0, "size 7;ring 0 1 2"), 7);
        put(x, "size 2");
        fine("undo() of a text", x, x.undo(), 0);
        due("graph(0, 0)", x.graph(0, 0), 1);
        due("the tape stays", x.size(), 20);
    }

    private static void images() {
        promise = 39;
        GraphNames x = with("size 2;link 0 1 3", "size 3", "size 4");
        due("image(0)", x.image(0), true);
        due("trouble()", x.trouble(), 0);
        due("image(2)", x.image(2), false);
        due("trouble()", x.trouble(), 1);
        due("image(-1)", x.image(-1), false);
        due("trouble()", x.trouble(), 1);
        promise = 40;
        due("again(1) that wasn't kept", x.again(1), false);
        due("trouble()", x.trouble(), 1);
        due("undo() behind an image", x.undo(), 2);
        x.drop(0, 0);
        x.turn(1);
        due("image(1)", x.image(1), true);
        due("again(0)", x.again(0), true);
        due("trouble()", x.trouble(), 0);
        due("kind(0, 0, 1)", x.kind(0, 0, 1), 3);
        due("graph(1, 1)", x.graph(1, 1), 0);
        due("graph(2, 0)", x.graph(2, 0), 4);
        refused("undo() behind again()", x, x.undo(), 5);
        x.drop(0, 0);
        x.drop(1, 0);
        due("again(0): it stays", x.again(0), true);
        due("graph(0, 0)", x.graph(0, 0), 2);
        due("graph(1, 0)", x.graph(1, 0), 3);
        due("again(1)", x.again(1), true);
        due("graph(0, 0)", x.graph(0, 0), 1);
        due("graph(1, 1)", x.graph(1, 1), 3);
        due("graph(2, 0)", x.graph(2, 0), 1);
        promise = 39;
        due("image(0) anew", x.image(0), true);
        x.grow(0, 1, 0);
        promise = 40;
        due("again(2)", x.again(2), false);
        due("trouble()", x.trouble(), 1);
        due("again(-1)", x.again(-1), false);
        due("trouble()", x.trouble(), 1);
        due("undo() behind again() that was refused", x.undo(), 0);
        x.grow(0, 1, 0);
        due("again(0)", x.again(0), true);
        due("graph(0, 0)", x.graph(0, 0), 1);
        promise = 39;
        x.kind(0, 0, 0);
        x.image(1);
        due("image(1), trouble()", x.trouble(), 0);
    }

    private static void rows() {
        promise = 41;
        GraphNames x = with("size 5;link 0 1;link 0 3 2;link 0 4 3");
        row("row(0, 0)", x, 0, 0, 2 + 8 + 16);
        row("row(0, 2)", x, 0, 2, 0);
        row("row(0, 4)", x, 0, 4, 1);
        row("row(0, 5)", x, 0, 5, THROWS);
        row("row(0, -1)", x, 0, -1, THROWS);
        row("row(3, 0)", x, 3, 0, THROWS);
        row("row(-1, 0)", x, -1, 0, THROWS);
        promise = 42;
        due("size()", x.size(), 0);
        x.feed(1, 2, 3, 4, 5);
        due("size()", x.size(), 20);
        x.text(0, 0);
        due("size() behind a text with a fault", x.size(), 0);
    }

    private static void troubles() {
        promise = 43;
        GraphNames x = new GraphNames();
        x.name(0, 7);
        due("trouble()", x.trouble(), 6);
        due("trouble() again", x.trouble(), 6);
        x.feed(0, 0, 0, 0, 0);
        x.size();
        x.fault();
        x.where();
        row("row", x, 0, 0, 0);
        row("row", x, 0, 1, THROWS);
        due("calls of which no number is told", x.trouble(), 6);
        x.name(0, 0);
        due("trouble() behind a call that wasn't refused", x.trouble(), 0);
        x.text(0, 1);
        due("trouble() of a text", x.trouble(), 4);
        x.undo();
        due("trouble() of undo()", x.trouble(), 5);
        x.image(9);
        due("trouble() of image()", x.trouble(), 1);
    }
}
