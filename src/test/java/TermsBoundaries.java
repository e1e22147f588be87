/** The cases that 'What it is', 'The public face' and the first half of 'Terms' name: a test for each sentence. */
final class TermsBoundaries extends Houses {
    private static final int NONE = Threadneedle.NONE;
    private final Sentences doc;

    TermsBoundaries(Sentences doc) {
        this.doc = doc;
    }

    void check() {
        doc.part("What it is", this::calls);
        doc.part("The public face", this::values);
        doc.part("Terms", this::constants, new RefusedCalls(doc)::check, this::grid, this::blocks, this::stairs,
                this::rows, this::edges, this::designs, this::cellsInCommon, this::sequences, this::changes,
                this::jumps, this::hiddenJumps);
    }

    private void calls() {
        doc.of("An object is used for at most 512 calls after it has been made");
        Threadneedle stocked = new Threadneedle();
        for (int call = 1; call < 512; call++) {
            stocked.stock(0, 0, 1);
        }
        doc.due("stock as call 512", stocked.stock(0, 0, 1), 512);
        Threadneedle sewing = designOf(whole(0));
        sewing.machine(1, 16, 16);
        sewing.order(0, 50);
        sewing.stock(0, 0, 100000);
        sewing.start(0, 0);
        for (int call = 7; call < 512; call++) {
            sewing.run(0, 1);
        }
        doc.due("ofMachine as call 512", sewing.ofMachine(0, 3), 505);
        Threadneedle ordered = designOf(dot(0, 0), dot(1, 1), dot(0, 2), dot(1, 3), dot(0, 4), dot(1, 5), dot(0, 6));
        for (int call = 9; call < 512; call++) {
            ordered.changesAnew(0);
        }
        doc.due("changesAnew as call 512", ordered.changesAnew(0), 1);
        Threadneedle refusing = new Threadneedle();
        for (int call = 1; call < 512; call++) {
            Checks.answer(refusing, Threadneedle::design);
        }
        doc.due("shape as call 512", shape(refusing, dot(0, 0)), 1);
    }

    private void values() {
        doc.of("NONE = -1");
        doc.due("NONE", Threadneedle.NONE, -1);
        doc.of("BLOCK = 0, STAIR = 1");
        doc.due("BLOCK", Threadneedle.BLOCK, 0);
        doc.due("STAIR", Threadneedle.STAIR, 1);
        doc.of("WAITS = 0, SEWN = 1, DONE = 2, CANCELLED = 3");
        doc.due("WAITS", Threadneedle.WAITS, 0);
        doc.due("SEWN", Threadneedle.SEWN, 1);
        doc.due("DONE", Threadneedle.DONE, 2);
        doc.due("CANCELLED", Threadneedle.CANCELLED, 3);
    }

    private void constants() {
        doc.of("The constants: NONE = -1: None.");
        doc.due("behind a sequence", designOf(dot(0, 0)).sequence(0, 1), -1);
        doc.due("behind the stitches", designOf(dot(0, 0)).stitch(0, 2, 0), -1);
        doc.due("no machine", waiting().ofOrder(0, 6), -1);
        doc.due("no shade", waiting().shadeOf(0, 0), -1);
        doc.due("no order", waiting().ofMachine(0, 0), -1);
        doc.due("of all colours", withDesign().stitches(0, -1), 10);
        doc.of("BLOCK = 0, STAIR = 1: Shapes.");
        Threadneedle house = new Threadneedle();
        house.shape(0, 0, 0, 0, 2, 2);
        house.shape(1, 1, 4, 0, 2, 2);
        house.design();
        doc.due("stitches of kind 0", house.stitches(0, 0), 4 + 4);
        doc.due("stitches of kind 1", house.stitches(0, 1), 3 + 3);
        doc.of("WAITS = 0, SEWN = 1, DONE = 2, CANCELLED = 3: What orders are.");
        doc.due("what waits", waiting().ofOrder(0, 0), 0);
        doc.due("what is sewn", started().ofOrder(0, 0), 1);
        doc.due("what is done", done().ofOrder(0, 0), 2);
        doc.due("what is cancelled", cancelled().ofOrder(0, 0), 3);
    }

    // ---- shapes

    private void grid() {
        doc.of("Cells are (x, y), x and y 0 to 15.");
        cellsDue("0,0 0,0", block(0, 0, 0, 1, 1));
        cellsDue("15,0 15,0", block(0, 15, 0, 1, 1));
        cellsDue("0,15 0,15", block(0, 0, 15, 1, 1));
        cellsDue("15,15 15,15", block(0, 15, 15, 1, 1));
        for (int out : new int[] {-1, 16}) {
            doc.illegalArgument("x " + out, Threadneedle::new, h -> shape(h, block(0, out, 0, 1, 1)));
            doc.illegalArgument("y " + out, Threadneedle::new, h -> shape(h, block(0, 0, out, 1, 1)));
        }
        doc.of("Colours are 0 to 5, shades of a colour 0 to 2.");
        Threadneedle house = new Threadneedle();
        for (int colour = 0; colour <= 5; colour++) {
            doc.due("shape of colour " + colour, shape(house, dot(colour, colour)), colour + 1);
            for (int shade = 0; shade <= 2; shade++) {
                doc.due("stock of shade " + shade, house.stock(colour, shade, 1), 1);
            }
        }
        for (int colour : new int[] {-1, 6}) {
            doc.outOfBounds("shape of colour " + colour, Threadneedle::new, h -> shape(h, dot(colour, 0)));
            doc.outOfBounds("stock of colour " + colour, Threadneedle::new, h -> h.stock(colour, 0, 1));
        }
        for (int shade : new int[] {-1, 3}) {
            doc.outOfBounds("stock of shade " + shade, Threadneedle::new, h -> h.stock(0, shade, 1));
        }
    }

    /** All stitches of a design of one shape. */
    private void cellsDue(String cells, int[] shape) {
        Threadneedle house = designOf(shape);
        doc.due("all stitches", Checks.cells(house, 0, 0, house.stitches(0, NONE)), cells);
    }

    private void stitchesDue(int cells, int edges, int[] shape) {
        doc.due("stitches of " + cells + " cells", designOf(shape).stitches(0, NONE), cells + edges);
    }

    private void blocks() {
        doc.of("is a BLOCK: all cells of a box");
        stitchesDue(1, 1, block(0, 7, 7, 1, 1));
        stitchesDue(16, 16, block(0, 0, 9, 16, 1));
        stitchesDue(16, 16, block(0, 9, 0, 1, 16));
        stitchesDue(256, 60, whole(0));
        stitchesDue(255 - 15, 58, block(0, 1, 0, 15, 16));
        cellsDue("14,14 15,14 15,15 14,15 14,14 15,14 14,15 15,15", block(0, 14, 14, 2, 2));
    }

    private void stairs() {
        doc.of("of the row k of a box, counted from 0 at its least y, the first k and 1 cells from its least x on,"
                + " at most all.");
        cellsDue("7,9 7,9", stair(0, 7, 9, 1, 1));
        // Its one row is row 0, of 1 cell.
        cellsDue("0,9 0,9", stair(0, 0, 9, 16, 1));
        // All rows of 1 cell.
        stitchesDue(16, 16, stair(0, 9, 0, 1, 16));
        // 1 row too few, just as many rows, 1 row more than that.
        cellsDue("13,13 14,14 13,14 13,13 13,14 14,14", stair(0, 13, 13, 3, 2));
        stitchesDue(6, 6, stair(0, 13, 13, 3, 3));
        stitchesDue(3 + 2, 5, stair(0, 14, 13, 2, 3));
        Threadneedle greatest = designOf(stair(0, 0, 0, 16, 16));
        doc.due("stitches of the greatest one", greatest.stitches(0, NONE), 136 + 45);
        endsDue("row 14", greatest, 105, 119, "0,14 14,14");
        endsDue("row 15", greatest, 120, 135, "15,15 0,15");
    }

    /** The cells of two stitches of design 0. */
    private void endsDue(String of, Threadneedle house, int first, int last, String cells) {
        doc.due(of, Checks.cells(house, 0, first, 1) + " " + Checks.cells(house, 0, last, 1), cells);
    }

    private void rows() {
        doc.of("Its stitches: first its rows by rising y, the first one by rising x, the next one by falling x,"
                + " and so on in turn, one stitch for each cell");
        doc.due("1 row", Checks.cells(designOf(block(0, 3, 5, 3, 1)), 0, 0, 3), "3,5 4,5 5,5");
        // The first one is by rising x, whether its y is even or odd.
        doc.due("2 rows", Checks.cells(designOf(block(0, 3, 5, 2, 2)), 0, 0, 4), "3,5 4,5 4,6 3,6");
        doc.due("3 rows", Checks.cells(designOf(block(0, 3, 6, 2, 3)), 0, 0, 6), "3,6 4,6 4,7 3,7 3,8 4,8");
        doc.due("rows of 1", Checks.cells(designOf(block(0, 3, 13, 1, 3)), 0, 0, 3), "3,13 3,14 3,15");
        Threadneedle all = designOf(whole(0));
        endsDue("row 0", all, 0, 15, "0,0 15,0");
        endsDue("row 1", all, 16, 31, "15,1 0,1");
        endsDue("row 14", all, 224, 239, "0,14 15,14");
        endsDue("row 15", all, 240, 255, "15,15 0,15");
    }

    private void edges() {
        doc.of("then, as the edge, one more for each of its cells beside which, left, right, above or below, is a cell"
                + " that it does not have");
        // Of the cells in the middles of its sides one beside each is not its own.
        doc.due("all but the middle", Checks.cells(designOf(block(0, 4, 4, 3, 3)), 0, 9, 8),
                "4,4 5,4 6,4 4,5 6,5 4,6 5,6 6,6");
        stitchesDue(9, 8, block(0, 4, 4, 3, 3));
        stitchesDue(6, 6, block(0, 4, 4, 3, 2));
        stitchesDue(6, 6, block(0, 4, 4, 2, 3));
        // (5, 6) lacks a cell askew, not beside.
        stitchesDue(10, 9, stair(0, 4, 4, 4, 4));
        // What another shape has, it does not have.
        doc.due("beside another shape", designOf(block(0, 4, 4, 3, 3), block(0, 7, 4, 1, 3)).stitches(0, 0), 17 + 6);
        doc.of("(cells out of 0 to 15 are such)");
        stitchesDue(9, 8, block(0, 0, 4, 3, 3));
        stitchesDue(9, 8, block(0, 13, 4, 3, 3));
        stitchesDue(9, 8, block(0, 4, 0, 3, 3));
        stitchesDue(9, 8, block(0, 4, 13, 3, 3));
        stitchesDue(256, 60, whole(0));
        doc.of("by rising y, then rising x");
        Threadneedle all = designOf(whole(0));
        endsDue("the first row's edge", all, 256, 271, "0,0 15,0");
        endsDue("the next row's edge", all, 272, 273, "0,1 15,1");
        endsDue("the last row's edge", all, 300, 315, "0,15 15,15");
    }

    // ---- designs

    private void designs() {
        doc.of("A design is a row of 1 to 7 shapes, numbered from 0 in it.");
        Threadneedle house = designOf(dot(0, 0));
        addDesign(house, dot(0, 0), dot(0, 1), dot(0, 2), dot(0, 3), dot(0, 4), dot(0, 5), dot(0, 6));
        addDesign(house, dot(0, 1), dot(0, 0));
        doc.due("of 1", Checks.sequence(house, 0), "0");
        doc.due("of 7", Checks.sequence(house, 1), "0123456");
        doc.due("x of number 6", house.stitch(1, 13, 0), 12);
        doc.due("number 0 of the next one", house.stitch(2, 0, 2) * 100 + house.stitch(2, 0, 0), 2);
        doc.illegalState("of none", Threadneedle::new, Threadneedle::design);
        doc.illegalState("of 8", Houses::fullDraft, h -> shape(h, dot(0, 0)));
    }

    private void sequenceDue(String sequence, int[]... shapes) {
        doc.due("sequence", Checks.sequence(designOf(shapes), 0), sequence);
    }

    private void cellsInCommon() {
        doc.of("Of two shapes that have a cell in common, the one with the higher number is sewn later.");
        int[] ends = {0, 15};
        for (int x : ends) {
            for (int y : ends) {
                // One cell alone, in a corner: without it, 021 would be due.
                sequenceDue("102", dot(0, 12), block(1, x, y, 1, 1), block(0, x, y, 1, 1));
            }
        }
        sequenceDue("102", dot(0, 12), block(1, 0, 0, 3, 3), block(0, 2, 2, 3, 3));
        sequenceDue("102", dot(0, 0), block(1, 0, 1, 16, 15), block(0, 9, 9, 1, 1));
        // Beside one another, or askew: none in common.
        sequenceDue("021", dot(0, 31), block(1, 4, 4, 1, 1), block(0, 3, 4, 1, 1));
        sequenceDue("021", dot(0, 31), block(1, 4, 4, 1, 1), block(0, 5, 4, 1, 1));
        sequenceDue("021", dot(0, 31), block(1, 4, 4, 1, 1), block(0, 4, 3, 1, 1));
        sequenceDue("021", dot(0, 31), block(1, 4, 4, 1, 1), block(0, 4, 5, 1, 1));
        sequenceDue("021", dot(0, 31), block(1, 4, 4, 1, 1), block(0, 5, 5, 1, 1));
        // In a stair's box, but not a cell of it; then the stair's last cell in that row.
        sequenceDue("021", dot(0, 31), stair(1, 0, 0, 3, 3), block(0, 2, 1, 1, 1));
        sequenceDue("102", dot(0, 31), stair(1, 0, 0, 3, 3), block(0, 1, 1, 1, 1));
        // The first and the last one of 7: without that, 1234605 would be due. Each one and the next one.
        sequenceDue("0123465", dot(1, 0), dot(0, 1), dot(0, 2), dot(0, 3), dot(0, 4), dot(1, 4), dot(0, 0));
        sequenceDue("0123456", block(0, 0, 0, 2, 1), block(1, 1, 0, 2, 1), block(0, 2, 0, 2, 1), block(1, 3, 0, 2, 1),
                block(0, 4, 0, 2, 1), block(1, 5, 0, 2, 1), block(0, 6, 0, 2, 1));
    }

    private void sequences() {
        doc.of("The sequence of a design is that order of its shapes, of all that keep to this, in which the fewest"
                + " neighbours are of unlike colours");
        sequenceDue("0", dot(5, 0));
        sequenceDue("0246135", dot(0, 0), dot(1, 1), dot(0, 2), dot(1, 3), dot(0, 4), dot(1, 5), dot(0, 6));
        sequenceDue("0612345", dot(0, 0), dot(1, 1), dot(2, 2), dot(3, 3), dot(4, 4), dot(5, 5), dot(0, 6));
        // The lowest number first would cost a change more, and so would the lowest one next.
        sequenceDue("1023", dot(0, 0), block(1, 0, 8, 2, 1), block(0, 1, 8, 2, 1), block(1, 2, 8, 2, 1));
        sequenceDue("0132", dot(2, 0), dot(0, 1), dot(1, 2), dot(0, 1));
        doc.of("of several the first one by its first number, then its second one, and so on, lower ones first.");
        sequenceDue("01", dot(5, 0), dot(4, 1));
        sequenceDue("0123456", dot(3, 0), dot(3, 1), dot(3, 2), dot(3, 3), dot(3, 4), dot(3, 5), dot(3, 6));
        sequenceDue("012345", dot(5, 0), dot(4, 1), dot(3, 2), dot(2, 3), dot(1, 4), dot(0, 5));
        sequenceDue("0213", dot(1, 0), dot(0, 1), dot(1, 2), dot(0, 3));
        // The last two are alike but for their numbers.
        sequenceDue("0132456", dot(0, 0), dot(1, 1), dot(2, 2), dot(1, 3), dot(3, 4), dot(4, 5), dot(5, 6));
    }

    private void changes() {
        doc.of("Its changes are these neighbours of unlike colours; its stitches are those of its shapes, in"
                + " sequence.");
        doc.due("changes of 1 shape", designOf(dot(3, 0)).changes(0), 0);
        doc.due("changes of 7 of one colour", designOf(dot(3, 0), dot(3, 1), dot(3, 2), dot(3, 3), dot(3, 4),
                dot(3, 5), dot(3, 6)).changes(0), 0);
        doc.due("changes of 6 colours", designOf(dot(0, 0), dot(1, 1), dot(2, 2), dot(3, 3), dot(4, 4), dot(5, 5),
                dot(0, 6)).changes(0), 5);
        Threadneedle most = new Threadneedle();
        layers(most, 0, 1, 0, 1, 0, 1, 0);
        doc.due("changes of 7 in turn", most.changes(0), 6);
        Threadneedle house = designOf(dot(0, 0), dot(1, 1), dot(0, 2));
        doc.due("stitches in sequence", Checks.cells(house, 0, 0, 6), "0,0 0,0 4,0 4,0 2,0 2,0");
    }

    // ---- jumps

    private void jumpsDue(int open, int hidden, int[]... shapes) {
        Threadneedle house = designOf(shapes);
        doc.due("open jumps", house.jumps(0, false), open);
        doc.due("hidden jumps", house.jumps(0, true), hidden);
    }

    private void jumps() {
        doc.of("A jump is a stitch of the same colour as the one ahead of it, whose x or y is more than 1 off that of"
                + " that one.");
        // 0, 1 and 2 off by x, then by y.
        jumpsDue(0, 0, block(0, 5, 5, 1, 1));
        jumpsDue(0, 0, block(0, 5, 5, 2, 1));
        jumpsDue(1, 0, block(0, 5, 5, 3, 1));
        jumpsDue(0, 0, block(0, 5, 5, 1, 2));
        jumpsDue(1, 0, block(0, 5, 5, 1, 3));
        jumpsDue(0, 0, block(0, 5, 5, 2, 2));
        jumpsDue(1, 0, block(0, 0, 9, 16, 1));
        // Of unlike colours.
        jumpsDue(0, 0, dot(0, 0), dot(1, 31));
        // In a stair, where a row begins as far right as it may.
        jumpsDue(1, 0, stair(0, 0, 0, 2, 2), block(0, 4, 1, 1, 1));
        doc.of("Jumps go over from shape to shape, too.");
        jumpsDue(0, 0, block(0, 5, 5, 1, 1), block(0, 5, 5, 1, 1));
        jumpsDue(0, 0, block(0, 5, 5, 1, 1), block(0, 6, 6, 1, 1));
        jumpsDue(0, 0, block(0, 5, 5, 1, 1), block(0, 4, 6, 1, 1));
        jumpsDue(1, 0, block(0, 5, 5, 1, 1), block(0, 7, 5, 1, 1));
        jumpsDue(1, 0, block(0, 5, 5, 1, 1), block(0, 3, 5, 1, 1));
        jumpsDue(1, 0, block(0, 5, 5, 1, 1), block(0, 5, 7, 1, 1));
        jumpsDue(1, 0, block(0, 5, 5, 1, 1), block(0, 5, 3, 1, 1));
        jumpsDue(1, 0, block(0, 0, 0, 1, 1), block(0, 15, 15, 1, 1));
        jumpsDue(6, 0, dot(0, 0), dot(0, 1), dot(0, 2), dot(0, 3), dot(0, 4), dot(0, 5), dot(0, 6));
    }

    /** A jump from cell to cell by shapes 0 and 1, and a cell of another colour behind both. */
    private void overDue(int hidden, int[] from, int[] to, int[] over) {
        jumpsDue(1 - hidden, hidden, block(0, from[0], from[1], 1, 1), block(0, to[0], to[1], 1, 1),
                block(1, over[0], over[1], 1, 1));
    }

    private void hiddenJumps() {
        doc.of("One is hidden, if the cell in the middle of both, x and y each half of both sums, rounded down");
        int[] least = {0, 0};
        int[] greatest = {15, 15};
        overDue(1, least, new int[] {2, 0}, new int[] {1, 0});
        overDue(1, least, new int[] {3, 0}, new int[] {1, 0});
        overDue(0, least, new int[] {3, 0}, new int[] {2, 0});
        overDue(1, least, new int[] {0, 3}, new int[] {0, 1});
        overDue(0, least, new int[] {0, 3}, new int[] {0, 2});
        overDue(1, greatest, new int[] {12, 12}, new int[] {13, 13});
        overDue(0, greatest, new int[] {12, 12}, new int[] {14, 14});
        overDue(0, greatest, new int[] {12, 12}, new int[] {13, 14});
        overDue(1, greatest, least, new int[] {7, 7});
        overDue(0, greatest, least, new int[] {8, 8});
        overDue(0, least, greatest, new int[] {8, 7});
        // Of the stitch just ahead, (1, 0), not of those ahead of it.
        jumpsDue(0, 1, block(0, 0, 0, 2, 1), block(0, 5, 0, 1, 1), block(1, 3, 0, 1, 1));
        jumpsDue(1, 0, block(0, 0, 0, 2, 1), block(0, 5, 0, 1, 1), block(1, 2, 0, 1, 1));
        doc.of("is one of a shape that is behind that of the later stitch in the sequence.");
        // Of the last one of 7, behind by 5; of the next one; of its own; of one ahead.
        jumpsDue(0, 1, block(0, 0, 0, 1, 1), block(0, 4, 0, 1, 1), dot(1, 8), dot(2, 9), dot(3, 10), dot(4, 11),
                block(5, 2, 0, 1, 1));
        overDue(1, least, new int[] {4, 0}, new int[] {2, 0});
        jumpsDue(2, 0, block(0, 0, 0, 1, 1), block(0, 2, 0, 3, 1));
        jumpsDue(1, 0, block(1, 2, 0, 1, 1), block(0, 0, 0, 1, 1), block(0, 4, 0, 1, 1));
        // A cell of the box of a stair that is not one of the stair, then one that is.
        jumpsDue(1, 0, block(0, 2, 0, 1, 1), block(0, 6, 0, 1, 1), stair(1, 3, 0, 2, 2));
        jumpsDue(0, 1, block(0, 2, 1, 1, 1), block(0, 6, 1, 1, 1), stair(1, 3, 0, 2, 2));
        // By its number behind, in the sequence ahead: 1 is sewn first, 4 ahead of 2.
        Threadneedle house = designOf(block(1, 9, 9, 1, 1), block(0, 2, 2, 1, 1), block(1, 0, 0, 1, 1),
                block(1, 4, 0, 1, 1), block(0, 2, 0, 1, 1), block(1, 2, 2, 1, 1));
        doc.due("sequence", Checks.sequence(house, 0), "140235");
        doc.due("hidden by none behind", house.jumps(0, true), 0);
    }
}
