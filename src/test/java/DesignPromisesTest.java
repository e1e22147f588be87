/** Promises 1 to 4 and 13 to 18: shapes, designs, and what is asked of them. */
final class DesignPromisesTest extends Houses {
    private static final int NONE = Threadneedle.NONE;
    private static final int BLOCK = Threadneedle.BLOCK;
    private static final int STAIR = Threadneedle.STAIR;
    private static final int[] WRONG_NUMBERS = {-1, 1, 6, 7, Integer.MIN_VALUE, Integer.MAX_VALUE};
    private static final Checks CHECKS = new Checks("DesignPromisesTest");

    public static void main(String[] args) {
        constants();
        promise1NewObject();
        promise2ShapeCounts();
        promise2ShapeThrows();
        promise3Wipe();
        promise4Design();
        promise13Stitches();
        promise14StitchesOfBlocks();
        promise14StitchesOfStairs();
        promise14Stitch();
        promise15Sequence();
        promise16And17Changes();
        promise18Jumps();
        promise18HiddenJumps();
        unknownDesigns();
        CHECKS.end();
    }

    private static void constants() {
        CHECKS.due("NONE", Threadneedle.NONE, -1);
        CHECKS.due("BLOCK", Threadneedle.BLOCK, 0);
        CHECKS.due("STAIR", Threadneedle.STAIR, 1);
        CHECKS.due("WAITS", Threadneedle.WAITS, 0);
        CHECKS.due("SEWN", Threadneedle.SEWN, 1);
        CHECKS.due("DONE", Threadneedle.DONE, 2);
        CHECKS.due("CANCELLED", Threadneedle.CANCELLED, 3);
    }

    private static void promise1NewObject() {
        Threadneedle house = new Threadneedle();
        CHECKS.due("wipe of a new house", house.wipe(), 0);
        for (int spool = 0; spool < 18; spool++) {
            CHECKS.due("left of a new house", house.left(spool / 3, spool % 3), 0);
        }
        CHECKS.illegalState("design of a new house", Threadneedle::new, Threadneedle::design);
        CHECKS.outOfBounds("changes of a new house", Threadneedle::new, h -> h.changes(0));
        CHECKS.outOfBounds("ofMachine of a new house", Threadneedle::new, h -> h.ofMachine(0, 0));
        CHECKS.outOfBounds("ofOrder of a new house", Threadneedle::new, h -> h.ofOrder(0, 0));
        CHECKS.due("the first shape", house.shape(BLOCK, 0, 0, 0, 1, 1), 1);
        CHECKS.due("another house's draft", new Threadneedle().wipe(), 0);
    }

    private static void promise2ShapeCounts() {
        Threadneedle house = new Threadneedle();
        CHECKS.due("shape 1", house.shape(BLOCK, 0, 0, 0, 16, 16), 1);
        CHECKS.due("shape 2", house.shape(STAIR, 5, 15, 15, 1, 1), 2);
        CHECKS.due("shape 3", house.shape(STAIR, 1, 0, 15, 16, 1), 3);
        CHECKS.due("shape 4", house.shape(BLOCK, 2, 15, 0, 1, 16), 4);
        CHECKS.due("shape 5", house.shape(BLOCK, 3, 3, 9, 13, 7), 5);
        CHECKS.due("shape 6", house.shape(BLOCK, 4, 1, 1, 1, 1), 6);
        CHECKS.due("shape 7", house.shape(BLOCK, 4, 1, 1, 1, 1), 7);
    }

    private static void promise2ShapeThrows() {
        int[] wrongKinds = {-1, 2, Integer.MIN_VALUE, Integer.MAX_VALUE};
        int[] wrongColours = {-1, 6, Integer.MIN_VALUE, Integer.MAX_VALUE};
        int[] wrongPlaces = {-1, 16, Integer.MIN_VALUE, Integer.MAX_VALUE};
        int[] wrongLengths = {-1, 0, 15, 16, 17, Integer.MIN_VALUE, Integer.MAX_VALUE};
        Checks.Maker maker = Houses::draftOfOne;
        for (int kind : wrongKinds) {
            CHECKS.outOfBounds("kind " + kind, maker, h -> h.shape(kind, 0, 0, 0, 1, 1));
            CHECKS.outOfBounds("kind first " + kind, maker, h -> h.shape(kind, 0, 16, 0, 1, 1));
        }
        for (int colour : wrongColours) {
            CHECKS.outOfBounds("colour " + colour, maker, h -> h.shape(BLOCK, colour, 0, 0, 1, 1));
            CHECKS.outOfBounds("colour first " + colour, maker, h -> h.shape(STAIR, colour, 0, 0, 0, 1));
        }
        for (int place : wrongPlaces) {
            CHECKS.illegalArgument("x " + place, maker, h -> h.shape(BLOCK, 0, place, 0, 1, 1));
            CHECKS.illegalArgument("y " + place, maker, h -> h.shape(STAIR, 0, 0, place, 1, 1));
        }
        for (int length : wrongLengths) {
            CHECKS.illegalArgument("width " + length, maker, h -> h.shape(BLOCK, 0, 2, 0, length, 1));
            CHECKS.illegalArgument("height " + length, maker, h -> h.shape(STAIR, 0, 0, 2, 1, length));
        }
        CHECKS.illegalArgument("x and width wrap", maker, h -> h.shape(BLOCK, 0, -2147483648, 0, 2147483647, 1));
        CHECKS.illegalState("shape 8", Houses::fullDraft, h -> h.shape(BLOCK, 0, 0, 0, 1, 1));
        CHECKS.illegalArgument("x ahead of 8", Houses::fullDraft, h -> h.shape(BLOCK, 0, 9, 0, 8, 1));
        CHECKS.outOfBounds("colour ahead of 8", Houses::fullDraft, h -> h.shape(BLOCK, 6, 0, 0, 1, 1));
    }

    private static void promise3Wipe() {
        Threadneedle house = fullDraft();
        CHECKS.due("wipe of 7", house.wipe(), 7);
        CHECKS.due("wipe again", house.wipe(), 0);
        CHECKS.due("shape after wipe", house.shape(BLOCK, 3, 4, 5, 1, 1), 1);
        CHECKS.due("design after wipe", house.design(), 0);
        CHECKS.due("its stitches", house.stitches(0, NONE), 2);
        CHECKS.due("its shape", house.stitch(0, 0, 2), 0);
        CHECKS.due("its cells", Checks.cells(house, 0, 0, 2), "4,5 4,5");
        house.shape(BLOCK, 0, 0, 0, 3, 3);
        CHECKS.due("wipe of 1", house.wipe(), 1);
        CHECKS.due("the design stays", house.stitches(0, NONE), 2);
        CHECKS.illegalState("design of what is wiped", () -> {
            Threadneedle wiped = fullDraft();
            wiped.wipe();
            return wiped;
        }, Threadneedle::design);
    }

    private static void promise4Design() {
        Threadneedle house = new Threadneedle();
        for (int number = 0; number < 6; number++) {
            house.shape(BLOCK, number, number, 0, number + 1, 1);
            CHECKS.due("design " + number, house.design(), number);
            CHECKS.due("the draft behind it", house.wipe(), 0);
        }
        for (int number = 0; number < 6; number++) {
            CHECKS.due("stitches of " + number, house.stitches(number, number), 2 * (number + 1));
        }
        CHECKS.illegalState("design 6 of a draft", Houses::sixDesigns, Threadneedle::design);
        CHECKS.illegalState("design 6 without", () -> {
            Threadneedle wiped = sixDesigns();
            wiped.wipe();
            return wiped;
        }, Threadneedle::design);
        CHECKS.illegalState("an empty draft", () -> designOf(dot(0, 0)), Threadneedle::design);
    }

    private static void promise13Stitches() {
        Threadneedle house = designOf(block(0, 0, 0, 16, 16), stair(5, 0, 0, 16, 16), block(0, 3, 3, 3, 3),
                stair(2, 9, 9, 4, 4));
        CHECKS.due("stitches of colour 0", house.stitches(0, 0), 256 + 60 + 9 + 8);
        CHECKS.due("stitches of colour 5", house.stitches(0, 5), 136 + 45);
        CHECKS.due("stitches of colour 2", house.stitches(0, 2), 10 + 9);
        CHECKS.due("stitches of colour 1", house.stitches(0, 1), 0);
        CHECKS.due("stitches in all", house.stitches(0, NONE), 316 + 181 + 17 + 19);
        int[] wrongColours = {-2, 6, Integer.MIN_VALUE, Integer.MAX_VALUE};
        for (int colour : wrongColours) {
            CHECKS.outOfBounds("stitches of " + colour, () -> designOf(dot(0, 0)), h -> h.stitches(0, colour));
        }
    }

    private static void promise14StitchesOfBlocks() {
        Threadneedle house = designOf(block(1, 4, 7, 3, 3));
        CHECKS.due("rows", Checks.cells(house, 0, 0, 9), "4,7 5,7 6,7 6,8 5,8 4,8 4,9 5,9 6,9");
        CHECKS.due("edge", Checks.cells(house, 0, 9, 8), "4,7 5,7 6,7 4,8 6,8 4,9 5,9 6,9");
        Threadneedle corner = designOf(block(1, 13, 14, 3, 2));
        CHECKS.due("corner", Checks.cells(corner, 0, 0, 6), "13,14 14,14 15,14 15,15 14,15 13,15");
        CHECKS.due("corner's edge", Checks.cells(corner, 0, 6, 6), "13,14 14,14 15,14 13,15 14,15 15,15");
        Threadneedle all = designOf(block(1, 0, 0, 16, 16));
        CHECKS.due("edge of all cells", Checks.cells(all, 0, 256, 19),
                "0,0 1,0 2,0 3,0 4,0 5,0 6,0 7,0 8,0 9,0 10,0 11,0 12,0 13,0 14,0 15,0 0,1 15,1 0,2");
        CHECKS.due("the last of all cells", Checks.cells(all, 0, 315, 1), "15,15");
        CHECKS.due("behind the last of all cells", all.stitch(0, 316, 0), NONE);
    }

    private static void promise14StitchesOfStairs() {
        Threadneedle house = designOf(stair(1, 5, 3, 2, 4));
        CHECKS.due("high rows", Checks.cells(house, 0, 0, 7), "5,3 6,4 5,4 5,5 6,5 6,6 5,6");
        CHECKS.due("high edge", Checks.cells(house, 0, 7, 7), "5,3 5,4 6,4 5,5 6,5 5,6 6,6");
        Threadneedle wide = designOf(stair(1, 0, 0, 9, 2));
        CHECKS.due("wide stair", Checks.cells(wide, 0, 0, 6), "0,0 1,1 0,1 0,0 0,1 1,1");
        CHECKS.due("wide stair's stitches", wide.stitches(0, NONE), 6);
        Threadneedle four = designOf(stair(1, 0, 0, 4, 4));
        CHECKS.due("edge of 4", Checks.cells(four, 0, 10, 9), "0,0 0,1 1,1 0,2 2,2 0,3 1,3 2,3 3,3");
        CHECKS.due("rows of 4", Checks.cells(four, 0, 3, 7), "0,2 1,2 2,2 3,3 2,3 1,3 0,3");
    }

    private static void promise14Stitch() {
        Threadneedle house = designOf(dot(0, 0), dot(1, 1), dot(0, 2));
        CHECKS.due("shapes of stitches", "" + house.stitch(0, 0, 2) + house.stitch(0, 1, 2) + house.stitch(0, 2, 2)
                + house.stitch(0, 3, 2) + house.stitch(0, 4, 2) + house.stitch(0, 5, 2), "002211");
        CHECKS.due("cells", Checks.cells(house, 0, 0, 6), "0,0 0,0 4,0 4,0 2,0 2,0");
        for (int what = 0; what < 3; what++) {
            CHECKS.due("behind the last", house.stitch(0, 6, what), NONE);
            CHECKS.due("far behind", house.stitch(0, Integer.MAX_VALUE, what), NONE);
        }
        Checks.Maker maker = () -> designOf(dot(0, 0));
        int[] wrongWhats = {-1, 3, Integer.MIN_VALUE, Integer.MAX_VALUE};
        for (int what : wrongWhats) {
            CHECKS.illegalArgument("what " + what, maker, h -> h.stitch(0, 0, what));
            CHECKS.illegalArgument("what of none " + what, maker, h -> h.stitch(0, 99, what));
            CHECKS.outOfBounds("place ahead of what " + what, maker, h -> h.stitch(0, -1, what));
            CHECKS.outOfBounds("design ahead of what " + what, maker, h -> h.stitch(1, 0, what));
        }
        CHECKS.outOfBounds("place -1", maker, h -> h.stitch(0, -1, 0));
        CHECKS.outOfBounds("least place", maker, h -> h.stitch(0, Integer.MIN_VALUE, 0));
    }

    private static void sequenceDue(String sequence, int changes, int[]... shapes) {
        Threadneedle house = designOf(shapes);
        CHECKS.due("sequence", Checks.sequence(house, 0), sequence);
        CHECKS.due("changes of " + sequence, house.changes(0), changes);
        CHECKS.due("changes anew of " + sequence, house.changesAnew(0), changes);
    }

    private static void promise15Sequence() {
        sequenceDue("0", 0, dot(3, 0));
        sequenceDue("0213", 1, dot(0, 0), dot(1, 1), dot(0, 2), dot(1, 3));
        // Of the same few changes the lowest numbers first, shape by shape.
        sequenceDue("1234506", 5, dot(0, 0), dot(1, 1), dot(2, 2), dot(3, 3), dot(4, 4), dot(5, 5),
                block(0, 0, 0, 11, 1));
        sequenceDue("012345", 5, dot(5, 0), dot(4, 1), dot(3, 2), dot(2, 3), dot(1, 4), dot(0, 5));
        sequenceDue("0361245", 3, dot(2, 0), dot(1, 1), dot(1, 2), dot(2, 3), dot(0, 4), dot(3, 5), dot(2, 6));
        // A cell in common keeps the lower number ahead, though it costs a change.
        sequenceDue("012", 2, block(0, 0, 0, 3, 1), block(1, 2, 0, 3, 1), block(0, 4, 0, 3, 1));
        sequenceDue("102", 1, block(1, 0, 0, 1, 1), block(0, 5, 5, 3, 3), block(1, 7, 7, 3, 3));
        // Boxes in common, but no cell: a stair's empty corner.
        sequenceDue("021", 1, stair(0, 0, 0, 3, 3), block(1, 1, 0, 1, 1), block(0, 2, 0, 1, 2));
        sequenceDue("102", 1, stair(0, 0, 0, 3, 3), block(1, 1, 0, 2, 1), block(0, 2, 0, 1, 2));
        sequenceDue("021", 1, stair(0, 0, 0, 3, 3), block(1, 9, 9, 1, 1), block(0, 1, 0, 2, 1));
        sequenceDue("012", 2, stair(0, 0, 0, 3, 3), block(1, 0, 2, 1, 1), block(0, 0, 1, 1, 2));
        // Neighbours without a cell in common are free.
        sequenceDue("021", 1, block(0, 0, 0, 2, 2), block(1, 2, 0, 2, 2), block(0, 4, 0, 2, 2));
        Threadneedle house = designOf(dot(0, 0), dot(1, 1));
        CHECKS.due("behind the sequence", house.sequence(0, 2), NONE);
        CHECKS.due("far behind the sequence", house.sequence(0, Integer.MAX_VALUE), NONE);
        CHECKS.outOfBounds("place -1", () -> designOf(dot(0, 0)), h -> h.sequence(0, -1));
        CHECKS.outOfBounds("least place", () -> designOf(dot(0, 0)), h -> h.sequence(0, Integer.MIN_VALUE));
    }

    private static void promise16And17Changes() {
        sequenceDue("01", 1, dot(4, 0), dot(5, 1));
        sequenceDue("01", 0, dot(4, 0), dot(4, 1));
        sequenceDue("0123456", 6, block(0, 0, 0, 3, 1), block(1, 0, 0, 3, 1), block(0, 0, 0, 3, 1),
                block(1, 0, 0, 3, 1), block(0, 0, 0, 3, 1), block(1, 0, 0, 3, 1), block(0, 0, 0, 3, 1));
        sequenceDue("0246135", 1, dot(0, 0), dot(1, 1), dot(0, 2), dot(1, 3), dot(0, 4), dot(1, 5), dot(0, 6));
        // To take the lower colour first would cost a change more.
        sequenceDue("1023", 2, dot(0, 0), block(1, 0, 8, 2, 1), block(0, 1, 8, 2, 1), block(1, 2, 8, 2, 1));
    }

    private static void jumpsDue(int open, int hidden, int[]... shapes) {
        Threadneedle house = designOf(shapes);
        CHECKS.due("open jumps", house.jumps(0, false), open);
        CHECKS.due("hidden jumps", house.jumps(0, true), hidden);
    }

    private static void promise18Jumps() {
        jumpsDue(0, 0, block(0, 3, 3, 1, 1));
        // From the rows' end, (3, 4), to the edge's begin, (3, 3): 1 off.
        jumpsDue(0, 0, block(0, 3, 3, 2, 2));
        // Rows end at (0, 1), the edge goes from (2, 0) to (0, 1).
        jumpsDue(1, 0, block(0, 0, 0, 3, 2));
        // Rows end at (2, 2); the edge begins at (0, 0), then goes over the middle of row 1 and back.
        jumpsDue(4, 0, block(0, 0, 0, 3, 3));
        jumpsDue(1, 0, block(0, 0, 0, 1, 3));
        // From shape to shape, of like colours alone; 1 off askew is none.
        jumpsDue(1, 0, dot(0, 0), dot(0, 1));
        jumpsDue(0, 0, dot(0, 0), dot(1, 1));
        jumpsDue(0, 0, block(0, 3, 3, 1, 1), block(0, 4, 4, 1, 1));
        jumpsDue(1, 0, block(0, 3, 3, 1, 1), block(0, 4, 5, 1, 1));
        jumpsDue(1, 0, block(0, 5, 4, 1, 1), block(0, 3, 4, 1, 1));
        jumpsDue(1, 0, block(0, 0, 0, 1, 1), block(1, 5, 0, 1, 1), block(0, 9, 0, 1, 1), block(2, 5, 5, 1, 1));
    }

    private static void promise18HiddenJumps() {
        jumpsDue(0, 1, block(0, 0, 0, 1, 1), block(0, 4, 0, 1, 1), block(1, 2, 0, 1, 1));
        // Half of both sums is rounded down.
        jumpsDue(0, 1, block(0, 0, 0, 1, 1), block(0, 3, 0, 1, 1), block(1, 1, 0, 1, 1));
        jumpsDue(1, 0, block(0, 0, 0, 1, 1), block(0, 3, 0, 1, 1), block(1, 2, 0, 1, 1));
        jumpsDue(0, 1, block(0, 5, 9, 1, 1), block(0, 4, 4, 1, 1), block(1, 4, 6, 1, 1));
        jumpsDue(1, 0, block(0, 5, 9, 1, 1), block(0, 4, 4, 1, 1), block(1, 5, 7, 1, 1));
        // A shape ahead of the later stitch's, or that one itself, hides nothing.
        jumpsDue(1, 0, block(1, 2, 0, 1, 1), block(0, 0, 0, 1, 1), block(0, 4, 0, 1, 1));
        jumpsDue(2, 0, block(0, 0, 0, 1, 1), block(0, 2, 0, 3, 1));
        // A shape of the same colour hides, too, and the jump to it goes over nothing.
        jumpsDue(1, 1, block(0, 0, 0, 1, 1), block(0, 4, 0, 1, 1), block(0, 2, 0, 1, 1));
        // Inside a shape: from (2, 0) to (0, 1), over (1, 0).
        jumpsDue(0, 1, block(0, 0, 0, 3, 2), block(1, 1, 0, 1, 1));
        jumpsDue(1, 0, block(0, 0, 0, 3, 2), block(1, 0, 0, 1, 1));
        // Behind in the sequence, not by its number: shape 0 is sewn last.
        Threadneedle house = designOf(block(1, 0, 2, 1, 1), block(2, 9, 9, 1, 1), block(0, 0, 0, 1, 1),
                block(0, 0, 4, 1, 1), block(1, 9, 9, 1, 1));
        CHECKS.due("sequence of the last one", Checks.sequence(house, 0), "10423");
        CHECKS.due("not hidden by one ahead", house.jumps(0, true), 0);
        Threadneedle other = designOf(block(1, 2, 0, 1, 1), block(0, 8, 8, 1, 1), block(1, 8, 8, 1, 1),
                block(0, 6, 6, 3, 1), block(0, 4, 6, 1, 1));
        CHECKS.due("sequence of the other", Checks.sequence(other, 0), "13402");
        CHECKS.due("other's hidden jumps", other.jumps(0, true), 0);
        jumpsDue(2, 1, block(1, 2, 0, 1, 1), block(0, 0, 0, 1, 1), block(0, 4, 0, 1, 1), block(0, 9, 9, 1, 1),
                block(1, 9, 9, 1, 1));
    }

    private static void unknownDesigns() {
        Checks.Maker maker = () -> designOf(dot(0, 0));
        for (int number : WRONG_NUMBERS) {
            CHECKS.outOfBounds("stitches of " + number, maker, h -> h.stitches(number, 0));
            CHECKS.outOfBounds("stitches in all of " + number, maker, h -> h.stitches(number, NONE));
            CHECKS.outOfBounds("stitch of " + number, maker, h -> h.stitch(number, 0, 0));
            CHECKS.outOfBounds("sequence of " + number, maker, h -> h.sequence(number, 0));
            CHECKS.outOfBounds("changes of " + number, maker, h -> h.changes(number));
            CHECKS.outOfBounds("changesAnew of " + number, maker, h -> h.changesAnew(number));
            CHECKS.outOfBounds("jumps of " + number, maker, h -> h.jumps(number, true));
            CHECKS.outOfBounds("open jumps of " + number, maker, h -> h.jumps(number, false));
        }
    }
}
