/** The cases that promises 1 to 4 and 13 to 18 name, of shapes and designs: a test for each sentence. */
final class DesignBoundaries extends Houses {
    private static final int NONE = Threadneedle.NONE;
    private static final int BLOCK = Threadneedle.BLOCK;
    private static final int STAIR = Threadneedle.STAIR;
    private static final int MIN = Integer.MIN_VALUE;
    private static final int MAX = Integer.MAX_VALUE;
    private final Sentences doc;

    DesignBoundaries(Sentences doc) {
        this.doc = doc;
    }

    void check() {
        doc.part("Promise 1", this::newHouse);
        doc.part("Promise 2", this::shapeKindAndColour, this::shapeBox, this::shapeThrows);
        doc.part("Promise 3", this::wipe);
        doc.part("Promise 4", this::design);
        doc.part("Promise 13", this::stitches);
        doc.part("Promise 14", this::stitch, this::stitchThrows);
        doc.part("Promise 15", this::sequence);
        doc.part("Promise 16", this::changes);
        doc.part("Promise 17", this::changesAnew);
        doc.part("Promise 18", this::jumps);
    }

    /** 1 design of 1 cell in the first place, and one of 7 in the last one, 5. */
    private static Threadneedle firstAndLast() {
        Threadneedle house = new Threadneedle();
        for (int number = 0; number < 5; number++) {
            addDesign(house, dot(number, number));
        }
        addDesign(house, dot(0, 0), dot(1, 1), dot(0, 2), dot(1, 3), dot(0, 4), dot(1, 5), dot(0, 6));
        return house;
    }

    private interface OfDesign {
        long answer(Threadneedle house, int design);
    }

    /** Designs that there are not: none at all, one behind the last one, and far off. */
    private void noSuchDesign(OfDesign of) {
        doc.outOfBounds("of a new house", Threadneedle::new, h -> of.answer(h, 0));
        doc.outOfBounds("of a draft", Houses::draftOfOne, h -> of.answer(h, 0));
        for (int design : new int[] {-1, 6, MIN, MAX}) {
            doc.outOfBounds("design " + design, DesignBoundaries::firstAndLast, h -> of.answer(h, design));
        }
        doc.outOfBounds("behind the last one", Houses::withDesign, h -> of.answer(h, 1));
    }

    // ---- shapes, designs

    private void newHouse() {
        doc.of("Creates a house without designs, machines and thread; the draft is empty.");
        used();
        Threadneedle house = new Threadneedle();
        for (int spool = 0; spool < 18; spool++) {
            doc.due("left of spool " + spool, house.left(spool / 3, spool % 3), 0);
        }
        doc.due("its draft", house.wipe(), 0);
        doc.outOfBounds("its designs", Threadneedle::new, h -> h.changes(0));
        doc.outOfBounds("its machines", Threadneedle::new, h -> h.ofMachine(0, 0));
        doc.outOfBounds("its orders", Threadneedle::new, h -> h.ofOrder(0, 0));
        doc.illegalState("design of its draft", Threadneedle::new, Threadneedle::design);
    }

    /** Another house that has all that a new one has not. */
    private static void used() {
        Threadneedle other = started();
        other.shape(BLOCK, 0, 0, 0, 1, 1);
    }

    private void shapeKindAndColour() {
        doc.of("Puts a shape behind the draft.");
        Threadneedle house = new Threadneedle();
        for (int number = 0; number < 7; number++) {
            shape(house, dot(0, number));
        }
        house.design();
        for (int place = 0; place < 14; place++) {
            doc.due("x of stitch " + place, house.stitch(0, place, 0), 2 * (place / 2));
            doc.due("shape of stitch " + place, house.stitch(0, place, 2), place / 2);
        }
        doc.of("- kind: BLOCK or STAIR");
        doc.due("stitches of kind 0", designOf(new int[] {0, 0, 0, 0, 2, 2}).stitches(0, 0), 8);
        doc.due("stitches of kind 1", designOf(new int[] {1, 0, 0, 0, 2, 2}).stitches(0, 0), 6);
        doc.of("- colour: 0 to 5");
        for (int colour = 0; colour <= 5; colour++) {
            doc.due("stitches of colour " + colour, designOf(block(colour, 0, 0, 1, 1)).stitches(0, colour), 2);
            doc.due("of a stair, too", designOf(stair(colour, 0, 0, 1, 1)).stitches(0, colour), 2);
        }
        doc.of("Returns how many shapes the draft has then.");
        Threadneedle counting = new Threadneedle();
        for (int number = 1; number <= 7; number++) {
            doc.due("shape " + number, shape(counting, dot(0, 0)), number);
        }
        counting.design();
        doc.due("shape behind a design", shape(counting, dot(0, 0)), 1);
    }

    private void shapeBox() {
        doc.of("- x: 0 to 15: the least x of its box");
        for (int x = 0; x <= 15; x++) {
            doc.due("x of a block", designOf(block(0, x, 3, 1, 2)).stitch(0, 0, 0), x);
            doc.due("x of a stair", designOf(stair(0, x, 3, 1, 2)).stitch(0, 0, 0), x);
        }
        doc.of("- y: 0 to 15: the least y");
        for (int y = 0; y <= 15; y++) {
            doc.due("y of a block", designOf(block(0, 3, y, 2, 1)).stitch(0, 0, 1), y);
            doc.due("y of a stair", designOf(stair(0, 3, y, 2, 1)).stitch(0, 0, 1), y);
        }
        doc.of("- width: 1 to 16 less x");
        for (int from = 0; from <= 15; from++) {
            int x = from;
            doc.due("least width", designOf(block(0, x, 3, 1, 1)).stitches(0, 0), 2);
            doc.due("greatest width", designOf(block(0, x, 3, 16 - x, 1)).stitches(0, 0), 2 * (16 - x));
            doc.illegalArgument("1 wider than that", Threadneedle::new, h -> h.shape(BLOCK, 0, x, 3, 17 - x, 1));
            doc.illegalArgument("a stair, too", Threadneedle::new, h -> h.shape(STAIR, 0, x, 3, 17 - x, 1));
            doc.illegalArgument("no width", Threadneedle::new, h -> h.shape(BLOCK, 0, x, 3, 0, 1));
        }
        doc.of("- height: 1 to 16 less y");
        for (int from = 0; from <= 15; from++) {
            int y = from;
            doc.due("least height", designOf(block(0, 3, y, 1, 1)).stitches(0, 0), 2);
            doc.due("greatest height", designOf(block(0, 3, y, 1, 16 - y)).stitches(0, 0), 2 * (16 - y));
            doc.illegalArgument("1 higher than that", Threadneedle::new, h -> h.shape(BLOCK, 0, 3, y, 1, 17 - y));
            doc.illegalArgument("a stair, too", Threadneedle::new, h -> h.shape(STAIR, 0, 3, y, 1, 17 - y));
            doc.illegalArgument("no height", Threadneedle::new, h -> h.shape(BLOCK, 0, 3, y, 1, 0));
        }
    }

    private void shapeThrows() {
        doc.of("Throws IndexOutOfBoundsException if there is no such kind or colour");
        for (int kind : new int[] {-1, 2, MIN, MAX}) {
            doc.outOfBounds("kind " + kind, Houses::draftOfOne, h -> h.shape(kind, 0, 0, 0, 1, 1));
        }
        for (int colour : new int[] {-1, 6, MIN, MAX}) {
            doc.outOfBounds("block of " + colour, Houses::draftOfOne, h -> h.shape(BLOCK, colour, 0, 0, 1, 1));
            doc.outOfBounds("stair of " + colour, Houses::draftOfOne, h -> h.shape(STAIR, colour, 0, 0, 1, 1));
        }
        doc.of("Throws IllegalArgumentException if x, y, width or height is out of range");
        for (int place : new int[] {-1, 16, MIN, MAX}) {
            doc.illegalArgument("x " + place, Houses::draftOfOne, h -> h.shape(BLOCK, 0, place, 0, 1, 1));
            doc.illegalArgument("y " + place, Houses::draftOfOne, h -> h.shape(BLOCK, 0, 0, place, 1, 1));
        }
        for (int length : new int[] {-1, 0, 17, MIN, MAX}) {
            doc.illegalArgument("width " + length, Houses::draftOfOne, h -> h.shape(BLOCK, 0, 0, 0, length, 1));
            doc.illegalArgument("height " + length, Houses::draftOfOne, h -> h.shape(BLOCK, 0, 0, 0, 1, length));
        }
        // Sums and differences that wrap around into the range.
        doc.illegalArgument("x + width is -1", Houses::draftOfOne, h -> h.shape(BLOCK, 0, MIN, 0, MAX, 1));
        doc.illegalArgument("y + height is 1", Houses::draftOfOne, h -> h.shape(BLOCK, 0, 0, MIN + 1, 1, MIN));
        doc.illegalArgument("16 - x is above all", Houses::draftOfOne, h -> h.shape(BLOCK, 0, -MAX + 15, 0, 1, 1));
        doc.illegalArgument("15 and 2 wide", Houses::draftOfOne, h -> h.shape(BLOCK, 0, 15, 0, 2, 1));
        doc.illegalArgument("15 and 2 high", Houses::draftOfOne, h -> h.shape(BLOCK, 0, 0, 15, 1, 2));
        doc.of("Throws IllegalStateException if it has 7");
        doc.illegalState("shape 8", Houses::fullDraft, h -> h.shape(BLOCK, 0, 0, 0, 1, 1));
        doc.illegalState("stair as shape 8", Houses::fullDraft, h -> h.shape(STAIR, 5, 15, 15, 1, 1));
    }

    private void wipe() {
        doc.of("Empties the draft; returns how many shapes it had.");
        for (int shapes = 0; shapes <= 7; shapes++) {
            Threadneedle house = new Threadneedle();
            for (int number = 0; number < shapes; number++) {
                shape(house, dot(0, number));
            }
            doc.due("wipe of " + shapes, house.wipe(), shapes);
            doc.due("wipe again", house.wipe(), 0);
        }
        Threadneedle again = fullDraft();
        again.wipe();
        for (int number = 1; number <= 7; number++) {
            doc.due("shape behind a wipe", shape(again, dot(5, number)), number);
        }
        again.design();
        doc.due("none of what was wiped", again.stitches(0, 0), 0);
        doc.due("wipe behind a design", again.wipe(), 0);
        doc.due("the design stays", again.stitches(0, 5), 14);
        doc.illegalState("design of what is wiped", () -> {
            Threadneedle wiped = fullDraft();
            wiped.wipe();
            return wiped;
        }, Threadneedle::design);
    }

    private void design() {
        doc.of("Makes a design of the draft, which is empty then.");
        for (int shapes = 1; shapes <= 7; shapes++) {
            Threadneedle house = new Threadneedle();
            for (int number = 0; number < shapes; number++) {
                shape(house, dot(3, number));
            }
            house.design();
            doc.due("stitches of " + shapes, house.stitches(0, NONE), 2 * shapes);
            doc.due("the draft", house.wipe(), 0);
        }
        doc.of("Returns its number, from 0 on.");
        Threadneedle house = new Threadneedle();
        for (int number = 0; number < 6; number++) {
            doc.due("design " + number, addDesign(house, dot(number, number)), number);
        }
        for (int number = 0; number < 6; number++) {
            doc.due("stitches of design " + number, house.stitches(number, number), 2);
        }
        doc.of("Throws IllegalStateException if the draft is empty, or there are 6");
        doc.illegalState("an empty draft", Threadneedle::new, Threadneedle::design);
        doc.illegalState("a draft that is a design", Houses::withDesign, Threadneedle::design);
        doc.illegalState("6 designs", Houses::sixDesigns, Threadneedle::design);
        doc.illegalState("6 designs and an empty draft", DesignBoundaries::firstAndLast, Threadneedle::design);
        Threadneedle full = sixDesigns();
        Checks.answer(full, Threadneedle::design);
        doc.due("its draft", full.wipe(), 1);
    }

    // ---- what is asked

    private void stitches() {
        doc.of("Returns how many stitches a design has, of a colour, or of all.");
        doc.due("the fewest", designOf(dot(4, 0)).stitches(0, NONE), 2);
        Threadneedle most = designOf(whole(0), whole(0), whole(0), whole(0), whole(0), whole(0), whole(5));
        doc.due("the most", most.stitches(0, NONE), 7 * 316);
        doc.due("of colour 0", most.stitches(0, 0), 6 * 316);
        doc.due("of colour 5", most.stitches(0, 5), 316);
        doc.due("of none of its colours", most.stitches(0, 1), 0);
        doc.of("- design: the number of a design");
        doc.due("the first one", firstAndLast().stitches(0, NONE), 2);
        doc.due("the last one", firstAndLast().stitches(5, NONE), 14);
        doc.of("- colour: 0 to 5, or NONE, for all");
        Threadneedle house = designOf(block(0, 0, 0, 1, 1), block(1, 0, 2, 2, 1), block(2, 0, 4, 3, 1),
                block(3, 0, 6, 4, 1), block(4, 0, 8, 5, 1), block(5, 0, 10, 6, 1));
        for (int colour = 0; colour <= 5; colour++) {
            doc.due("colour " + colour, house.stitches(0, colour), 2 * (colour + 1));
        }
        doc.due("all", house.stitches(0, NONE), 42);
        doc.of("Throws IndexOutOfBoundsException if there is no such design, or colour, but for NONE");
        noSuchDesign((h, number) -> h.stitches(number, 0));
        noSuchDesign((h, number) -> h.stitches(number, NONE));
        for (int colour : new int[] {-2, 6, MIN, MAX}) {
            doc.outOfBounds("colour " + colour, Houses::withDesign, h -> h.stitches(0, colour));
        }
        doc.due("but for NONE", withDesign().stitches(0, NONE), 10);
    }

    private void stitch() {
        doc.of("Tells of a stitch of a design.");
        doc.due("of two", Checks.cells(designOf(block(0, 14, 15, 2, 1)), 0, 0, 4), "14,15 15,15 14,15 15,15");
        doc.of("- design: the number of a design");
        doc.due("the first one", firstAndLast().stitch(0, 1, 0), 0);
        doc.due("the last one", firstAndLast().stitch(5, 13, 0), 10);
        doc.of("- place: 0 for the first one");
        Threadneedle house = designOf(block(0, 3, 4, 1, 1), block(1, 15, 0, 1, 1));
        doc.due("x of the first one", house.stitch(0, 0, 0), 3);
        doc.due("x of the last one", house.stitch(0, 3, 0), 15);
        doc.of("- what: 0 its x, 1 its y, 2 its shape");
        doc.due("its x", house.stitch(0, 0, 0), 3);
        doc.due("its y", house.stitch(0, 0, 1), 4);
        doc.due("its shape", house.stitch(0, 0, 2), 0);
        doc.due("the last one's x", house.stitch(0, 3, 0), 15);
        doc.due("the last one's y", house.stitch(0, 3, 1), 0);
        doc.due("the last one's shape", house.stitch(0, 3, 2), 1);
        doc.of("Returns as told; NONE, if there are not so many.");
        Threadneedle most = designOf(whole(0), whole(0), whole(0), whole(0), whole(0), whole(0), whole(0));
        for (int what = 0; what <= 2; what++) {
            doc.due("behind the last one", house.stitch(0, 4, what), NONE);
            doc.due("the greatest place", house.stitch(0, MAX, what), NONE);
            doc.due("the last one of the most", most.stitch(0, 2211, what), what == 2 ? 6 : 15);
            doc.due("behind the most", most.stitch(0, 2212, what), NONE);
        }
    }

    private void stitchThrows() {
        doc.of("Throws IndexOutOfBoundsException if there is no such design, or place is below 0");
        noSuchDesign((h, number) -> h.stitch(number, 0, 0));
        noSuchDesign((h, number) -> h.stitch(number, 5000, 2));
        for (int place : new int[] {-1, -2, MIN}) {
            doc.outOfBounds("place " + place, Houses::withDesign, h -> h.stitch(0, place, 0));
        }
        doc.of("Throws IllegalArgumentException if what is out of range");
        for (int what : new int[] {-1, 3, MIN, MAX}) {
            doc.illegalArgument("what " + what, Houses::withDesign, h -> h.stitch(0, 0, what));
            // Out of range, too, if there are not so many.
            doc.illegalArgument("behind the last one, what " + what, Houses::withDesign, h -> h.stitch(0, 10, what));
        }
    }

    private void sequence() {
        doc.of("Returns a shape of the sequence of a design.");
        doc.due("7 shapes", Checks.sequence(firstAndLast(), 5), "0246135");
        doc.of("- design: the number of a design");
        doc.due("the first one", Checks.sequence(firstAndLast(), 0), "0");
        doc.due("the last one", firstAndLast().sequence(5, 1), 2);
        doc.of("- place: 0 for the first one");
        Threadneedle house = designOf(dot(0, 0), block(1, 0, 8, 2, 1), block(0, 1, 8, 2, 1), block(1, 2, 8, 2, 1));
        doc.due("the first one", house.sequence(0, 0), 1);
        doc.due("the last one", house.sequence(0, 3), 3);
        doc.of("Returns the number of the shape; NONE, if there are not so many.");
        doc.due("behind the last one", house.sequence(0, 4), NONE);
        doc.due("the greatest place", house.sequence(0, MAX), NONE);
        doc.due("behind 1", firstAndLast().sequence(0, 1), NONE);
        doc.due("the last one of 7", firstAndLast().sequence(5, 6), 5);
        doc.due("behind 7", firstAndLast().sequence(5, 7), NONE);
        doc.of("Throws IndexOutOfBoundsException if there is no such design, or place is below 0");
        noSuchDesign((h, number) -> h.sequence(number, 0));
        noSuchDesign((h, number) -> h.sequence(number, 99));
        for (int place : new int[] {-1, -2, MIN}) {
            doc.outOfBounds("place " + place, Houses::withDesign, h -> h.sequence(0, place));
        }
    }

    private void changes() {
        doc.of("Returns the changes of a design.");
        doc.due("the first one", firstAndLast().changes(0), 0);
        doc.due("the last one", firstAndLast().changes(5), 1);
        doc.due("the most", inTurn().changes(0), 6);
        doc.of("@throws IndexOutOfBoundsException if there is no such design");
        noSuchDesign(Threadneedle::changes);
    }

    /** 7 shapes that keep to their numbers, of 2 colours in turn. */
    private static Threadneedle inTurn() {
        Threadneedle house = new Threadneedle();
        layers(house, 0, 1, 0, 1, 0, 1, 0);
        return house;
    }

    private void changesAnew() {
        doc.of("Returns the same, found by trying all orders of its shapes.");
        doc.due("the first one", firstAndLast().changesAnew(0), 0);
        doc.due("the last one", firstAndLast().changesAnew(5), 1);
        doc.due("the most", inTurn().changesAnew(0), 6);
        doc.due("6 colours", designOf(dot(0, 0), dot(1, 1), dot(2, 2), dot(3, 3), dot(4, 4), dot(5, 5), dot(0, 6))
                .changesAnew(0), 5);
        // The fewest of the orders that keep to cells in common, not of all.
        doc.due("by cells in common", designOf(dot(0, 0), dot(1, 0), dot(0, 0)).changesAnew(0), 2);
        doc.due("the last order of all", designOf(dot(0, 0), block(1, 0, 8, 2, 1), block(0, 1, 8, 2, 1),
                block(1, 2, 8, 2, 1)).changesAnew(0), 2);
        doc.of("@throws IndexOutOfBoundsException if there is no such design");
        noSuchDesign(Threadneedle::changesAnew);
    }

    private void jumps() {
        doc.of("Counts the jumps of a design.");
        doc.due("none", designOf(dot(0, 0)).jumps(0, false) + designOf(dot(0, 0)).jumps(0, true), 0);
        doc.due("one", designOf(block(0, 0, 0, 3, 1)).jumps(0, false), 1);
        Threadneedle apart = designOf(dot(0, 0), dot(0, 1), dot(0, 2), dot(0, 3), dot(0, 4), dot(0, 5), dot(0, 6));
        doc.due("six", apart.jumps(0, false), 6);
        // From the rows' end to the edge's begin; then over all rows' middles but two, and back to each row's begin.
        doc.due("of the greatest shape", designOf(whole(0)).jumps(0, false), 1 + 14 + 15);
        doc.of("- design: the number of a design");
        doc.due("the first one", firstAndLast().jumps(0, false), 0);
        doc.due("the last one", firstAndLast().jumps(5, false), 2);
        doc.due("the last one, hidden", firstAndLast().jumps(5, true), 3);
        doc.of("- isHidden: whether those that are hidden are counted, or the others");
        Threadneedle both = designOf(block(0, 0, 0, 1, 1), block(0, 4, 0, 1, 1), block(0, 4, 4, 1, 1), dot(1, 1));
        doc.due("hidden ones", both.jumps(0, true), 1);
        doc.due("the others", both.jumps(0, false), 1);
        doc.due("none hidden", apart.jumps(0, true), 0);
        Threadneedle under = designOf(whole(0), whole(1));
        doc.due("all hidden but those of the last one", under.jumps(0, true) * 100 + under.jumps(0, false), 3030);
        doc.of("Throws IndexOutOfBoundsException if there is no such design");
        noSuchDesign((h, number) -> h.jumps(number, true));
        noSuchDesign((h, number) -> h.jumps(number, false));
    }
}
