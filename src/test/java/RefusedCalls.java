/** What 'Terms' says of calls that throw an exception: each call is refused for each of its reasons. */
final class RefusedCalls extends Houses {
    private final Sentences doc;

    RefusedCalls(Sentences doc) {
        this.doc = doc;
    }

    void check() {
        doc.of("A call that throws an exception changes nothing");
        outOfBounds();
        illegalArguments();
        illegalStates();
        fullHouse();
        heads();
        doc.of("if several exceptions apply, the one that its throws clause names first is thrown.");
        severalOfDesigns();
        severalOfOrders();
    }

    /**
     * Order 0 is DONE, 1 CANCELLED, 2 SEWN on machine 0, and 3 and 4 WAIT, 4 without thread; machine 1 has too small
     * a hoop, and machine 2 is free; 2 shapes are in the draft.
     */
    private static Threadneedle busy() {
        Threadneedle house = withOtherShades(30);
        house.order(0, 2);
        house.cancel(1);
        house.order(0, 3);
        house.start(2, 0);
        house.run(0, 13);
        house.snap(0);
        house.order(0, 1);
        house.order(layers(house, 2, 3), 1);
        house.stock(2, 0, 100);
        house.machine(1, 2, 2);
        house.machine(1, 16, 16);
        shape(house, dot(4, 0));
        shape(house, dot(5, 1));
        return house;
    }

    /** There is as much of all as there can be. */
    private static Threadneedle full() {
        Threadneedle house = nearlyFullSpool();
        house.stock(3, 1, 1);
        for (int k = 0; k < 6; k++) {
            layers(house, 0);
        }
        for (int k = 0; k < 4; k++) {
            house.machine(1, 1, 1);
        }
        for (int k = 0; k < 20; k++) {
            house.order(5, 1);
        }
        for (int k = 0; k < 7; k++) {
            shape(house, dot(k % 6, k));
        }
        return house;
    }

    private void outOfBounds(String call, Checks.Call refused) {
        doc.outOfBounds(call, RefusedCalls::busy, refused);
    }

    private void illegalArgument(String call, Checks.Call refused) {
        doc.illegalArgument(call, RefusedCalls::busy, refused);
    }

    private void illegalState(String call, Checks.Call refused) {
        doc.illegalState(call, RefusedCalls::busy, refused);
    }

    private void outOfBounds() {
        outOfBounds("shape, kind", h -> h.shape(2, 0, 0, 0, 1, 1));
        outOfBounds("shape, colour", h -> h.shape(0, 6, 0, 0, 1, 1));
        outOfBounds("stock, colour", h -> h.stock(6, 0, 1));
        outOfBounds("stock, shade", h -> h.stock(5, 3, 1));
        outOfBounds("order, design", h -> h.order(2, 1));
        outOfBounds("start, order", start(5, 2));
        outOfBounds("start, machine", start(3, 3));
        outOfBounds("run, machine", h -> h.run(3, 1));
        outOfBounds("snap, machine", h -> h.snap(3));
        outOfBounds("match, order", h -> h.match(5, 0, 2));
        outOfBounds("match, colour", h -> h.match(2, 6, 2));
        outOfBounds("match, shade", h -> h.match(2, 0, 3));
        outOfBounds("cancel, order", h -> h.cancel(5));
        outOfBounds("stitches, design", h -> h.stitches(2, 0));
        outOfBounds("stitches, colour", h -> h.stitches(0, 6));
        outOfBounds("stitch, design", h -> h.stitch(2, 0, 0));
        outOfBounds("stitch, place", h -> h.stitch(0, -1, 0));
        outOfBounds("sequence, design", h -> h.sequence(2, 0));
        outOfBounds("sequence, place", h -> h.sequence(0, -1));
        outOfBounds("changes, design", h -> h.changes(2));
        outOfBounds("changesAnew, design", h -> h.changesAnew(2));
        outOfBounds("jumps, design", h -> h.jumps(2, true));
        outOfBounds("ofOrder, order", h -> h.ofOrder(5, 0));
        outOfBounds("shadeOf, order", h -> h.shadeOf(5, 0));
        outOfBounds("shadeOf, colour", h -> h.shadeOf(2, 6));
        outOfBounds("ofMachine, machine", h -> h.ofMachine(3, 0));
        outOfBounds("left, colour", h -> h.left(6, 0));
        outOfBounds("left, shade", h -> h.left(0, 3));
    }

    private void illegalArguments() {
        illegalArgument("shape, x", h -> h.shape(0, 0, 16, 0, 1, 1));
        illegalArgument("shape, y", h -> h.shape(0, 0, 0, -1, 1, 1));
        illegalArgument("shape, width", h -> h.shape(0, 0, 1, 0, 16, 1));
        illegalArgument("shape, height", h -> h.shape(0, 0, 0, 0, 1, 0));
        illegalArgument("machine, heads", h -> h.machine(7, 1, 1));
        illegalArgument("machine, width", h -> h.machine(1, 17, 1));
        illegalArgument("machine, height", h -> h.machine(1, 1, 0));
        illegalArgument("stock, stitches", h -> h.stock(0, 0, 100001));
        illegalArgument("order, pieces", h -> h.order(0, 51));
        illegalArgument("run, stitches", h -> h.run(0, 100001));
        illegalArgument("stitch, what", h -> h.stitch(0, 0, 3));
        illegalArgument("ofOrder, what", h -> h.ofOrder(0, 7));
        illegalArgument("ofMachine, what", h -> h.ofMachine(0, 4));
    }

    private void illegalStates() {
        illegalState("start of what is done", start(0, 2));
        illegalState("start of what is cancelled", start(1, 2));
        illegalState("start of what is sewn", start(2, 2));
        illegalState("start on a machine that has one", start(3, 0));
        illegalState("start with too small a hoop", start(3, 1));
        // Of colour 2 there is thread, of colour 3 there is none.
        illegalState("start without a shade of one colour", start(4, 2));
        illegalState("run without an order", h -> h.run(2, 1));
        illegalState("snap without an order", h -> h.snap(2));
        illegalState("match of what is done", h -> h.match(0, 0, 2));
        illegalState("match of what is cancelled", h -> h.match(1, 0, 2));
        illegalState("match of what waits", h -> h.match(3, 0, 2));
        illegalState("match of a colour that it has not", h -> h.match(2, 2, 0));
        illegalState("match of the shade that it has", h -> h.match(2, 0, 0));
        illegalState("match of too little", h -> h.match(2, 0, 1));
        illegalState("cancel of what is done", h -> h.cancel(0));
        illegalState("cancel of what is cancelled", h -> h.cancel(1));
        doc.illegalState("snap ahead of the first stitch", Houses::started, h -> h.snap(0));
        doc.illegalState("design of an empty draft", Houses::started, Threadneedle::design);
    }

    private void fullHouse() {
        doc.illegalState("shape, draft full", RefusedCalls::full, h -> h.shape(0, 0, 0, 0, 1, 1));
        doc.illegalState("design, 6 there", RefusedCalls::full, Threadneedle::design);
        doc.illegalState("machine, 4 there", RefusedCalls::full, h -> h.machine(1, 1, 1));
        doc.illegalState("stock, spool full", RefusedCalls::full, h -> h.stock(3, 1, 1));
        doc.illegalState("order, 20 there", RefusedCalls::full, h -> h.order(0, 1));
    }

    /** The next stitch is of colour 2: it takes the head of colour 0, as that was sewn longer ago than colour 1. */
    private static Threadneedle aheadOfThirdColour() {
        Threadneedle house = allThread(2);
        house.order(layers(house, 0, 1, 2), 1);
        house.order(0, 1);
        house.start(0, 0);
        house.run(0, 4);
        return house;
    }

    private void heads() {
        doc.illegalArgument("run of too few stitches", RefusedCalls::aheadOfThirdColour, h -> h.run(0, 0));
        doc.illegalArgument("run of too many stitches", RefusedCalls::aheadOfThirdColour, h -> h.run(0, 100001));
        doc.illegalState("start of another order", RefusedCalls::aheadOfThirdColour, start(1, 0));
        doc.illegalState("start again", RefusedCalls::aheadOfThirdColour, start(0, 0));
        doc.illegalState("match of the same shade", RefusedCalls::aheadOfThirdColour, h -> h.match(0, 0, 0));
        doc.illegalState("match of no thread", RefusedCalls::aheadOfThirdColour, h -> h.match(0, 0, 1));
    }

    private void severalOfDesigns() {
        doc.outOfBounds("shape: kind, x, full", RefusedCalls::full, h -> h.shape(2, 0, 16, 0, 1, 1));
        doc.outOfBounds("shape: kind, full", RefusedCalls::full, h -> h.shape(-1, 0, 0, 0, 1, 1));
        doc.outOfBounds("shape: colour, width", Threadneedle::new, h -> h.shape(0, 6, 0, 0, 0, 1));
        doc.outOfBounds("shape: colour, height", Threadneedle::new, h -> h.shape(0, -1, 0, 0, 1, 17));
        doc.illegalArgument("shape: y, full", RefusedCalls::full, h -> h.shape(0, 0, 0, 16, 1, 1));
        doc.illegalArgument("shape: width, full", RefusedCalls::full, h -> h.shape(0, 0, 1, 0, 16, 1));
        doc.outOfBounds("stitch: design, what", Houses::withDesign, h -> h.stitch(1, 0, 3));
        doc.outOfBounds("stitch: place, what", Houses::withDesign, h -> h.stitch(0, -1, 3));
    }

    private void severalOfOrders() {
        doc.illegalArgument("machine: heads, 4 there", RefusedCalls::full, h -> h.machine(0, 1, 1));
        doc.illegalArgument("machine: width, 4 there", RefusedCalls::full, h -> h.machine(1, 0, 1));
        doc.illegalArgument("machine: height, 4 there", RefusedCalls::full, h -> h.machine(1, 1, 17));
        doc.outOfBounds("stock: colour, stitches", Threadneedle::new, h -> h.stock(6, 1, 0));
        doc.outOfBounds("stock: shade, stitches", RefusedCalls::full, h -> h.stock(3, 3, 100001));
        doc.illegalArgument("stock: stitches, full", RefusedCalls::full, h -> h.stock(3, 1, 100001));
        doc.outOfBounds("order: design, pieces, full", RefusedCalls::full, h -> h.order(6, 0));
        doc.outOfBounds("order: design, full", RefusedCalls::full, h -> h.order(6, 1));
        doc.illegalArgument("order: pieces, full", RefusedCalls::full, h -> h.order(0, 51));
        doc.outOfBounds("start: machine, done", Houses::done, start(0, 1));
        doc.outOfBounds("start: order, machine has one", Houses::started, start(1, 0));
        doc.outOfBounds("run: machine, stitches", Houses::started, h -> h.run(1, 0));
        doc.illegalArgument("run: stitches, no order", Houses::waiting, h -> h.run(0, 100001));
        doc.outOfBounds("match: colour, waits", Houses::waiting, h -> h.match(0, 6, 0));
        doc.outOfBounds("match: shade, done", Houses::done, h -> h.match(0, 0, 3));
        doc.outOfBounds("match: shade, not that colour", Houses::started, h -> h.match(0, 2, -1));
        doc.outOfBounds("ofOrder: order, what", Houses::started, h -> h.ofOrder(1, 7));
        doc.outOfBounds("ofMachine: machine, what", Houses::started, h -> h.ofMachine(1, 4));
    }
}
