/** The cases that promises 5 to 12 and 19 to 22 name, of machines, thread and orders: a test for each sentence. */
final class HouseBoundaries extends Houses {
    private static final int NONE = Threadneedle.NONE;
    private static final int MIN = Integer.MIN_VALUE;
    private static final int MAX = Integer.MAX_VALUE;
    private static final int[] NO_COLOURS = {-1, 6, MIN, MAX};
    private static final int[] NO_SHADES = {-1, 3, MIN, MAX};
    private static final int[] NOT_1_TO_100000 = {0, -1, 100001, MIN, MAX};
    private final Sentences doc;

    HouseBoundaries(Sentences doc) {
        this.doc = doc;
    }

    void check() {
        doc.part("Promise 5", this::machine);
        doc.part("Promise 6", this::stock, this::stockThrows);
        doc.part("Promise 7", this::order);
        doc.part("Promise 8", this::start, this::startThrows);
        doc.part("Promise 9", this::run, this::runThrows);
        doc.part("Promise 10", this::snap);
        doc.part("Promise 11", this::match, this::matchThrows);
        doc.part("Promise 12", this::cancel);
        doc.part("Promise 19", this::ofOrder);
        doc.part("Promise 20", this::shadeOf);
        doc.part("Promise 21", this::ofMachine);
        doc.part("Promise 22", this::left);
    }

    private interface OfNumber {
        long answer(Threadneedle house, int number);
    }

    /** Orders that there are not: none at all, one behind the last one, and far off. */
    private void noSuchOrder(OfNumber of) {
        doc.outOfBounds("of a new house", Threadneedle::new, h -> of.answer(h, 0));
        doc.outOfBounds("of a house without orders", Houses::withDesign, h -> of.answer(h, 0));
        doc.outOfBounds("behind the last one", Houses::started, h -> of.answer(h, 1));
        for (int number : new int[] {-1, 20, MIN, MAX}) {
            doc.outOfBounds("order " + number, Houses::twentyOrders, h -> of.answer(h, number));
        }
    }

    /** Machines that there are not: none at all, one behind the last one, and far off. */
    private void noSuchMachine(OfNumber of) {
        doc.outOfBounds("of a new house", Threadneedle::new, h -> of.answer(h, 0));
        doc.outOfBounds("behind the last one", Houses::started, h -> of.answer(h, 1));
        for (int number : new int[] {-1, 4, MIN, MAX}) {
            doc.outOfBounds("machine " + number, Houses::fourMachines, h -> of.answer(h, number));
        }
    }

    /** Of the 20 orders all WAIT, and there are 4 machines, of which 3 have the first 3 orders, 1 piece each. */
    private static Threadneedle lastOrderAndMachine() {
        Threadneedle house = withDesign();
        house.stock(0, 0, 1000);
        house.stock(1, 0, 1000);
        for (int number = 0; number < 20; number++) {
            house.order(0, 1);
        }
        for (int number = 0; number < 4; number++) {
            house.machine(2, 16, 16);
        }
        for (int number = 0; number < 3; number++) {
            house.start(number, number);
        }
        return house;
    }

    // ---- machines, thread

    private void machine() {
        doc.of("Sets a machine up.");
        Threadneedle house = new Threadneedle();
        house.machine(1, 1, 1);
        doc.machineDue("new", house, 0, "-1 0 0 0");
        doc.of("- heads: 1 to 6");
        for (int heads = 1; heads <= 6; heads++) {
            Threadneedle sewing = allThread(heads);
            sewing.order(layers(sewing, 0, 1, 2, 3, 4, 5), 1);
            sewing.start(0, 0);
            sewing.run(0, 12);
            doc.due("heads that hold colours", Integer.bitCount(sewing.ofMachine(0, 2)), heads);
        }
        doc.of("- width: 1 to 16");
        hoops((h, width) -> h.machine(1, width, 16), block(0, 0, 0, 2, 1), block(0, 15, 0, 1, 1));
        doc.of("- height: 1 to 16");
        hoops((h, height) -> h.machine(1, 16, height), block(0, 0, 0, 1, 2), block(0, 0, 15, 1, 1));
        doc.of("Returns its number, from 0 on.");
        Threadneedle four = new Threadneedle();
        for (int number = 0; number < 4; number++) {
            doc.due("machine " + number, four.machine(1, 1, 1), number);
        }
        doc.of("Throws IllegalArgumentException if heads, width or height is out of range");
        for (int heads : new int[] {-1, 0, 7, MIN, MAX}) {
            doc.illegalArgument("heads " + heads, Threadneedle::new, h -> h.machine(heads, 1, 1));
        }
        for (int length : new int[] {-1, 0, 17, MIN, MAX}) {
            doc.illegalArgument("width " + length, Threadneedle::new, h -> h.machine(1, length, 1));
            doc.illegalArgument("height " + length, Threadneedle::new, h -> h.machine(1, 1, length));
        }
        doc.of("Throws IllegalStateException if there are 4");
        doc.illegalState("machine 4", Houses::fourMachines, h -> h.machine(1, 1, 1));
        doc.illegalState("the greatest one", Houses::fourMachines, h -> h.machine(6, 16, 16));
    }

    /** A hoop of 1 is too small for 2, and one of 16 is great enough for 16. */
    private void hoops(OfNumber machine, int[] of2, int[] of16) {
        for (int length = 1; length <= 16; length++) {
            Threadneedle house = designOf(of2);
            addDesign(house, of16);
            house.stock(0, 0, 100);
            house.order(0, 1);
            house.order(1, 1);
            doc.due("machine", machine.answer(house, length), 0);
            String refused = "throws java.lang.IllegalStateException";
            doc.due("16 in " + length, Checks.answer(house, start(1, 0)), length < 16 ? refused : "0");
            Checks.answer(house, h -> h.cancel(1));
            doc.due("2 in " + length, Checks.answer(house, start(0, 0)), length < 2 ? refused : "0");
        }
    }

    private void stock() {
        doc.of("Buys thread.");
        Threadneedle house = new Threadneedle();
        house.stock(2, 1, 7);
        doc.due("what is bought", house.left(2, 1), 7);
        doc.of("- colour: 0 to 5");
        for (int colour = 0; colour <= 5; colour++) {
            doc.due("colour " + colour, house.stock(colour, 0, colour + 1), colour + 1);
        }
        doc.due("of the first one", house.left(0, 0), 1);
        doc.due("of the last one", house.left(5, 0), 6);
        doc.of("- shade: 0 to 2");
        for (int shade = 0; shade <= 2; shade++) {
            doc.due("shade " + shade, new Threadneedle().stock(3, shade, 1), 1);
        }
        doc.of("- stitches: 1 to 100000");
        doc.due("1", new Threadneedle().stock(0, 0, 1), 1);
        doc.due("100000", new Threadneedle().stock(0, 0, 100000), 100000);
        doc.of("Returns how many stitches are in stock then.");
        Threadneedle much = new Threadneedle();
        for (int bought = 1; bought <= 10; bought++) {
            doc.due("100000 more", much.stock(5, 2, 100000), bought * 100000);
        }
        Threadneedle sewn = sewnBy(3);
        doc.due("behind what is sewn", sewn.stock(0, 0, 1), 98);
    }

    private void stockThrows() {
        doc.of("Throws IndexOutOfBoundsException if there is no such colour or shade");
        for (int colour : NO_COLOURS) {
            doc.outOfBounds("colour " + colour, Threadneedle::new, h -> h.stock(colour, 0, 1));
        }
        for (int shade : NO_SHADES) {
            doc.outOfBounds("shade " + shade, Threadneedle::new, h -> h.stock(0, shade, 1));
            doc.outOfBounds("shade of the last colour " + shade, Threadneedle::new, h -> h.stock(5, shade, 1));
        }
        doc.of("Throws IllegalArgumentException if stitches is out of range");
        for (int stitches : NOT_1_TO_100000) {
            doc.illegalArgument("stitches " + stitches, Threadneedle::new, h -> h.stock(0, 0, stitches));
            doc.illegalArgument("with much in stock " + stitches, Houses::nearlyFullSpool,
                    h -> h.stock(3, 1, stitches));
        }
        doc.of("Throws IllegalStateException if it would be more than 1000000");
        doc.due("just 1000000", nearlyFullSpool().stock(3, 1, 1), 1000000);
        doc.illegalState("1 more", Houses::nearlyFullSpool, h -> h.stock(3, 1, 2));
        doc.illegalState("much more", Houses::nearlyFullSpool, h -> h.stock(3, 1, 100000));
        doc.illegalState("1 more than 1000000", () -> {
            Threadneedle full = nearlyFullSpool();
            full.stock(3, 1, 1);
            return full;
        }, h -> h.stock(3, 1, 1));
        doc.due("of another shade", nearlyFullSpool().stock(3, 2, 100000), 100000);
        Threadneedle sewing = nearlyFullSpool();
        sewing.stock(3, 1, 1);
        sewing.order(addDesign(sewing, dot(3, 0)), 1);
        sewing.machine(1, 16, 16);
        sewing.start(0, 0);
        sewing.run(0, 1);
        doc.due("as many as are sewn", sewing.stock(3, 1, 1), 1000000);
    }

    // ---- orders

    private void order() {
        doc.of("Takes an order.");
        Threadneedle house = withDesign();
        house.order(0, 1);
        doc.orderDue("new", house, 0, "0 0 1 0 0 0 -1");
        doc.of("- design: the number of a design");
        Threadneedle designs = sixDesigns();
        designs.order(0, 1);
        designs.order(5, 1);
        doc.due("the first design", designs.ofOrder(0, 1), 0);
        doc.due("the last design", designs.ofOrder(1, 1), 5);
        doc.of("- pieces: 1 to 50");
        for (int pieces = 1; pieces <= 50; pieces++) {
            Threadneedle ordering = withDesign();
            ordering.order(0, pieces);
            doc.due("pieces", ordering.ofOrder(0, 2), pieces);
        }
        doc.of("Returns its number, from 0 on.");
        Threadneedle twenty = withDesign();
        for (int number = 0; number < 20; number++) {
            doc.due("order " + number, twenty.order(0, 1), number);
        }
        doc.of("Throws IndexOutOfBoundsException if there is no such design");
        doc.outOfBounds("of a draft", Houses::draftOfOne, h -> h.order(0, 1));
        doc.outOfBounds("behind the last one", Houses::withDesign, h -> h.order(1, 1));
        for (int design : new int[] {-1, 6, MIN, MAX}) {
            doc.outOfBounds("design " + design, Houses::sixDesigns, h -> h.order(design, 1));
        }
        doc.of("Throws IllegalArgumentException if pieces is out of range");
        for (int pieces : new int[] {-1, 0, 51, MIN, MAX}) {
            doc.illegalArgument("pieces " + pieces, Houses::withDesign, h -> h.order(0, pieces));
        }
        doc.of("Throws IllegalStateException if there were 20");
        doc.illegalState("order 20", Houses::twentyOrders, h -> h.order(0, 1));
        doc.illegalState("order 20 behind those that are over", () -> {
            Threadneedle over = done();
            for (int number = 1; number < 20; number++) {
                over.order(0, 1);
                over.cancel(number);
            }
            return over;
        }, h -> h.order(0, 1));
    }

    private void start() {
        doc.of("Starts an order.");
        doc.orderDue("started", started(), 0, "1 0 3 0 0 0 0");
        doc.machineDue("started", started(), 0, "0 0 0 0");
        doc.due("thread stays in stock", started().left(0, 0), 100);
        doc.of("- order: the number of an order");
        Threadneedle house = lastOrderAndMachine();
        doc.due("the first one's machine", house.ofOrder(0, 6), 0);
        doc.due("the last one", Checks.answer(house, start(19, 3)), "0");
        doc.due("the last one's machine", house.ofOrder(19, 6), 3);
        doc.of("- machine: the number of a machine");
        doc.due("the first one's order", house.ofMachine(0, 0), 0);
        doc.due("the last one's order", house.ofMachine(3, 0), 19);
    }

    private void startThrows() {
        doc.of("Throws IndexOutOfBoundsException if there is no such order or machine");
        for (int order : new int[] {-1, 20, MIN, MAX}) {
            doc.outOfBounds("order " + order, HouseBoundaries::lastOrderAndMachine, start(order, 3));
        }
        for (int machine : new int[] {-1, 4, MIN, MAX}) {
            doc.outOfBounds("machine " + machine, HouseBoundaries::lastOrderAndMachine, start(19, machine));
        }
        doc.outOfBounds("behind the last order", Houses::waiting, start(1, 0));
        doc.outOfBounds("behind the last machine", Houses::waiting, start(0, 1));
        doc.of("Throws IllegalStateException if it does not WAIT, the machine has one, its hoop is too small, or of"
                + " some colour there is no such shade");
        doc.illegalState("SEWN", () -> withSecondMachine(started()), start(0, 1));
        doc.illegalState("DONE", () -> withSecondMachine(done()), start(0, 1));
        doc.illegalState("CANCELLED", () -> withSecondMachine(cancelled()), start(0, 1));
        doc.illegalState("the machine has one", HouseBoundaries::lastOrderAndMachine, start(3, 0));
        doc.illegalState("too narrow a hoop", () -> inHoop(2, 5), start(0, 0));
        doc.illegalState("too low a hoop", () -> inHoop(3, 4), start(0, 0));
        doc.due("just the hoop", Checks.answer(inHoop(3, 5), start(0, 0)), "0");
        doc.illegalState("no shade of the first colour", () -> withThread(17, 12), start(0, 0));
        doc.illegalState("no shade of the last colour", () -> withThread(18, 11), start(0, 0));
        doc.due("just the thread", Checks.answer(withThread(18, 12), start(0, 0)), "0");
        doc.illegalState("enough in all shades, in none of them", () -> {
            Threadneedle house = withThread(17, 12);
            house.stock(0, 1, 17);
            house.stock(0, 2, 17);
            return house;
        }, start(0, 0));
    }

    private static Threadneedle withSecondMachine(Threadneedle house) {
        house.machine(1, 16, 16);
        return house;
    }

    private static Threadneedle inHoop(int width, int height) {
        Threadneedle house = withDesign();
        house.stock(0, 0, 100);
        house.stock(1, 0, 100);
        house.order(0, 1);
        house.machine(1, width, height);
        return house;
    }

    private static Threadneedle withThread(int ofColour0, int ofColour1) {
        Threadneedle house = waiting();
        house.stock(0, 0, ofColour0);
        house.stock(1, 0, ofColour1);
        return house;
    }

    /** Order 0 is of 110600 stitches, the most that there can be. */
    private static Threadneedle greatestOrder() {
        Threadneedle house = designOf(whole(0), whole(0), whole(0), whole(0), whole(0), whole(0), whole(0));
        house.machine(1, 16, 16);
        house.stock(0, 0, 100000);
        house.stock(0, 0, 10600);
        house.order(0, 50);
        house.start(0, 0);
        return house;
    }

    private void run() {
        doc.of("Lets a machine sew.");
        doc.orderDue("after 16", sewnBy(16), 0, "1 0 3 1 6 0 0");
        doc.of("- machine: the number of a machine");
        Threadneedle house = lastOrderAndMachine();
        house.start(19, 3);
        doc.due("the first one", house.run(0, 2), 2);
        doc.due("the last one", house.run(3, 3), 3);
        doc.due("the first one's stitches", house.ofOrder(0, 4), 2);
        doc.due("the last one's stitches", house.ofOrder(19, 4), 3);
        doc.of("- stitches: 1 to 100000: so many, at most");
        doc.due("1", started().run(0, 1), 1);
        doc.due("1 fewer than all", started().run(0, 29), 29);
        doc.due("all", started().run(0, 30), 30);
        doc.due("1 more than all", started().run(0, 31), 30);
        Threadneedle greatest = greatestOrder();
        doc.due("100000", greatest.run(0, 100000), 100000);
        doc.orderDue("after 100000", greatest, 0, "1 0 50 45 460 0 0");
        doc.due("100000 again", greatest.run(0, 100000), 10600);
        doc.orderDue("at last", greatest, 0, "2 0 50 50 0 0 -1");
        doc.due("left", greatest.left(0, 0), 0);
        doc.of("Returns how many it sews.");
        doc.due("to the end of the order alone", lastOrderAndMachine().run(0, 100000), 10);
        Threadneedle poor = withThread(18, 12);
        poor.order(0, 1);
        withSecondMachine(poor);
        poor.start(0, 0);
        poor.start(1, 1);
        poor.run(0, 24);
        doc.due("as far as there is thread", poor.run(1, 100000), 2);
        doc.due("without thread", poor.run(1, 1), 0);
    }

    private void runThrows() {
        doc.of("Throws IndexOutOfBoundsException if there is no such machine");
        noSuchMachine((h, number) -> h.run(number, 1));
        doc.of("Throws IllegalArgumentException if stitches is out of range");
        for (int stitches : NOT_1_TO_100000) {
            doc.illegalArgument("stitches " + stitches, Houses::started, h -> h.run(0, stitches));
        }
        doc.of("Throws IllegalStateException if it has no order");
        doc.illegalState("none yet", Houses::waiting, h -> h.run(0, 1));
        doc.illegalState("a new machine", Houses::fourMachines, h -> h.run(3, 100000));
        doc.illegalState("one that is done", Houses::done, h -> h.run(0, 1));
        doc.illegalState("one that is cancelled", Houses::cancelled, h -> h.run(0, 1));
    }

    private void snap() {
        doc.of("Lets the thread of a machine snap.");
        Threadneedle house = sewnBy(16);
        house.snap(0);
        doc.orderDue("snapped", house, 0, "1 0 3 1 1 5 0");
        doc.of("- machine: the number of a machine");
        Threadneedle last = lastOrderAndMachine();
        last.start(19, 3);
        last.run(0, 2);
        last.run(3, 3);
        doc.due("the last one", last.snap(3), 3);
        doc.due("the first one's stitches", last.ofOrder(0, 4), 2);
        doc.due("the first one", last.snap(0), 2);
        doc.of("Returns how many stitches it goes back.");
        doc.due("1 of 1", sewnBy(1).snap(0), 1);
        doc.due("4 of 4", sewnBy(4).snap(0), 4);
        doc.due("5 of 5", sewnBy(5).snap(0), 5);
        doc.due("5 of 6", sewnBy(6).snap(0), 5);
        doc.due("1 of the next shape", sewnBy(7).snap(0), 1);
        doc.due("1 of the next piece", sewnBy(11).snap(0), 1);
        doc.of("Throws IndexOutOfBoundsException if there is no such machine");
        noSuchMachine(Threadneedle::snap);
        doc.of("Throws IllegalStateException if it has no order, or no stitch of the piece is sewn");
        doc.illegalState("no order yet", Houses::waiting, h -> h.snap(0));
        doc.illegalState("an order that is done", Houses::done, h -> h.snap(0));
        doc.illegalState("an order that is cancelled", Houses::cancelled, h -> h.snap(0));
        doc.illegalState("no stitch of the first piece", Houses::started, h -> h.snap(0));
        doc.illegalState("no stitch of the next piece", () -> sewnBy(10), h -> h.snap(0));
        doc.illegalState("no stitch of the last piece", () -> sewnBy(20), h -> h.snap(0));
        doc.illegalState("no stitch that is not gone by snapping", () -> {
            Threadneedle snapped = sewnBy(15);
            snapped.snap(0);
            return snapped;
        }, h -> h.snap(0));
        doc.illegalState("no stitch that is not gone by a match", () -> {
            Threadneedle matched = withOtherShades(15);
            matched.match(0, 0, 2);
            return matched;
        }, h -> h.snap(0));
    }

    private void match() {
        doc.of("Matches a colour of an order.");
        Threadneedle house = withOtherShades(6);
        house.match(0, 1, 1);
        doc.due("the other shade", house.shadeOf(0, 1), 1);
        house.run(0, 1);
        doc.due("left of the other shade", house.left(1, 1), 11);
        doc.due("left of the shade ahead of it", house.left(1, 0), 100);
        doc.of("- order: the number of an order");
        Threadneedle last = lastOrderAndMachine();
        last.start(19, 3);
        last.stock(0, 1, 6);
        last.match(19, 0, 1);
        doc.due("the last one's shade", last.shadeOf(19, 0), 1);
        doc.due("the first one's shade", last.shadeOf(0, 0), 0);
        last.match(0, 0, 1);
        doc.due("the first one's shade then", last.shadeOf(0, 0), 1);
        doc.of("- colour: 0 to 5");
        for (int colour = 0; colour <= 5; colour++) {
            doc.due("colour " + colour, ofColour(colour).match(0, colour, 2), 1);
        }
        doc.of("- shade: 0 to 2");
        Threadneedle shades = ofColour(3);
        for (int shade : new int[] {2, 1, 0, 2, 0}) {
            shades.match(0, 3, shade);
            doc.due("shade " + shade, shades.shadeOf(0, 3), shade);
        }
        doc.of("Returns how many pieces are begun anew of which a stitch is sewn, and not gone, as that begins.");
        int[][] stitchesAndPieces = {{0, 0}, {1, 1}, {9, 1}, {10, 1}, {11, 2}, {20, 2}, {21, 3}, {29, 3}};
        for (int[] due : stitchesAndPieces) {
            doc.due("after " + due[0], withOtherShades(due[0]).match(0, 0, 2), due[1]);
        }
        doc.due("of colour 1, not sewn", withOtherShades(6).match(0, 1, 1), 0);
        doc.due("of colour 1, sewn", withOtherShades(7).match(0, 1, 1), 1);
        doc.due("of colour 1, sewn in the piece ahead", withOtherShades(11).match(0, 1, 1), 2);
        Threadneedle gone = withOtherShades(11);
        gone.snap(0);
        doc.due("without the piece that is gone by snapping", gone.match(0, 1, 1), 1);
        doc.due("of what is gone by a match", gone.match(0, 0, 2), 0);
    }

    /** Order 0 is of 2 stitches of that colour, 1 of them sewn; there is much of all shades of it. */
    private static Threadneedle ofColour(int colour) {
        Threadneedle house = designOf(dot(colour, 0));
        house.machine(1, 1, 1);
        for (int shade = 0; shade < 3; shade++) {
            house.stock(colour, shade, 100);
        }
        house.order(0, 1);
        house.start(0, 0);
        house.run(0, 1);
        return house;
    }

    private void matchThrows() {
        doc.of("Throws IndexOutOfBoundsException if there is no such order, colour or shade");
        noSuchOrder((h, number) -> h.match(number, 0, 1));
        for (int colour : NO_COLOURS) {
            doc.outOfBounds("colour " + colour, () -> withOtherShades(8), h -> h.match(0, colour, 2));
        }
        for (int shade : NO_SHADES) {
            doc.outOfBounds("shade " + shade, () -> withOtherShades(8), h -> h.match(0, 0, shade));
        }
        doc.of("Throws IllegalStateException if it is not SEWN, its design does not have that colour, it has that"
                + " shade, or too few stitches of it are in stock");
        doc.illegalState("WAITS", () -> withThread(100, 100), h -> h.match(0, 0, 0));
        doc.illegalState("DONE", () -> withOtherShades(30), h -> h.match(0, 0, 2));
        doc.illegalState("CANCELLED", () -> {
            Threadneedle house = withOtherShades(8);
            house.cancel(0);
            return house;
        }, h -> h.match(0, 0, 2));
        doc.illegalState("not a colour of the design", () -> {
            Threadneedle house = withOtherShades(8);
            house.stock(2, 0, 100);
            return house;
        }, h -> h.match(0, 2, 0));
        doc.illegalState("the shade that it has", () -> withOtherShades(8), h -> h.match(0, 0, 0));
        doc.illegalState("the shade that it got by a match", () -> {
            Threadneedle house = withOtherShades(0);
            house.match(0, 0, 2);
            return house;
        }, h -> h.match(0, 0, 2));
        doc.illegalState("1 stitch too few", () -> withOtherShades(8), h -> h.match(0, 0, 1));
        doc.illegalState("no stitch", () -> withOtherShades(8), h -> h.match(0, 1, 2));
        doc.due("just enough", withOtherShades(8).match(0, 1, 1), 1);
    }

    private void cancel() {
        doc.of("Cancels an order.");
        doc.orderDue("cancelled", cancelled(), 0, "3 0 3 0 0 7 -1");
        doc.of("- order: the number of an order");
        Threadneedle house = lastOrderAndMachine();
        house.cancel(19);
        doc.due("the last one", house.ofOrder(19, 0), Threadneedle.CANCELLED);
        doc.due("the first one still", house.ofOrder(0, 0), Threadneedle.SEWN);
        house.cancel(0);
        doc.due("the first one", house.ofOrder(0, 0), Threadneedle.CANCELLED);
        doc.of("Returns how many stitches are wasted by that.");
        doc.due("of what waits", waiting().cancel(0), 0);
        for (int stitches : new int[] {0, 1, 9, 10, 11, 29}) {
            doc.due("after " + stitches, sewnBy(stitches).cancel(0), stitches);
        }
        Threadneedle snapped = sewnBy(12);
        snapped.snap(0);
        doc.due("but for those that snapped ahead", snapped.cancel(0), 10);
        Threadneedle matched = withOtherShades(12);
        matched.match(0, 0, 2);
        doc.due("but for those wasted by a match", matched.cancel(0), 0);
        doc.of("Throws IndexOutOfBoundsException if there is no such order");
        noSuchOrder(Threadneedle::cancel);
        doc.of("Throws IllegalStateException if it is DONE or CANCELLED");
        doc.illegalState("DONE", Houses::done, h -> h.cancel(0));
        doc.illegalState("CANCELLED", Houses::cancelled, h -> h.cancel(0));
        doc.illegalState("CANCELLED while it waited", () -> {
            Threadneedle waited = waiting();
            waited.cancel(0);
            return waited;
        }, h -> h.cancel(0));
        doc.due("but not what waits", Checks.answer(waiting(), h -> h.cancel(0)), "0");
    }

    // ---- what is asked

    private void ofOrder() {
        doc.of("Tells of an order.");
        doc.orderDue("that is sewn", sewnBy(16), 0, "1 0 3 1 6 0 0");
        doc.of("- order: the number of an order");
        Threadneedle house = withDesign();
        for (int number = 0; number < 20; number++) {
            house.order(0, number + 1);
        }
        doc.due("the first one's pieces", house.ofOrder(0, 2), 1);
        doc.due("the last one's pieces", house.ofOrder(19, 2), 20);
        doc.of("- what: 0 WAITS to CANCELLED, 1 its design, 2 its pieces, 3 how many are sewn whole, 4 how many"
                + " stitches of the next one are sewn, 5 its waste so far, 6 its machine, NONE if it is not SEWN");
        doc.orderDue("that waits", waiting(), 0, "0 0 3 0 0 0 -1");
        doc.orderDue("that is started", started(), 0, "1 0 3 0 0 0 0");
        doc.orderDue("1 ahead of a whole piece", sewnBy(9), 0, "1 0 3 0 9 0 0");
        doc.orderDue("at a whole piece", sewnBy(10), 0, "1 0 3 1 0 0 0");
        doc.orderDue("1 ahead of the end", sewnBy(29), 0, "1 0 3 2 9 0 0");
        doc.orderDue("that is done", done(), 0, "2 0 3 3 0 0 -1");
        doc.orderDue("that is cancelled", cancelled(), 0, "3 0 3 0 0 7 -1");
        Threadneedle last = lastOrderAndMachine();
        layers(last, 0);
        last.start(19, 3);
        doc.orderDue("on the last machine", last, 19, "1 0 1 0 0 0 3");
        Threadneedle design = sixDesigns();
        design.order(5, 50);
        doc.orderDue("of the last design", design, 0, "0 5 50 0 0 0 -1");
        doc.of("Returns as told.");
        Threadneedle snapped = sewnBy(29);
        snapped.snap(0);
        doc.orderDue("that snapped", snapped, 0, "1 0 3 2 6 3 0");
        doc.of("Throws IndexOutOfBoundsException if there is no such order");
        noSuchOrder((h, number) -> h.ofOrder(number, 0));
        noSuchOrder((h, number) -> h.ofOrder(number, 6));
        doc.of("Throws IllegalArgumentException if what is out of range");
        for (int what : new int[] {-1, 7, MIN, MAX}) {
            doc.illegalArgument("what " + what, Houses::started, h -> h.ofOrder(0, what));
        }
    }

    private void shadeOf() {
        doc.of("Returns the shade of a colour of an order.");
        doc.due("colour 0", ofColour(0).shadeOf(0, 0), 0);
        doc.of("- order: the number of an order");
        Threadneedle house = lastOrderAndMachine();
        house.start(19, 3);
        doc.due("the first one", house.shadeOf(0, 0), 0);
        doc.due("the last one", house.shadeOf(19, 0), 0);
        doc.due("one that waits", house.shadeOf(18, 0), NONE);
        doc.of("- colour: 0 to 5");
        for (int colour = 0; colour <= 5; colour++) {
            Threadneedle of = ofColour(colour);
            for (int asked = 0; asked <= 5; asked++) {
                doc.due("colour " + asked, of.shadeOf(0, asked), asked == colour ? 0 : NONE);
            }
        }
        doc.of("Returns the shade, also of an order that is over; NONE, if it has none.");
        doc.due("of what is done", done().shadeOf(0, 1), 0);
        doc.due("of what is cancelled", cancelled().shadeOf(0, 1), 0);
        Threadneedle matched = withOtherShades(29);
        matched.match(0, 0, 2);
        matched.cancel(0);
        doc.due("of what was matched and is cancelled", matched.shadeOf(0, 0), 2);
        doc.due("of what waits", withThread(18, 12).shadeOf(0, 0), NONE);
        Threadneedle waited = withThread(18, 12);
        waited.cancel(0);
        doc.due("of what is cancelled while it waits", waited.shadeOf(0, 0), NONE);
        doc.due("of a colour that it has not", done().shadeOf(0, 5), NONE);
        doc.of("Throws IndexOutOfBoundsException if there is no such order or colour");
        noSuchOrder((h, number) -> h.shadeOf(number, 0));
        for (int colour : NO_COLOURS) {
            doc.outOfBounds("colour " + colour, Houses::started, h -> h.shadeOf(0, colour));
        }
    }

    private void ofMachine() {
        doc.of("Tells of a machine.");
        doc.machineDue("that sews", sewnBy(16), 0, "0 2 3 16");
        doc.of("- machine: the number of a machine");
        Threadneedle house = lastOrderAndMachine();
        house.start(19, 3);
        doc.due("the first one", house.ofMachine(0, 0), 0);
        doc.due("the last one", house.ofMachine(3, 0), 19);
        doc.of("- what: 0 its order, NONE without, 1 how many times a colour was loaded, 2 the colours that its heads"
                + " hold, as a set of bits, 3 how many stitches it sewed in all");
        doc.machineDue("without", waiting(), 0, "-1 0 0 0");
        doc.machineDue("with an order", started(), 0, "0 0 0 0");
        doc.machineDue("of an order that is done", done(), 0, "-1 2 3 30");
        doc.machineDue("of an order that is cancelled", cancelled(), 0, "-1 2 3 7");
        for (int colour = 0; colour <= 5; colour++) {
            doc.machineDue("with colour " + colour, ofColour(colour), 0, "0 1 " + (1 << colour) + " 1");
        }
        Threadneedle all = allThread(6);
        all.order(layers(all, 0, 1, 2, 3, 4, 5), 1);
        all.start(0, 0);
        all.run(0, 100);
        doc.machineDue("with all colours", all, 0, "-1 6 63 12");
        Threadneedle snapped = sewnBy(9);
        snapped.snap(0);
        snapped.run(0, 1);
        doc.machineDue("that sewed stitches again", snapped, 0, "0 2 3 10");
        doc.of("Returns as told.");
        doc.machineDue("that sewed the most", sewnOut(greatestOrder()), 0, "-1 1 1 110600");
        doc.of("Throws IndexOutOfBoundsException if there is no such machine");
        noSuchMachine((h, number) -> h.ofMachine(number, 0));
        noSuchMachine((h, number) -> h.ofMachine(number, 3));
        doc.of("Throws IllegalArgumentException if what is out of range");
        for (int what : new int[] {-1, 4, MIN, MAX}) {
            doc.illegalArgument("what " + what, Houses::started, h -> h.ofMachine(0, what));
        }
    }

    private static Threadneedle sewnOut(Threadneedle house) {
        house.run(0, 100000);
        house.run(0, 100000);
        return house;
    }

    private void left() {
        doc.of("Returns how many stitches of thread are in stock.");
        doc.due("none", new Threadneedle().left(0, 0), 0);
        Threadneedle house = nearlyFullSpool();
        doc.due("nearly the most", house.left(3, 1), 999999);
        house.stock(3, 1, 1);
        doc.due("the most", house.left(3, 1), 1000000);
        Threadneedle sewn = withThread(18, 12);
        sewn.start(0, 0);
        sewn.run(0, 29);
        doc.due("all but 1", sewn.left(1, 0), 1);
        sewn.run(0, 1);
        doc.due("all gone", sewn.left(0, 0) + sewn.left(1, 0), 0);
        doc.of("- colour: 0 to 5");
        for (int colour = 0; colour <= 5; colour++) {
            for (int asked = 0; asked <= 5; asked++) {
                doc.due("colour " + asked, ofColour(colour).left(asked, 0), asked == colour ? 99 : 0);
            }
        }
        doc.of("- shade: 0 to 2");
        for (int shade = 0; shade <= 2; shade++) {
            house.stock(4, shade, shade + 1);
        }
        for (int shade = 0; shade <= 2; shade++) {
            doc.due("shade " + shade, house.left(4, shade), shade + 1);
        }
        doc.of("Throws IndexOutOfBoundsException if there is no such colour or shade");
        for (int colour : NO_COLOURS) {
            doc.outOfBounds("colour " + colour, Threadneedle::new, h -> h.left(colour, 0));
        }
        for (int shade : NO_SHADES) {
            doc.outOfBounds("shade " + shade, Threadneedle::new, h -> h.left(0, shade));
            doc.outOfBounds("shade of the last colour " + shade, Threadneedle::new, h -> h.left(5, shade));
        }
    }
}
