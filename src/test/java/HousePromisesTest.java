/** Promises 5 to 12 and 19 to 22: machines, thread, orders, and what is asked of them. */
final class HousePromisesTest extends Houses {
    private static final int NONE = Threadneedle.NONE;
    private static final int BLOCK = Threadneedle.BLOCK;
    private static final int STAIR = Threadneedle.STAIR;
    private static final int[] NOT_0 = {-1, 1, 4, 20, Integer.MIN_VALUE, Integer.MAX_VALUE};
    private static final int[] NO_COLOUR = {-1, 6, Integer.MIN_VALUE, Integer.MAX_VALUE};
    private static final int[] NO_SHADE = {-1, 3, Integer.MIN_VALUE, Integer.MAX_VALUE};
    private static final int[] NOT_1_TO_100000 = {0, -1, 100001, Integer.MIN_VALUE, Integer.MAX_VALUE};
    private static final Checks CHECKS = new Checks("HousePromisesTest");

    public static void main(String[] args) {
        promise5Machine();
        promise6And22Thread();
        promise6And22Throw();
        promise7Order();
        promise8Start();
        promise8Hoops();
        promise8Shades();
        promise8Throws();
        promise9Run();
        promise9RunsOutOfThread();
        promise9Heads();
        promise9LatestStitches();
        promise9Throws();
        promise10Snap();
        promise10Throws();
        promise11Match();
        promise11BeginsAnew();
        promise11Throws();
        promise12Cancel();
        promise12Throws();
        promise19OfOrder();
        promise20ShadeOf();
        promise21OfMachine();
        CHECKS.end();
    }

    private static void promise5Machine() {
        Threadneedle house = new Threadneedle();
        CHECKS.due("machine 0", house.machine(1, 1, 1), 0);
        CHECKS.due("machine 1", house.machine(6, 16, 16), 1);
        CHECKS.due("machine 2", house.machine(3, 1, 16), 2);
        CHECKS.due("machine 3", house.machine(2, 16, 1), 3);
        CHECKS.machineDue("new", house, 3, "-1 0 0 0");
        CHECKS.illegalState("machine 4", Houses::fourMachines, h -> h.machine(1, 1, 1));
        int[] wrong = {0, -1, 17, Integer.MIN_VALUE, Integer.MAX_VALUE};
        for (int number : wrong) {
            CHECKS.illegalArgument("heads " + number, Threadneedle::new, h -> h.machine(number, 1, 1));
            CHECKS.illegalArgument("width " + number, Threadneedle::new, h -> h.machine(1, number, 1));
            CHECKS.illegalArgument("height " + number, Threadneedle::new, h -> h.machine(1, 1, number));
        }
        CHECKS.illegalArgument("heads 7", Threadneedle::new, h -> h.machine(7, 16, 16));
        CHECKS.illegalArgument("heads ahead of 4", Houses::fourMachines, h -> h.machine(7, 1, 1));
    }

    private static void promise6And22Thread() {
        Threadneedle house = new Threadneedle();
        int bought = 0;
        for (int colour = 0; colour < 6; colour++) {
            for (int shade = 0; shade < 3; shade++) {
                bought++;
                CHECKS.due("stock", house.stock(colour, shade, bought), bought);
            }
        }
        bought = 0;
        for (int colour = 0; colour < 6; colour++) {
            for (int shade = 0; shade < 3; shade++) {
                bought++;
                CHECKS.due("left", house.left(colour, shade), bought);
            }
        }
        CHECKS.due("stock of more", house.stock(5, 2, 100000), 100018);
        CHECKS.due("left of more", house.left(5, 2), 100018);
    }

    private static void promise6And22Throw() {
        Threadneedle house = nearlyFullSpool();
        CHECKS.due("stock to the most", house.stock(3, 1, 1), 1000000);
        CHECKS.due("stock of another shade", house.stock(3, 2, 100000), 100000);
        CHECKS.illegalState("too much thread", Houses::nearlyFullSpool, h -> h.stock(3, 1, 2));
        for (int stitches : NOT_1_TO_100000) {
            CHECKS.illegalArgument("stock " + stitches, Houses::nearlyFullSpool,
                    h -> h.stock(3, 1, stitches));
            CHECKS.outOfBounds("colour ahead of " + stitches, Threadneedle::new, h -> h.stock(6, 0, stitches));
        }
        for (int colour : NO_COLOUR) {
            CHECKS.outOfBounds("stock of colour " + colour, Threadneedle::new, h -> h.stock(colour, 0, 1));
            CHECKS.outOfBounds("left of colour " + colour, Threadneedle::new, h -> h.left(colour, 0));
        }
        for (int shade : NO_SHADE) {
            CHECKS.outOfBounds("stock of shade " + shade, Threadneedle::new, h -> h.stock(2, shade, 1));
            CHECKS.outOfBounds("left of shade " + shade, Threadneedle::new, h -> h.left(2, shade));
        }
    }

    private static void promise7Order() {
        Threadneedle house = withDesign();
        for (int number = 0; number < 20; number++) {
            CHECKS.due("order " + number, house.order(0, number == 0 ? 50 : number), number);
            CHECKS.orderDue("new", house, number, "0 0 " + (number == 0 ? 50 : number) + " 0 0 0 -1");
        }
        CHECKS.illegalState("order 20", Houses::twentyOrders, h -> h.order(0, 1));
        CHECKS.illegalArgument("pieces ahead of 20", Houses::twentyOrders, h -> h.order(0, 51));
        CHECKS.outOfBounds("design ahead of 20", Houses::twentyOrders, h -> h.order(1, 51));
        int[] wrongPieces = {0, -1, 51, Integer.MIN_VALUE, Integer.MAX_VALUE};
        for (int pieces : wrongPieces) {
            CHECKS.illegalArgument("pieces " + pieces, Houses::withDesign, h -> h.order(0, pieces));
        }
        for (int design : NOT_0) {
            CHECKS.outOfBounds("order of " + design, Houses::withDesign, h -> h.order(design, 1));
            CHECKS.outOfBounds("order first of " + design, Houses::withDesign, h -> h.order(design, 0));
        }
    }

    private static void promise8Start() {
        Threadneedle house = waiting();
        house.machine(1, 3, 5);
        house.order(0, 1);
        house.stock(0, 0, 18);
        house.stock(1, 0, 12);
        CHECKS.due("start", Checks.answer(house, start(0, 1)), "0");
        CHECKS.orderDue("started", house, 0, "1 0 3 0 0 0 1");
        CHECKS.machineDue("started", house, 1, "0 0 0 0");
        CHECKS.machineDue("free", house, 0, "-1 0 0 0");
        CHECKS.due("thread stays in stock", house.left(0, 0), 18);
        // What is in stock is not kept for the first order.
        CHECKS.due("start of the other", Checks.answer(house, start(1, 0)), "0");
        CHECKS.machineDue("other", house, 0, "1 0 0 0");
    }

    private static void promise8Hoops() {
        Threadneedle house = new Threadneedle();
        house.shape(STAIR, 0, 4, 2, 9, 3);
        house.shape(BLOCK, 0, 0, 0, 2, 1);
        house.design();
        house.stock(0, 0, 1000);
        house.order(0, 1);
        house.machine(1, 6, 16);
        house.machine(1, 16, 4);
        house.machine(1, 7, 5);
        CHECKS.due("narrow hoop", Checks.answer(house, start(0, 0)), "throws java.lang.IllegalStateException");
        CHECKS.due("low hoop", Checks.answer(house, start(0, 1)), "throws java.lang.IllegalStateException");
        // The stair's box is 9 wide, but its cells are 3 wide at most.
        CHECKS.due("hoop of the cells' size", Checks.answer(house, start(0, 2)), "0");
        Threadneedle all = new Threadneedle();
        all.shape(BLOCK, 0, 15, 15, 1, 1);
        all.design();
        all.stock(0, 0, 1000);
        all.order(0, 1);
        all.machine(1, 15, 16);
        all.machine(1, 16, 15);
        all.machine(1, 16, 16);
        CHECKS.due("hoop of 15", Checks.answer(all, start(0, 0)), "throws java.lang.IllegalStateException");
        CHECKS.due("hoop of 15 high", Checks.answer(all, start(0, 1)), "throws java.lang.IllegalStateException");
        CHECKS.due("hoop of 16", Checks.answer(all, start(0, 2)), "0");
    }

    private static void promise8Shades() {
        Threadneedle house = waiting();
        house.stock(0, 0, 17);
        house.stock(0, 1, 18);
        house.stock(0, 2, 100);
        house.stock(1, 2, 12);
        house.stock(3, 0, 100);
        house.start(0, 0);
        CHECKS.due("lowest shade of which is enough", house.shadeOf(0, 0), 1);
        CHECKS.due("only shade of which is enough", house.shadeOf(0, 1), 2);
        CHECKS.due("shade of a colour that the design has not", house.shadeOf(0, 3), NONE);
        CHECKS.illegalState("no shade of colour 1", () -> {
            Threadneedle poor = waiting();
            poor.stock(0, 0, 18);
            poor.stock(1, 0, 11);
            poor.stock(1, 1, 11);
            poor.stock(1, 2, 11);
            return poor;
        }, start(0, 0));
    }

    private static void promise8Throws() {
        CHECKS.illegalState("start of what is sewn", () -> {
            Threadneedle house = started();
            house.machine(1, 16, 16);
            return house;
        }, start(0, 1));
        CHECKS.illegalState("start of what is done", Houses::done, start(0, 0));
        CHECKS.illegalState("start of what is cancelled", Houses::cancelled, start(0, 0));
        CHECKS.illegalState("start on a machine that has one", () -> {
            Threadneedle house = started();
            house.order(0, 1);
            return house;
        }, start(1, 0));
        for (int number : NOT_0) {
            CHECKS.outOfBounds("start of " + number, Houses::waiting, start(number, 0));
            CHECKS.outOfBounds("start on " + number, Houses::waiting, start(0, number));
            CHECKS.outOfBounds("start of what is done on " + number, Houses::done, start(0, number));
        }
    }

    private static void promise9Run() {
        Threadneedle house = started();
        CHECKS.due("run 1", house.run(0, 1), 1);
        CHECKS.orderDue("after 1", house, 0, "1 0 3 0 1 0 0");
        CHECKS.machineDue("after 1", house, 0, "0 1 1 1");
        CHECKS.due("run 8", house.run(0, 8), 8);
        CHECKS.orderDue("after 9", house, 0, "1 0 3 0 9 0 0");
        CHECKS.machineDue("after 9", house, 0, "0 2 3 9");
        CHECKS.due("run to the piece's end", house.run(0, 1), 1);
        CHECKS.orderDue("after 10", house, 0, "1 0 3 1 0 0 0");
        CHECKS.due("run into the last piece", house.run(0, 12), 12);
        CHECKS.orderDue("after 22", house, 0, "1 0 3 2 2 0 0");
        CHECKS.due("left of colour 0", house.left(0, 0), 100 - 14);
        CHECKS.due("left of colour 1", house.left(1, 0), 100 - 8);
        CHECKS.due("run to the end", house.run(0, 100000), 8);
        CHECKS.orderDue("done", house, 0, "2 0 3 3 0 0 -1");
        CHECKS.machineDue("done", house, 0, "-1 2 3 30");
        CHECKS.due("left of colour 0 at last", house.left(0, 0), 82);
        CHECKS.due("left of colour 1 at last", house.left(1, 0), 88);
        house.order(0, 2);
        house.start(1, 0);
        CHECKS.due("run of the next order", house.run(0, 20), 20);
        CHECKS.machineDue("next done", house, 0, "-1 2 3 50");
    }

    private static void promise9RunsOutOfThread() {
        Threadneedle house = waiting();
        house.machine(1, 16, 16);
        house.order(0, 3);
        house.stock(0, 0, 18);
        house.stock(1, 0, 12);
        house.start(0, 0);
        house.start(1, 1);
        CHECKS.due("run of the first", house.run(0, 17), 17);
        // Colour 0 has 6 left, colour 1 has 7.
        CHECKS.due("thread in use", house.left(0, 0) * 100 + house.left(1, 0), 607);
        CHECKS.due("run of the second", house.run(1, 100), 10);
        CHECKS.orderDue("out of thread", house, 1, "1 0 3 1 0 0 1");
        CHECKS.machineDue("out of thread", house, 1, "1 2 2 10");
        CHECKS.due("run without thread", house.run(1, 100), 0);
        CHECKS.due("run of the first on", house.run(0, 100), 3);
        CHECKS.due("none is left for the first", house.run(0, 1), 0);
        CHECKS.machineDue("its heads hold what they held", house, 1, "1 2 2 10");
        house.stock(0, 0, 1);
        CHECKS.due("run on", house.run(1, 100), 1);
        CHECKS.machineDue("loaded again", house, 1, "1 3 1 11");
        house.stock(0, 0, 5);
        CHECKS.due("run to colour 1", house.run(1, 100), 5);
        CHECKS.due("no stitch of colour 1", house.run(1, 100), 0);
        CHECKS.machineDue("loading nothing", house, 1, "1 3 1 16");
        CHECKS.orderDue("ahead of colour 1", house, 1, "1 0 3 1 6 0 1");
    }

    private static void headsDue(int heads, String want, int pieces, int... colours) {
        Threadneedle house = allThread(heads);
        house.order(layers(house, colours), pieces);
        house.start(0, 0);
        house.run(0, 100000);
        CHECKS.machineDue("of " + heads + " heads", house, 0, want);
    }

    private static void promise9Heads() {
        headsDue(1, "-1 1 1 4", 2, 0);
        headsDue(1, "-1 4 2 8", 2, 0, 1);
        headsDue(2, "-1 2 3 8", 2, 0, 1);
        // Not the one that was loaded first gives way, but the one not sewn for longest.
        headsDue(2, "-1 3 5 8", 1, 0, 1, 0, 2);
        headsDue(3, "-1 4 13 12", 1, 0, 1, 2, 0, 2, 3);
        headsDue(2, "-1 4 6 10", 1, 0, 1, 0, 2, 1);
        headsDue(6, "-1 6 63 24", 2, 0, 1, 2, 3, 4, 5);
        headsDue(5, "-1 12 62 24", 2, 0, 1, 2, 3, 4, 5);
    }

    private static void promise9LatestStitches() {
        // The heads go over to the next order as they are, with their latest stitches.
        Threadneedle house = allThread(2);
        house.order(layers(house, 0, 1, 0), 1);
        house.order(layers(house, 2), 1);
        house.start(0, 0);
        house.run(0, 6);
        house.start(1, 0);
        house.run(0, 2);
        CHECKS.machineDue("colour 1 gave way", house, 0, "-1 3 5 8");
        // What snapped was sewn all the same.
        Threadneedle snapped = allThread(2);
        snapped.order(layers(snapped, 0, 1, 0), 1);
        snapped.order(layers(snapped, 2), 1);
        snapped.start(0, 0);
        snapped.run(0, 5);
        snapped.snap(0);
        snapped.cancel(0);
        snapped.start(1, 0);
        snapped.run(0, 2);
        CHECKS.machineDue("colour 1 gave way after all", snapped, 0, "-1 3 5 7");
        // Heads hold colours: another shade is not loaded.
        Threadneedle matched = sewnBy(3);
        matched.stock(0, 1, 18);
        matched.match(0, 0, 1);
        matched.run(0, 3);
        CHECKS.machineDue("with another shade", matched, 0, "0 1 1 6");
        CHECKS.due("left of the first shade", matched.left(0, 0), 97);
        CHECKS.due("left of the other shade", matched.left(0, 1), 15);
    }

    private static void promise9Throws() {
        for (int stitches : NOT_1_TO_100000) {
            CHECKS.illegalArgument("run " + stitches, Houses::started, h -> h.run(0, stitches));
            CHECKS.illegalArgument("run first " + stitches, Houses::waiting, h -> h.run(0, stitches));
            CHECKS.outOfBounds("machine ahead of " + stitches, Houses::started, h -> h.run(1, stitches));
        }
        for (int machine : NOT_0) {
            CHECKS.outOfBounds("run of " + machine, Houses::started, h -> h.run(machine, 1));
        }
        CHECKS.illegalState("run without an order", Houses::waiting, h -> h.run(0, 1));
        CHECKS.illegalState("run after the end", Houses::done, h -> h.run(0, 1));
        CHECKS.illegalState("run of what is cancelled", Houses::cancelled, h -> h.run(0, 1));
    }

    private static void promise10Snap() {
        Threadneedle house = sewnBy(16);
        CHECKS.due("snap by 5", house.snap(0), 5);
        CHECKS.orderDue("snapped by 5", house, 0, "1 0 3 1 1 5 0");
        CHECKS.due("snap to the piece's beginning", house.snap(0), 1);
        CHECKS.orderDue("snapped to the beginning", house, 0, "1 0 3 1 0 6 0");
        CHECKS.due("thread is gone", house.left(0, 0), 100 - 12);
        CHECKS.machineDue("snapped", house, 0, "0 2 3 16");
        CHECKS.due("sewn again", house.run(0, 9), 9);
        CHECKS.due("snap to the shape's beginning", house.snap(0), 3);
        CHECKS.orderDue("snapped to the shape's beginning", house, 0, "1 0 3 1 6 9 0");
        CHECKS.due("snap into the shape ahead", house.snap(0), 5);
        CHECKS.orderDue("snapped into the shape ahead", house, 0, "1 0 3 1 1 14 0");
        CHECKS.due("run to the end", house.run(0, 100), 19);
        CHECKS.orderDue("with waste", house, 0, "2 0 3 3 0 14 -1");
        CHECKS.machineDue("with waste", house, 0, "-1 2 3 44");
        CHECKS.due("snap after 6", sewnBy(6).snap(0), 5);
        CHECKS.due("snap after 7", sewnBy(7).snap(0), 1);
        // Two shapes of the same colour are two all the same.
        Threadneedle alike = allThread(1);
        alike.order(layers(alike, 0, 0, 0), 1);
        alike.start(0, 0);
        alike.run(0, 5);
        CHECKS.due("snap of like shapes", alike.snap(0), 1);
        CHECKS.due("snap of like shapes again", alike.snap(0), 2);
    }

    private static void promise10Throws() {
        for (int machine : NOT_0) {
            CHECKS.outOfBounds("snap of " + machine, Houses::started, h -> h.snap(machine));
        }
        CHECKS.illegalState("snap without an order", Houses::waiting, h -> h.snap(0));
        CHECKS.illegalState("snap ahead of the first stitch", Houses::started, h -> h.snap(0));
        CHECKS.illegalState("snap ahead of the next piece", () -> sewnBy(10), h -> h.snap(0));
        CHECKS.illegalState("snap after the end", Houses::done, h -> h.snap(0));
        CHECKS.illegalState("snap of what snapped", () -> {
            Threadneedle house = sewnBy(13);
            house.snap(0);
            return house;
        }, h -> h.snap(0));
    }

    private static void matchDue(int stitches, int colour, int shade, int pieces, String order) {
        Threadneedle house = withOtherShades(stitches);
        CHECKS.due("match after " + stitches, house.match(0, colour, shade), pieces);
        CHECKS.due("shade after " + stitches, house.shadeOf(0, colour), shade);
        CHECKS.orderDue("matched after " + stitches, house, 0, order);
        CHECKS.machineDue("matched after " + stitches, house, 0,
                "0 " + (stitches > 6 ? "2 3 " : stitches > 0 ? "1 1 " : "0 0 ") + stitches);
    }

    private static void promise11Match() {
        matchDue(0, 0, 2, 0, "1 0 3 0 0 0 0");
        matchDue(0, 1, 1, 0, "1 0 3 0 0 0 0");
        matchDue(1, 0, 2, 1, "1 0 3 0 0 1 0");
        matchDue(6, 1, 1, 0, "1 0 3 0 6 0 0");
        matchDue(7, 1, 1, 1, "1 0 3 0 0 7 0");
        matchDue(10, 1, 1, 1, "1 0 3 0 0 10 0");
        matchDue(10, 0, 2, 1, "1 0 3 0 0 10 0");
        matchDue(12, 1, 1, 2, "1 0 3 0 0 12 0");
        matchDue(29, 0, 2, 3, "1 0 3 0 0 29 0");
        matchDue(20, 0, 2, 2, "1 0 3 0 0 20 0");
    }

    private static void promise11BeginsAnew() {
        // The only stitch of colour 1 snapped, so none of that colour is sewn.
        Threadneedle house = withOtherShades(7);
        house.snap(0);
        CHECKS.due("match of what snapped", house.match(0, 1, 1), 0);
        CHECKS.orderDue("match of what snapped", house, 0, "1 0 3 0 6 1 0");
        CHECKS.due("match of what is begun", house.match(0, 0, 2), 1);
        CHECKS.orderDue("begun anew", house, 0, "1 0 3 0 0 7 0");
        // All is gone by the earlier match.
        CHECKS.due("match back", house.match(0, 0, 0), 0);
        CHECKS.due("match of the other back", house.match(0, 1, 0), 0);
        CHECKS.orderDue("matched back", house, 0, "1 0 3 0 0 7 0");
        CHECKS.due("run to the end", house.run(0, 100), 30);
        CHECKS.orderDue("done at last", house, 0, "2 0 3 3 0 7 -1");
        CHECKS.due("left of colour 0", house.left(0, 0), 100 - 6 - 18);
        CHECKS.due("left of shade 2", house.left(0, 2), 18);
        CHECKS.due("left of colour 1", house.left(1, 0), 100 - 1 - 12);
        // All pieces' thread must be there, though some are sewn: there is 1 stitch too few.
        CHECKS.illegalState("match to too little", () -> sewnAllButOne(17), h -> h.match(0, 0, 1));
        CHECKS.due("match to just enough", sewnAllButOne(18).match(0, 0, 1), 3);
    }

    private static Threadneedle sewnAllButOne(int thread) {
        Threadneedle house = sewnBy(29);
        house.stock(0, 1, thread);
        return house;
    }

    private static void promise11Throws() {
        Checks.Maker maker = () -> withOtherShades(8);
        for (int number : NOT_0) {
            CHECKS.outOfBounds("match of " + number, maker, h -> h.match(number, 0, 2));
        }
        for (int colour : NO_COLOUR) {
            CHECKS.outOfBounds("match of colour " + colour, maker, h -> h.match(0, colour, 2));
            CHECKS.outOfBounds("done, colour " + colour, Houses::done, h -> h.match(0, colour, 2));
        }
        for (int shade : NO_SHADE) {
            CHECKS.outOfBounds("match of shade " + shade, maker, h -> h.match(0, 0, shade));
            CHECKS.outOfBounds("waiting, shade " + shade, Houses::waiting, h -> h.match(0, 0, shade));
        }
        CHECKS.illegalState("match of the same shade", maker, h -> h.match(0, 0, 0));
        CHECKS.illegalState("match of a shade with too little", maker, h -> h.match(0, 0, 1));
        CHECKS.illegalState("match of a shade with none", maker, h -> h.match(0, 1, 2));
        CHECKS.illegalState("match of no colour of it", maker, h -> h.match(0, 3, 0));
        CHECKS.illegalState("match of what waits", () -> {
            Threadneedle house = waiting();
            house.stock(0, 1, 1000);
            return house;
        }, h -> h.match(0, 0, 1));
        CHECKS.illegalState("match of what is done", () -> withOtherShades(30), h -> h.match(0, 0, 2));
        CHECKS.illegalState("match of what is cancelled", () -> {
            Threadneedle house = withOtherShades(8);
            house.cancel(0);
            return house;
        }, h -> h.match(0, 0, 2));
    }

    private static void promise12Cancel() {
        Threadneedle house = sewnBy(23);
        house.snap(0);
        CHECKS.due("cancel", house.cancel(0), 20);
        CHECKS.orderDue("cancelled", house, 0, "3 0 3 0 0 23 -1");
        CHECKS.machineDue("cancelled", house, 0, "-1 2 3 23");
        CHECKS.due("shade of what is cancelled", house.shadeOf(0, 1), 0);
        CHECKS.due("thread is gone", house.left(0, 0), 100 - 15);
        house.order(0, 1);
        CHECKS.due("start on the free machine", Checks.answer(house, start(1, 0)), "0");
        CHECKS.due("run on the free machine", house.run(0, 100), 10);
        Threadneedle waits = waiting();
        CHECKS.due("cancel of what waits", waits.cancel(0), 0);
        CHECKS.orderDue("cancelled ahead", waits, 0, "3 0 3 0 0 0 -1");
        CHECKS.due("shade of what waited", waits.shadeOf(0, 0), NONE);
        CHECKS.due("cancel ahead of the first stitch", started().cancel(0), 0);
        CHECKS.due("cancel ahead of the last stitch", sewnBy(29).cancel(0), 29);
    }

    private static void promise12Throws() {
        for (int order : NOT_0) {
            CHECKS.outOfBounds("cancel of " + order, Houses::started, h -> h.cancel(order));
        }
        CHECKS.illegalState("cancel of what is done", Houses::done, h -> h.cancel(0));
        CHECKS.illegalState("cancel again", Houses::cancelled, h -> h.cancel(0));
    }

    private static void promise19OfOrder() {
        Threadneedle house = started();
        layers(house, 4, 5);
        house.machine(1, 1, 1);
        house.order(1, 7);
        CHECKS.orderDue("that waits", house, 1, "0 1 7 0 0 0 -1");
        house.stock(4, 2, 14);
        house.stock(5, 1, 14);
        house.start(1, 1);
        house.run(1, 7);
        house.snap(1);
        CHECKS.orderDue("that is sewn", house, 1, "1 1 7 1 2 1 1");
        int[] wrongWhats = {-1, 7, Integer.MIN_VALUE, Integer.MAX_VALUE};
        for (int what : wrongWhats) {
            CHECKS.illegalArgument("ofOrder what " + what, Houses::started, h -> h.ofOrder(0, what));
            CHECKS.outOfBounds("order ahead of " + what, Houses::started, h -> h.ofOrder(1, what));
        }
        for (int order : NOT_0) {
            CHECKS.outOfBounds("ofOrder " + order, Houses::started, h -> h.ofOrder(order, 0));
        }
    }

    private static void promise20ShadeOf() {
        Threadneedle house = waiting();
        for (int colour = 0; colour < 6; colour++) {
            CHECKS.due("shade of what waits", house.shadeOf(0, colour), NONE);
        }
        house.stock(0, 2, 100);
        house.stock(1, 0, 100);
        house.start(0, 0);
        CHECKS.due("shade 2", house.shadeOf(0, 0), 2);
        CHECKS.due("shade 0", house.shadeOf(0, 1), 0);
        CHECKS.due("no shade", house.shadeOf(0, 2), NONE);
        house.run(0, 100);
        CHECKS.due("shade 2 of what is done", house.shadeOf(0, 0), 2);
        CHECKS.due("shade 0 of what is done", house.shadeOf(0, 1), 0);
        for (int colour : NO_COLOUR) {
            CHECKS.outOfBounds("shadeOf " + colour, Houses::started, h -> h.shadeOf(0, colour));
        }
        for (int order : NOT_0) {
            CHECKS.outOfBounds("shadeOf order " + order, Houses::started, h -> h.shadeOf(order, 0));
        }
    }

    private static void promise21OfMachine() {
        Threadneedle house = allThread(3);
        house.machine(1, 16, 16);
        house.order(layers(house, 5, 2), 2);
        house.order(0, 1);
        house.start(1, 0);
        CHECKS.machineDue("started", house, 0, "1 0 0 0");
        house.run(0, 3);
        CHECKS.machineDue("running", house, 0, "1 2 36 3");
        CHECKS.machineDue("apart from it", house, 1, "-1 0 0 0");
        house.start(0, 1);
        house.run(1, 100);
        CHECKS.machineDue("done", house, 1, "-1 4 4 8");
        int[] wrongWhats = {-1, 4, Integer.MIN_VALUE, Integer.MAX_VALUE};
        for (int what : wrongWhats) {
            CHECKS.illegalArgument("ofMachine what " + what, Houses::started, h -> h.ofMachine(0, what));
            CHECKS.outOfBounds("machine ahead of " + what, Houses::started, h -> h.ofMachine(1, what));
        }
        for (int machine : NOT_0) {
            CHECKS.outOfBounds("ofMachine " + machine, Houses::started, h -> h.ofMachine(machine, 0));
        }
    }
}
