/** The cases that the second half of 'Terms' names, of machines, thread and orders: a test for each sentence. */
final class OrderBoundaries extends Houses {
    private static final int NONE = Threadneedle.NONE;
    private final Sentences doc;

    OrderBoundaries(Sentences doc) {
        this.doc = doc;
    }

    void check() {
        doc.part("Terms", this::machines, this::thread, this::orders, this::hoops, this::shades, this::sewing,
                this::heads, this::withoutThread, this::lastPiece, this::snapping, this::matching, this::beginningAnew,
                this::cancelling);
    }

    /** What is due of machine 0 when it has sewn all pieces. */
    private void sewnDue(int heads, String want, int pieces, int... colours) {
        Threadneedle house = allThread(heads);
        house.order(layers(house, colours), pieces);
        house.start(0, 0);
        house.run(0, 100000);
        doc.machineDue("of " + heads + " heads", house, 0, want);
    }

    private void machines() {
        doc.of("A machine has heads, 1 to 6, and a hoop, of a width and a height.");
        sewnDue(1, "-1 12 32 24", 2, 0, 1, 2, 3, 4, 5);
        sewnDue(6, "-1 6 63 24", 2, 0, 1, 2, 3, 4, 5);
        doc.illegalState("wide in a high hoop", OrderBoundaries::crossHoops, start(0, 1));
        doc.illegalState("high in a wide hoop", OrderBoundaries::crossHoops, start(1, 0));
        doc.due("wide in a wide hoop", Checks.answer(crossHoops(), start(0, 0)), "0");
        doc.due("high in a high hoop", Checks.answer(crossHoops(), start(1, 1)), "0");
    }

    /** Order 0 is 16 wide and 1 high, as machine 0 is, order 1 and machine 1 are 1 wide and 16 high. */
    private static Threadneedle crossHoops() {
        Threadneedle house = designOf(block(0, 0, 0, 16, 1));
        addDesign(house, block(0, 0, 0, 1, 16));
        house.stock(0, 0, 1000);
        house.machine(1, 16, 1);
        house.machine(1, 1, 16);
        house.order(0, 1);
        house.order(1, 1);
        return house;
    }

    private void thread() {
        doc.of("Thread is in stock by colours and shades, in stitches, 0 at first.");
        Threadneedle house = new Threadneedle();
        for (int spool = 0; spool < 18; spool++) {
            doc.due("left of spool " + spool, house.left(spool / 3, spool % 3), 0);
        }
        house.stock(0, 0, 1);
        house.stock(5, 2, 2);
        doc.due("left of the first spool", house.left(0, 0), 1);
        doc.due("left of the last spool", house.left(5, 2), 2);
        for (int spool = 1; spool < 17; spool++) {
            doc.due("left of spool " + spool + " then", house.left(spool / 3, spool % 3), 0);
        }
    }

    private void orders() {
        doc.of("An order is of some pieces of a design; it WAITS, is SEWN, DONE, or CANCELLED.");
        doc.due("ordered", waiting().ofOrder(0, 0), Threadneedle.WAITS);
        doc.due("started", started().ofOrder(0, 0), Threadneedle.SEWN);
        doc.due("ahead of the last stitch", sewnBy(29).ofOrder(0, 0), Threadneedle.SEWN);
        doc.due("behind the last stitch", sewnBy(30).ofOrder(0, 0), Threadneedle.DONE);
        doc.due("cancelled", cancelled().ofOrder(0, 0), Threadneedle.CANCELLED);
    }

    // ---- to start

    /** Machine 0 has a hoop of that size, order 0 is of the shapes. */
    private static Threadneedle hooped(int width, int height, int[]... shapes) {
        Threadneedle house = designOf(shapes);
        for (int colour = 0; colour < 6; colour++) {
            house.stock(colour, 0, 1000);
        }
        house.machine(6, width, height);
        house.order(0, 1);
        return house;
    }

    private void hoopDue(int width, int height, int[]... shapes) {
        doc.due("just as wide and high", Checks.answer(hooped(width, height, shapes), start(0, 0)), "0");
        doc.due("16 wide and high", Checks.answer(hooped(16, 16, shapes), start(0, 0)), "0");
        if (width > 1) {
            doc.illegalState("1 too narrow", () -> hooped(width - 1, 16, shapes), start(0, 0));
        }
        if (height > 1) {
            doc.illegalState("1 too low", () -> hooped(16, height - 1, shapes), start(0, 0));
        }
    }

    private void hoops() {
        doc.of("To start it is to give it to a machine that has none, whose hoop is as wide as the greatest x of all"
                + " cells of the design's shapes and 1, and as high as their greatest y and 1");
        hoopDue(1, 1, dot(0, 0));
        hoopDue(16, 16, block(0, 15, 15, 1, 1));
        hoopDue(7, 3, block(0, 4, 2, 3, 1));
        // Of the first shape and of the last one; the widest one is not the highest one.
        hoopDue(9, 12, block(0, 8, 0, 1, 1), dot(1, 0), block(2, 0, 11, 1, 1));
        hoopDue(9, 12, block(2, 0, 11, 1, 1), dot(1, 0), block(0, 8, 0, 1, 1));
        // A stair's cells, not its box: 2 rows reach no farther than 2 cells.
        hoopDue(6, 5, stair(0, 4, 3, 12, 2));
        doc.illegalState("on a machine that has one", () -> {
            Threadneedle house = hooped(16, 16, dot(0, 0));
            house.order(0, 1);
            house.start(0, 0);
            return house;
        }, start(1, 0));
    }

    /** Order 0 needs 18 stitches of colour 0 and 12 of colour 1; there are so many of the shades of colour 0. */
    private static Threadneedle withShades(int... stitches) {
        Threadneedle house = waiting();
        house.stock(1, 1, 12);
        for (int shade = 0; shade < stitches.length; shade++) {
            if (stitches[shade] > 0) {
                house.stock(0, shade, stitches[shade]);
            }
        }
        return house;
    }

    private void shadeDue(int shade, int... stitches) {
        Threadneedle house = withShades(stitches);
        doc.due("start", Checks.answer(house, start(0, 0)), "0");
        doc.due("shade of colour 0", house.shadeOf(0, 0), shade);
        doc.due("shade of colour 1", house.shadeOf(0, 1), 1);
    }

    private void shades() {
        doc.of("it gets a shade for each colour of the design, the lowest one of which as many stitches are in stock"
                + " as all pieces need of that colour.");
        shadeDue(0, 18, 18, 18);
        shadeDue(0, 18, 100000, 0);
        shadeDue(1, 17, 18, 100);
        shadeDue(2, 17, 17, 18);
        shadeDue(2, 0, 0, 19);
        doc.illegalState("no shade", () -> withShades(17, 17, 17), start(0, 0));
        doc.illegalState("no thread", Houses::waiting, start(0, 0));
        doc.due("no colour of the design", started().shadeOf(0, 2), NONE);
    }

    // ---- to sew

    private void sewing() {
        doc.of("A machine sews its pieces one after the other, each stitch by stitch, each of one of the order's"
                + " shade.");
        Threadneedle house = started();
        int ofColour0 = 0;
        for (int sewn = 1; sewn <= 29; sewn++) {
            doc.due("stitch " + sewn, house.run(0, 1), 1);
            ofColour0 += (sewn - 1) % 10 < 6 ? 1 : 0;
            doc.orderDue("after " + sewn, house, 0, "1 0 3 " + sewn / 10 + " " + sewn % 10 + " 0 0");
            doc.due("left of colour 0", house.left(0, 0), 100 - ofColour0);
            doc.due("left of colour 1", house.left(1, 0), 100 - (sewn - ofColour0));
        }
        Threadneedle other = withOtherShades(0);
        other.match(0, 0, 2);
        other.run(0, 1);
        doc.due("left of the shade that it had", other.left(0, 0), 100);
        doc.due("left of the order's shade", other.left(0, 2), 17);
    }

    private void heads() {
        doc.of("Its heads hold colours, none at first; if a stitch is of one that no head holds, that is loaded, on a"
                + " free head, or else in place of the one whose latest stitch on that machine was sewn longest ago.");
        doc.machineDue("at first", started(), 0, "0 0 0 0");
        doc.machineDue("after 1 stitch", sewnBy(1), 0, "0 1 1 1");
        doc.machineDue("ahead of colour 1", sewnBy(6), 0, "0 1 1 6");
        doc.machineDue("with colour 1", sewnBy(7), 0, "0 2 3 7");
        // Just as many heads as colours; 1 head too few.
        sewnDue(2, "-1 2 3 8", 2, 0, 1);
        sewnDue(1, "-1 4 2 8", 2, 0, 1);
        sewnDue(6, "-1 6 63 12", 1, 5, 4, 3, 2, 1, 0);
        sewnDue(5, "-1 6 31 12", 1, 5, 4, 3, 2, 1, 0);
        // Not the one that was loaded first, nor the one of the fewest stitches gives way.
        sewnDue(2, "-1 3 5 8", 1, 0, 1, 0, 2);
        sewnDue(2, "-1 3 6 10", 1, 0, 0, 0, 1, 2);
        sewnDue(3, "-1 4 13 12", 1, 0, 1, 2, 0, 2, 3);
        // One that was loaded again counts from its latest stitch.
        sewnDue(2, "-1 5 9 10", 1, 0, 1, 2, 0, 3);
        // Of an order ahead of this one.
        Threadneedle house = allThread(2);
        house.order(layers(house, 0, 1, 0), 1);
        house.order(layers(house, 2), 1);
        house.start(0, 0);
        house.run(0, 6);
        house.start(1, 0);
        house.run(0, 1);
        doc.machineDue("with colour 2", house, 0, "1 3 5 7");
    }

    /** Order 1 on machine 1, of 1 head, has the same thread as order 0, which sewed all but so much of it. */
    private static Threadneedle sharedThread(int sewn) {
        Threadneedle house = waiting();
        house.machine(1, 16, 16);
        house.order(0, 3);
        house.stock(0, 0, 18);
        house.stock(1, 0, 12);
        house.start(0, 0);
        house.start(1, 1);
        house.run(0, sewn);
        return house;
    }

    private void withoutThread() {
        doc.of("If none is in stock, the machine stops ahead of that stitch, loading nothing.");
        // 22 stitches of order 0 are 14 of colour 0 and 8 of colour 1: 4 of each are left.
        Threadneedle house = sharedThread(22);
        doc.due("to the last stitch of thread", house.run(1, 100), 4);
        doc.due("without thread", house.run(1, 1), 0);
        doc.orderDue("without thread", house, 1, "1 0 3 0 4 0 1");
        doc.machineDue("without thread", house, 1, "1 1 1 4");
        house.stock(0, 0, 2);
        doc.due("up to colour 1", house.run(1, 2), 2);
        // Order 0 takes what is left of colour 1.
        house.stock(0, 0, 4);
        house.run(0, 8);
        doc.due("none of colour 1", house.left(1, 0), 0);
        doc.due("ahead of colour 1", house.run(1, 100000), 0);
        doc.machineDue("loading nothing", house, 1, "1 1 1 6");
        house.stock(1, 0, 1);
        doc.due("with 1 stitch of thread", house.run(1, 100000), 1);
        doc.machineDue("loading", house, 1, "1 2 2 7");
        // Of another shade there is some.
        house.stock(1, 1, 100);
        doc.due("of another shade alone", house.run(1, 100000), 0);
        // The very first stitch.
        Threadneedle first = sharedThread(26);
        first.run(0, 4);
        doc.due("no thread at all", first.left(0, 0) + first.left(1, 0), 0);
        doc.due("ahead of the first stitch", first.run(1, 1), 0);
        doc.machineDue("ahead of the first stitch", first, 1, "1 0 0 0");
    }

    private void lastPiece() {
        doc.of("When the last piece is sewn, the order is DONE, and the machine free; its heads keep what they hold.");
        Threadneedle house = sewnBy(29);
        doc.machineDue("1 stitch ahead", house, 0, "0 2 3 29");
        house.order(0, 1);
        doc.due("run on", house.run(0, 100000), 1);
        doc.orderDue("done", house, 0, "2 0 3 3 0 0 -1");
        doc.machineDue("free", house, 0, "-1 2 3 30");
        doc.due("start of the next one", Checks.answer(house, start(1, 0)), "0");
        house.run(0, 100000);
        doc.machineDue("nothing loaded anew", house, 0, "-1 2 3 40");
        Threadneedle of1 = designOf(dot(0, 0));
        of1.machine(1, 1, 1);
        of1.stock(0, 0, 2);
        of1.order(0, 1);
        of1.start(0, 0);
        of1.run(0, 2);
        doc.orderDue("of 1 piece", of1, 0, "2 0 1 1 0 0 -1");
    }

    // ---- to snap

    /** Of the second piece so many stitches are sewn; 6 are of its first shape. */
    private static Threadneedle secondPiece(int stitches) {
        return sewnBy(10 + stitches);
    }

    private void snapping() {
        doc.of("When the thread snaps, the machine goes back 5 stitches, but at most to the beginning of the shape in"
                + " which the latest stitch of the piece is");
        int[] back = {0, 1, 2, 3, 4, 5, 5, 1, 2, 3};
        for (int stitches = 1; stitches < back.length; stitches++) {
            Threadneedle house = secondPiece(stitches);
            doc.due("snap after " + stitches, house.snap(0), back[stitches]);
            doc.orderDue("snapped after " + stitches, house, 0,
                    "1 0 3 1 " + (stitches - back[stitches]) + " " + back[stitches] + " 0");
        }
        doc.illegalState("snap behind a whole piece", () -> secondPiece(0), h -> h.snap(0));
        // The latest stitch that is not gone may be of the shape ahead.
        Threadneedle house = secondPiece(8);
        doc.due("snap in shape 1", house.snap(0), 2);
        doc.due("snap at its beginning", house.snap(0), 5);
        doc.due("snap in shape 0", house.snap(0), 1);
        doc.due("all gone", house.ofOrder(0, 4), 0);
        // Like colours do not join two shapes.
        Threadneedle alike = allThread(1);
        alike.order(layers(alike, 0, 0, 0), 1);
        alike.start(0, 0);
        alike.run(0, 5);
        doc.due("snap in the last shape", alike.snap(0), 1);
        doc.of("these are waste, and are sewn again.");
        Threadneedle again = secondPiece(9);
        again.snap(0);
        doc.due("waste", again.ofOrder(0, 5), 3);
        again.run(0, 1);
        again.snap(0);
        doc.due("more waste", again.ofOrder(0, 5), 4);
        doc.due("sewn again", again.run(0, 100000), 14);
        doc.orderDue("at last", again, 0, "2 0 3 3 0 4 -1");
        doc.due("thread of waste is gone", again.left(1, 0), 100 - 12 - 4);
        doc.machineDue("sewn in all", again, 0, "-1 2 3 34");
    }

    // ---- shades

    private void matching() {
        doc.of("To match a colour of an order that is SEWN is to give it another shade, of which as many stitches are"
                + " in stock as all pieces need of that colour.");
        Threadneedle house = withOtherShades(0);
        doc.due("match", house.match(0, 0, 2), 0);
        doc.due("the other shade", house.shadeOf(0, 0), 2);
        doc.due("the other colour's shade", house.shadeOf(0, 1), 0);
        doc.illegalState("1 stitch too few", () -> withOtherShades(0), h -> h.match(0, 0, 1));
        doc.illegalState("the same shade", () -> withOtherShades(0), h -> h.match(0, 0, 0));
        // All pieces: those too that need nothing more.
        doc.illegalState("enough for the last piece", () -> withOtherShades(29), h -> h.match(0, 0, 1));
        doc.due("enough for all", withOtherShades(29).match(0, 0, 2), 3);
        doc.illegalState("what waits", () -> withShades(18, 18, 18), h -> h.match(0, 0, 1));
        doc.illegalState("what is done", () -> withOtherShades(30), h -> h.match(0, 0, 2));
    }

    /** A match after so many stitches and snaps, and the order's whole pieces, stitches of the next one and waste. */
    private void anewDue(int stitches, int snaps, int colour, String whatItSewed) {
        Threadneedle house = withOtherShades(stitches);
        for (int snap = 0; snap < snaps; snap++) {
            house.snap(0);
        }
        house.match(0, colour, colour == 0 ? 2 : 1);
        doc.orderDue("matched after " + stitches, house, 0, "1 0 3 " + whatItSewed + " 0");
    }

    private void beginningAnew() {
        doc.of("If some stitch of that colour was sewn for the order, and is not gone by snapping, or by an earlier"
                + " match, all of its pieces are begun anew, sewn ones too: all their stitches are waste.");
        anewDue(0, 0, 0, "0 0 0");
        anewDue(1, 0, 0, "0 0 1");
        // The last stitch ahead of colour 1, and the first one of it.
        anewDue(6, 0, 1, "0 6 0");
        anewDue(7, 0, 1, "0 0 7");
        anewDue(10, 0, 1, "0 0 10");
        anewDue(11, 0, 1, "0 0 11");
        anewDue(29, 0, 0, "0 0 29");
        // The first one of colour 1, gone by snapping; gone in the second piece alone.
        anewDue(7, 1, 1, "0 6 1");
        anewDue(5, 1, 0, "0 0 5");
        anewDue(17, 1, 1, "0 0 17");
        Threadneedle house = withOtherShades(17);
        house.match(0, 1, 1);
        doc.due("match of what is gone by a match", house.match(0, 0, 2), 0);
        doc.orderDue("matched twice", house, 0, "1 0 3 0 0 17 0");
        house.run(0, 3);
        doc.due("match of the colour that is not sewn anew", house.match(0, 1, 0), 0);
        doc.orderDue("matched three times", house, 0, "1 0 3 0 3 17 0");
        doc.due("match of the colour that is", house.match(0, 0, 0), 1);
        doc.orderDue("matched four times", house, 0, "1 0 3 0 0 20 0");
        doc.due("all pieces are sewn anew", house.run(0, 100000), 30);
    }

    private void cancelling() {
        doc.of("What is CANCELLED has all its stitches wasted, none are sewn of it then, and its machine is free.");
        int[] stitches = {0, 1, 10, 29};
        for (int sewn : stitches) {
            Threadneedle house = sewnBy(sewn);
            house.cancel(0);
            doc.orderDue("cancelled after " + sewn, house, 0, "3 0 3 0 0 " + sewn + " -1");
            doc.due("its machine's order", house.ofMachine(0, 0), NONE);
            house.order(0, 1);
            doc.due("start on its machine", Checks.answer(house, start(1, 0)), "0");
        }
        Threadneedle waits = waiting();
        waits.cancel(0);
        doc.orderDue("cancelled while it waits", waits, 0, "3 0 3 0 0 0 -1");
        Threadneedle snapped = sewnBy(13);
        snapped.snap(0);
        snapped.cancel(0);
        doc.orderDue("cancelled after a snap", snapped, 0, "3 0 3 0 0 13 -1");
    }
}
