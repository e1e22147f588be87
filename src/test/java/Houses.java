/**
 * Houses that the tests begin with. The tests extend it to name them shortly: what is in no package can't be
 * imported.
 */
abstract class Houses {
    private static final int BLOCK = Threadneedle.BLOCK;
    private static final int STAIR = Threadneedle.STAIR;

    // ---- shapes, each told by kind, colour, x, y, width, height

    static int[] block(int colour, int x, int y, int width, int height) {
        return new int[] {BLOCK, colour, x, y, width, height};
    }

    static int[] stair(int colour, int x, int y, int width, int height) {
        return new int[] {STAIR, colour, x, y, width, height};
    }

    /** A block of one cell, apart from those of other numbers below 32. */
    static int[] dot(int colour, int number) {
        return block(colour, number % 8 * 2, number / 8 * 2, 1, 1);
    }

    /** Block, all cells, of 256 stitches and an edge of 60. */
    static int[] whole(int colour) {
        return block(colour, 0, 0, 16, 16);
    }

    static int shape(Threadneedle house, int[] shape) {
        return house.shape(shape[0], shape[1], shape[2], shape[3], shape[4], shape[5]);
    }

    static int addDesign(Threadneedle house, int[]... shapes) {
        for (int[] shape : shapes) {
            shape(house, shape);
        }
        return house.design();
    }

    /** A design of one cell, with a stitch and its edge of each colour in turn. */
    static int layers(Threadneedle house, int... colours) {
        for (int colour : colours) {
            house.shape(BLOCK, colour, 0, 0, 1, 1);
        }
        return house.design();
    }

    // ---- houses with shapes and designs

    static Threadneedle designOf(int[]... shapes) {
        Threadneedle house = new Threadneedle();
        addDesign(house, shapes);
        return house;
    }

    static Threadneedle draftOfOne() {
        Threadneedle house = new Threadneedle();
        house.shape(STAIR, 2, 3, 3, 2, 2);
        return house;
    }

    static Threadneedle fullDraft() {
        Threadneedle house = new Threadneedle();
        for (int k = 0; k < 7; k++) {
            house.shape(BLOCK, 0, 0, 0, 1, 1);
        }
        return house;
    }

    /** There is a shape in the draft, too. */
    static Threadneedle sixDesigns() {
        Threadneedle house = new Threadneedle();
        for (int number = 0; number < 6; number++) {
            layers(house, 0);
        }
        house.shape(BLOCK, 1, 1, 1, 1, 1);
        return house;
    }

    // ---- houses with machines and thread

    static Threadneedle fourMachines() {
        Threadneedle house = new Threadneedle();
        for (int k = 0; k < 4; k++) {
            house.machine(1, 1, 1);
        }
        return house;
    }

    /** Of shade 1 of colour 3 there are 999999 stitches, 1 less than the most. */
    static Threadneedle nearlyFullSpool() {
        Threadneedle house = new Threadneedle();
        for (int k = 0; k < 9; k++) {
            house.stock(3, 1, 100000);
        }
        house.stock(3, 1, 99999);
        return house;
    }

    /** Of shade 0 of each colour there are 10000 stitches; machine 0 has so many heads. */
    static Threadneedle allThread(int heads) {
        Threadneedle house = new Threadneedle();
        house.machine(heads, 16, 16);
        for (int colour = 0; colour < 6; colour++) {
            house.stock(colour, 0, 10000);
        }
        return house;
    }

    // ---- houses with orders

    /** Design 0: 6 stitches of colour 0 in row 0, then 4 of colour 1 in row 4; 3 wide, 5 high. */
    static Threadneedle withDesign() {
        return designOf(block(0, 0, 0, 3, 1), block(1, 0, 4, 2, 1));
    }

    /** Machine 0 has 2 heads, order 0 is of 3 pieces, so it needs 18 and 12 stitches. */
    static Threadneedle waiting() {
        Threadneedle house = withDesign();
        house.machine(2, 16, 16);
        house.order(0, 3);
        return house;
    }

    static Threadneedle started() {
        Threadneedle house = waiting();
        house.stock(0, 0, 100);
        house.stock(1, 0, 100);
        house.start(0, 0);
        return house;
    }

    static Threadneedle sewnBy(int stitches) {
        Threadneedle house = started();
        if (stitches > 0) {
            house.run(0, stitches);
        }
        return house;
    }

    /** Besides, there is just enough of (0, 2) and (1, 1), and 1 stitch too few of (0, 1). */
    static Threadneedle withOtherShades(int stitches) {
        Threadneedle house = sewnBy(stitches);
        house.stock(0, 2, 18);
        house.stock(0, 1, 17);
        house.stock(1, 1, 12);
        return house;
    }

    static Threadneedle done() {
        return sewnBy(30);
    }

    static Threadneedle cancelled() {
        Threadneedle house = sewnBy(7);
        house.cancel(0);
        return house;
    }

    /** One of them cancelled: that makes no room for another one. */
    static Threadneedle twentyOrders() {
        Threadneedle house = withDesign();
        for (int k = 0; k < 20; k++) {
            house.order(0, 1);
        }
        house.cancel(7);
        return house;
    }

    /** A call of start, which answers nothing, as one that answers 0. */
    static Checks.Call start(int order, int machine) {
        return house -> {
            house.start(order, machine);
            return 0;
        };
    }
}
