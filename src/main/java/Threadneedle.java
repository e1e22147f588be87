/** An embroidery house; ../shared/DOC.md says, as numbered promises, what each call does. */
public final class Threadneedle {
    public static final int NONE = -1;
    public static final int BLOCK = 0, STAIR = 1;
    public static final int WAITS = 0, SEWN = 1, DONE = 2, CANCELLED = 3;

    private static final int SIDE = 16;
    private static final int COLOURS = 6;
    private static final int SHADES = 3;
    private static final int MOST_SHAPES = 7;
    private static final int MOST_DESIGNS = 6;
    private static final int MOST_MACHINES = 4;
    private static final int MOST_ORDERS = 20;
    private static final int MOST_HEADS = 6;
    private static final int MOST_PIECES = 50;
    private static final int MOST_A_CALL = 100000;
    private static final int MOST_IN_STOCK = 1000000;
    private static final int SNAPPED = 5;

    private final Shape[] draft = new Shape[MOST_SHAPES];
    private int drafted;
    private final Design[] designs = new Design[MOST_DESIGNS];
    private int designCount;
    private final Machine[] machines = new Machine[MOST_MACHINES];
    private int machineCount;
    private final Order[] orders = new Order[MOST_ORDERS];
    private int orderCount;
    private final Spools spools = new Spools();

    public Threadneedle() {
    }

    // ---- shapes, designs

    public int shape(int kind, int colour, int x, int y, int width, int height)
            throws IndexOutOfBoundsException, IllegalArgumentException, IllegalStateException {
        if (kind != BLOCK && kind != STAIR || !isColour(colour)) {
            throw new IndexOutOfBoundsException("no such kind or colour");
        }
        if (!isSpan(x, width) || !isSpan(y, height)) {
            throw new IllegalArgumentException("x, y, width or height is out of range");
        }
        if (drafted >= draft.length) {
            throw new IllegalStateException("the draft is full");
        }
        int[] rows = new int[SIDE];
        for (int k = 0; k < height && y + k < SIDE; k++) {
            int cells = kind == BLOCK ? width : Math.min(k + 1, width);
            rows[y + k] = ((1 << cells) - 1) << x;
        }
        draft[drafted] = new Shape(drafted, colour, rows);
        drafted++;
        return drafted;
    }

    public int wipe() {
        int had = drafted;
        drafted = 0;
        return had;
    }

    public int design() throws IllegalStateException {
        if (drafted == 0) {
            throw new IllegalStateException("the draft is empty");
        }
        if (designCount >= designs.length) {
            throw new IllegalStateException("there are as many designs as there can be");
        }
        Shape[] shapes = new Shape[drafted];
        for (int k = 0; k < drafted && k < draft.length; k++) {
            shapes[k] = draft[k];
        }
        drafted = 0;
        designs[designCount] = new Design(designCount, shapes);
        return designCount++;
    }

    // ---- machines, thread, orders

    public int machine(int heads, int width, int height)
            throws IllegalArgumentException, IllegalStateException {
        if (!isFrom1To(heads, MOST_HEADS) || !isFrom1To(width, SIDE) || !isFrom1To(height, SIDE)) {
            throw new IllegalArgumentException("heads, width or height is out of range");
        }
        if (machineCount >= machines.length) {
            throw new IllegalStateException("there are as many machines as there can be");
        }
        machines[machineCount] = new Machine(machineCount, heads, width, height);
        return machineCount++;
    }

    public int stock(int colour, int shade, int stitches)
            throws IndexOutOfBoundsException, IllegalArgumentException, IllegalStateException {
        if (!isColour(colour) || !isShade(shade)) {
            throw new IndexOutOfBoundsException("no such colour or shade");
        }
        if (!isFrom1To(stitches, MOST_A_CALL)) {
            throw new IllegalArgumentException("stitches is out of range");
        }
        if (spools.count(colour, shade) + stitches > MOST_IN_STOCK) {
            throw new IllegalStateException("it would be too much thread");
        }
        spools.add(colour, shade, stitches);
        return spools.count(colour, shade);
    }

    public int order(int design, int pieces)
            throws IndexOutOfBoundsException, IllegalArgumentException, IllegalStateException {
        Design wanted = designAt(design);
        if (!isFrom1To(pieces, MOST_PIECES)) {
            throw new IllegalArgumentException("pieces is out of range");
        }
        if (orderCount >= orders.length) {
            throw new IllegalStateException("there were as many orders as there can be");
        }
        orders[orderCount] = new Order(orderCount, wanted, pieces);
        return orderCount++;
    }

    public void start(int order, int machine) throws IndexOutOfBoundsException, IllegalStateException {
        Order started = orderAt(order);
        Machine free = machineAt(machine);
        if (started.state != WAITS || free.order != null) {
            throw new IllegalStateException("the order does not wait, or the machine has one");
        }
        if (free.width < started.design.width || free.height < started.design.height) {
            throw new IllegalStateException("the hoop is too small");
        }
        for (int colour = 0; colour < COLOURS; colour++) {
            if (started.need(colour) > 0 && shadeFor(started, colour) == NONE) {
                throw new IllegalStateException("no shade of some colour is enough");
            }
        }
        for (int colour = 0; colour < COLOURS; colour++) {
            if (started.need(colour) > 0) {
                started.setShade(colour, shadeFor(started, colour));
            }
        }
        started.state = SEWN;
        started.machine = free;
        free.order = started;
    }

    public int run(int machine, int stitches)
            throws IndexOutOfBoundsException, IllegalArgumentException, IllegalStateException {
        Machine running = machineAt(machine);
        if (!isFrom1To(stitches, MOST_A_CALL)) {
            throw new IllegalArgumentException("stitches is out of range");
        }
        if (running.order == null) {
            throw new IllegalStateException("the machine has no order");
        }
        int sewn = 0;
        // Each stretch but the last one sews a stitch at least, so there are no more than stitches.
        for (int stretch = 0; stretch < stitches && sewn < stitches; stretch++) {
            int more = sewStretch(running, stitches - sewn);
            if (more == 0) {
                break;
            }
            sewn += more;
        }
        return sewn;
    }

    public int snap(int machine) throws IndexOutOfBoundsException, IllegalStateException {
        Order order = machineAt(machine).order;
        if (order == null) {
            throw new IllegalStateException("the machine has no order");
        }
        Shape latest = order.design.shapeOf(order.begun - 1);
        if (latest == null) {
            throw new IllegalStateException("no stitch of the piece is sewn");
        }
        int back = Math.min(SNAPPED, order.begun - latest.begin);
        order.begun -= back;
        order.waste += back;
        return back;
    }

    public int match(int order, int colour, int shade)
            throws IndexOutOfBoundsException, IllegalStateException {
        Order matched = orderAt(order);
        if (!isColour(colour) || !isShade(shade)) {
            throw new IndexOutOfBoundsException("no such colour or shade");
        }
        if (matched.state != SEWN || matched.need(colour) == 0) {
            throw new IllegalStateException("the order is not sewn, or does not have that colour");
        }
        if (matched.shade(colour) == shade || spools.count(colour, shade) < matched.need(colour)) {
            throw new IllegalStateException("it has that shade, or there is too little of it");
        }
        matched.setShade(colour, shade);
        if (!matched.hasSewn(colour)) {
            return 0;
        }
        int pieces = matched.whole + (matched.begun > 0 ? 1 : 0);
        matched.wasteAll();
        return pieces;
    }

    public int cancel(int order) throws IndexOutOfBoundsException, IllegalStateException {
        Order cancelled = orderAt(order);
        if (cancelled.state == DONE || cancelled.state == CANCELLED) {
            throw new IllegalStateException("the order is over");
        }
        end(cancelled, CANCELLED);
        return cancelled.wasteAll();
    }

    // ---- what is asked

    public int stitches(int design, int colour) throws IndexOutOfBoundsException {
        Design asked = designAt(design);
        if (colour == NONE) {
            return asked.cells.length;
        }
        if (!isColour(colour)) {
            throw new IndexOutOfBoundsException("no such colour");
        }
        return asked.need(colour);
    }

    public int stitch(int design, int place, int what)
            throws IndexOutOfBoundsException, IllegalArgumentException {
        Design asked = designAt(design);
        if (place < 0) {
            throw new IndexOutOfBoundsException("place is below 0");
        }
        if (what < 0 || what > 2) {
            throw new IllegalArgumentException("what is out of range");
        }
        Shape shape = asked.shapeOf(place);
        if (shape == null || place >= asked.cells.length) {
            return NONE;
        }
        if (what == 2) {
            return shape.number;
        }
        return what == 0 ? xOf(asked.cells[place]) : yOf(asked.cells[place]);
    }

    public int sequence(int design, int place) throws IndexOutOfBoundsException {
        Design asked = designAt(design);
        if (place < 0) {
            throw new IndexOutOfBoundsException("place is below 0");
        }
        Shape shape = shapeAt(asked.sequence, place);
        return shape == null ? NONE : shape.number;
    }

    public int changes(int design) throws IndexOutOfBoundsException {
        return designAt(design).changes;
    }

    public int changesAnew(int design) throws IndexOutOfBoundsException {
        return designAt(design).sequencer.fewestOfAllOrders();
    }

    public int jumps(int design, boolean isHidden) throws IndexOutOfBoundsException {
        Design asked = designAt(design);
        return isHidden ? asked.hiddenJumps : asked.openJumps;
    }

    public int ofOrder(int order, int what) throws IndexOutOfBoundsException, IllegalArgumentException {
        Order asked = orderAt(order);
        switch (what) {
            case 0: return asked.state;
            case 1: return asked.design.number;
            case 2: return asked.pieces;
            case 3: return asked.whole;
            case 4: return asked.begun;
            case 5: return asked.waste;
            case 6: return asked.machine == null ? NONE : asked.machine.number;
            default: throw new IllegalArgumentException("what is out of range");
        }
    }

    public int shadeOf(int order, int colour) throws IndexOutOfBoundsException {
        Order asked = orderAt(order);
        if (!isColour(colour)) {
            throw new IndexOutOfBoundsException("no such colour");
        }
        return asked.shade(colour);
    }

    public int ofMachine(int machine, int what) throws IndexOutOfBoundsException, IllegalArgumentException {
        Machine asked = machineAt(machine);
        switch (what) {
            case 0: return asked.order == null ? NONE : asked.order.number;
            case 1: return asked.loads;
            case 2: return asked.held;
            case 3: return asked.sewn;
            default: throw new IllegalArgumentException("what is out of range");
        }
    }

    public int left(int colour, int shade) throws IndexOutOfBoundsException {
        if (!isColour(colour) || !isShade(shade)) {
            throw new IndexOutOfBoundsException("no such colour or shade");
        }
        return spools.count(colour, shade);
    }

    // ---- what the calls share

    private static boolean isColour(int colour) {
        return colour >= 0 && colour < COLOURS;
    }

    private static boolean isShade(int shade) {
        return shade >= 0 && shade < SHADES;
    }

    private static boolean isFrom1To(int number, int most) {
        return number >= 1 && number <= most;
    }

    /** The place is looked at first, so that SIDE - from can't wrap around. */
    private static boolean isSpan(int from, int length) {
        return from >= 0 && from < SIDE && isFrom1To(length, SIDE - from);
    }

    private static int xOf(int cell) {
        return cell % SIDE;
    }

    private static int yOf(int cell) {
        return cell / SIDE;
    }

    /** The shape at a place of a row of shapes; null, if there is none. */
    private static Shape shapeAt(Shape[] shapes, int place) {
        return place >= 0 && place < shapes.length ? shapes[place] : null;
    }

    private Design designAt(int number) {
        if (number < 0 || number >= designs.length || designs[number] == null) {
            throw new IndexOutOfBoundsException("no such design");
        }
        return designs[number];
    }

    private Machine machineAt(int number) {
        if (number < 0 || number >= machines.length || machines[number] == null) {
            throw new IndexOutOfBoundsException("no such machine");
        }
        return machines[number];
    }

    private Order orderAt(int number) {
        if (number < 0 || number >= orders.length || orders[number] == null) {
            throw new IndexOutOfBoundsException("no such order");
        }
        return orders[number];
    }

    /** The lowest shade that is enough for all pieces, NONE without. */
    private int shadeFor(Order order, int colour) {
        for (int shade = 0; shade < SHADES; shade++) {
            if (spools.count(colour, shade) >= order.need(colour)) {
                return shade;
            }
        }
        return NONE;
    }

    /**
     * Sews on to the end of the shape, or as far as most and the thread allow; returns how many.
     * All stitches of a shape are of one colour, so none but the first one can need a head.
     */
    private int sewStretch(Machine machine, int most) {
        Order order = machine.order;
        if (order == null) {
            return 0;
        }
        Shape shape = order.design.shapeOf(order.begun);
        if (shape == null) {
            return 0;
        }
        int shade = order.shade(shape.colour);
        int thread = spools.count(shape.colour, shade);
        int count = Math.min(Math.min(most, thread), shape.end - order.begun);
        if (count <= 0) {
            return 0;
        }
        spools.add(shape.colour, shade, -count);
        machine.sew(shape.colour, count);
        order.sew(count);
        if (order.whole == order.pieces) {
            end(order, DONE);
        }
        return count;
    }

    private static void end(Order order, int state) {
        order.state = state;
        if (order.machine != null) {
            order.machine.order = null;
            order.machine = null;
        }
    }

    /** Thread in stock, by colours and shades. */
    private static final class Spools {
        private final int[] counts = new int[COLOURS * SHADES];

        int count(int colour, int shade) {
            return isColour(colour) && isShade(shade) ? counts[colour * SHADES + shade] : 0;
        }

        void add(int colour, int shade, int stitches) {
            if (isColour(colour) && isShade(shade)) {
                counts[colour * SHADES + shade] += stitches;
            }
        }
    }

    private static final class Shape {
        final int number;
        final int colour;
        /** Bit x of rows[y] stands for the cell (x, y). */
        private final int[] rows;
        /** Its first stitch in its design, and the one behind its last one. */
        int begin;
        int end;

        Shape(int number, int colour, int[] rows) {
            this.number = number;
            this.colour = colour;
            this.rows = rows;
        }

        boolean hasCell(int x, int y) {
            return x >= 0 && x < SIDE && y >= 0 && y < rows.length && (rows[y] >> x & 1) == 1;
        }

        boolean isEdge(int x, int y) {
            boolean isInside = hasCell(x - 1, y) && hasCell(x + 1, y) && hasCell(x, y - 1) && hasCell(x, y + 1);
            return hasCell(x, y) && !isInside;
        }

        boolean meets(Shape other) {
            for (int y = 0; other != null && y < rows.length && y < other.rows.length; y++) {
                if ((rows[y] & other.rows[y]) != 0) {
                    return true;
                }
            }
            return false;
        }

        boolean isUnlike(Shape other) {
            return other != null && colour != other.colour;
        }

        int stitchCount() {
            int count = 0;
            for (int cell = 0; cell < SIDE * SIDE; cell++) {
                count += hasCell(xOf(cell), yOf(cell)) ? 1 : 0;
                count += isEdge(xOf(cell), yOf(cell)) ? 1 : 0;
            }
            return count;
        }

        /** Puts the cells of its stitches into a design's, from begin on, and sets begin and end. */
        void putStitches(int[] cells, int from) {
            begin = from;
            end = from;
            boolean isRising = true;
            for (int y = 0; y < rows.length; y++) {
                for (int k = 0; k < SIDE; k++) {
                    int x = isRising ? k : SIDE - 1 - k;
                    if (hasCell(x, y)) {
                        putStitch(cells, x, y);
                    }
                }
                if (rows[y] != 0) {
                    isRising = !isRising;
                }
            }
            for (int cell = 0; cell < SIDE * SIDE; cell++) {
                if (isEdge(xOf(cell), yOf(cell))) {
                    putStitch(cells, xOf(cell), yOf(cell));
                }
            }
        }

        private void putStitch(int[] cells, int x, int y) {
            if (end >= 0 && end < cells.length) {
                cells[end] = y * SIDE + x;
                end++;
            }
        }
    }

    /** Orders the shapes of a design. Sets of shapes are bits, by their numbers. */
    private static final class Sequencer {
        private final Shape[] shapes;
        /** The shapes that are sewn ahead of each one. */
        private final int[] ahead;
        /** The shapes of unlike colours, for each one. */
        private final int[] unlike;

        Sequencer(Shape[] shapes) {
            this.shapes = shapes;
            ahead = new int[shapes.length];
            unlike = new int[shapes.length];
            for (int number = 0; number < shapes.length; number++) {
                Shape shape = shapes[number];
                for (int other = 0; shape != null && other < shapes.length; other++) {
                    ahead[number] |= other < number && shape.meets(shapes[other]) ? 1 << other : 0;
                    unlike[number] |= shape.isUnlike(shapes[other]) ? 1 << other : 0;
                }
            }
        }

        Shape[] bestOrder() {
            int[] fewest = fewestByBegin();
            Shape[] best = new Shape[shapes.length];
            int sewn = 0;
            int latest = NONE;
            for (int place = 0; place < best.length; place++) {
                latest = bestNext(sewn, latest, fewest);
                if (latest >= 0 && latest < shapes.length) {
                    best[place] = shapes[latest];
                    sewn |= 1 << latest;
                }
            }
            return best;
        }

        int fewestOfAllOrders() {
            return tryOrders(this, 0, NONE, 0);
        }

        /** Tries every order that goes on from the shapes sewn; returns the fewest changes of its rest. */
        private static int tryOrders(Sequencer of, int sewn, int latest, int depth) {
            int count = of.shapes.length;
            if (depth >= count) {
                return 0;
            }
            int fewest = count;
            for (int next = 0; next < count; next++) {
                if (of.mayFollow(sewn, next)) {
                    int rest = tryOrders(of, sewn | 1 << next, next, depth + 1);
                    fewest = Math.min(fewest, of.change(latest, next) + rest);
                }
            }
            return fewest;
        }

        /**
         * The fewest changes of the rest of an order, for each set of shapes sewn and the latest of
         * them: larger sets first, as each one asks those with one shape more.
         */
        private int[] fewestByBegin() {
            int sets = 1 << shapes.length;
            int[] fewest = new int[sets * shapes.length];
            for (int sewn = sets - 2; sewn > 0; sewn--) {
                for (int latest = 0; latest < shapes.length; latest++) {
                    int next = bestNext(sewn, latest, fewest);
                    fewest[sewn * shapes.length + latest] = changesBy(sewn, latest, next, fewest);
                }
            }
            return fewest;
        }

        /** The lowest shape of those that go on with the fewest changes, NONE if all are sewn. */
        private int bestNext(int sewn, int latest, int[] fewest) {
            int best = NONE;
            for (int next = 0; next < shapes.length; next++) {
                if (!mayFollow(sewn, next)) {
                    continue;
                }
                boolean isFirst = best == NONE;
                if (isFirst || changesBy(sewn, latest, next, fewest) < changesBy(sewn, latest, best, fewest)) {
                    best = next;
                }
            }
            return best;
        }

        /** The fewest changes of the rest of an order, if it goes on with a shape. */
        private int changesBy(int sewn, int latest, int next, int[] fewest) {
            int index = (sewn | 1 << next) * shapes.length + next;
            return index >= 0 && index < fewest.length ? change(latest, next) + fewest[index] : 0;
        }

        private boolean mayFollow(int sewn, int next) {
            return (sewn >> next & 1) == 0 && next < ahead.length && (ahead[next] & ~sewn) == 0;
        }

        /** 1 for neighbours of unlike colours; the first shape has none ahead of it. */
        private int change(int latest, int next) {
            return latest >= 0 && latest < unlike.length ? unlike[latest] >> next & 1 : 0;
        }
    }

    private static final class Design {
        final int number;
        final Sequencer sequencer;
        final Shape[] sequence;
        /** The cell of each stitch, as y * SIDE + x. */
        final int[] cells;
        final int changes;
        final int openJumps;
        final int hiddenJumps;
        /** What a hoop must have. */
        final int width;
        final int height;

        Design(int number, Shape[] shapes) {
            this.number = number;
            sequencer = new Sequencer(shapes);
            sequence = sequencer.bestOrder();
            cells = cellsOf(sequence);
            changes = countChanges(sequence);
            openJumps = countJumps(sequence, cells, false);
            hiddenJumps = countJumps(sequence, cells, true);
            int greatestX = 0;
            int greatestY = 0;
            for (int k = 0; k < cells.length; k++) {
                greatestX = Math.max(greatestX, xOf(cells[k]));
                greatestY = Math.max(greatestY, yOf(cells[k]));
            }
            width = greatestX + 1;
            height = greatestY + 1;
        }

        /** The shape that a stitch is of; null, if there is no such stitch. */
        Shape shapeOf(int stitch) {
            for (int place = 0; place < sequence.length; place++) {
                Shape shape = sequence[place];
                if (shape != null && stitch >= shape.begin && stitch < shape.end) {
                    return shape;
                }
            }
            return null;
        }

        /** How many stitches of a colour a piece needs. */
        int need(int colour) {
            int count = 0;
            for (int place = 0; place < sequence.length; place++) {
                Shape shape = sequence[place];
                if (shape != null && shape.colour == colour) {
                    count += shape.end - shape.begin;
                }
            }
            return count;
        }

        private static int[] cellsOf(Shape[] sequence) {
            int count = 0;
            for (int place = 0; place < sequence.length; place++) {
                count += sequence[place] == null ? 0 : sequence[place].stitchCount();
            }
            int[] cells = new int[count];
            int from = 0;
            for (int place = 0; place < sequence.length; place++) {
                if (sequence[place] != null) {
                    sequence[place].putStitches(cells, from);
                    from = sequence[place].end;
                }
            }
            return cells;
        }

        private static int countChanges(Shape[] sequence) {
            int count = 0;
            for (int place = 1; place < sequence.length; place++) {
                count += sequence[place] != null && sequence[place].isUnlike(sequence[place - 1]) ? 1 : 0;
            }
            return count;
        }

        private static int countJumps(Shape[] sequence, int[] cells, boolean isHidden) {
            int count = 0;
            for (int place = 0; place < sequence.length; place++) {
                Shape shape = sequence[place];
                if (shape == null) {
                    continue;
                }
                for (int k = Math.max(shape.begin, 1); k < shape.end && k < cells.length; k++) {
                    // Only ahead of a shape's first stitch can there be one of another shape.
                    boolean isUnlike = k == shape.begin && shape.isUnlike(shapeAt(sequence, place - 1));
                    if (!isUnlike && isFar(cells[k - 1], cells[k])
                            && isHiddenJump(sequence, place, cells[k - 1], cells[k]) == isHidden) {
                        count++;
                    }
                }
            }
            return count;
        }

        private static boolean isFar(int cell, int next) {
            return Math.abs(xOf(cell) - xOf(next)) > 1 || Math.abs(yOf(cell) - yOf(next)) > 1;
        }

        /** Whether a shape behind the place of the later stitch covers the middle. */
        private static boolean isHiddenJump(Shape[] sequence, int place, int cell, int next) {
            int x = (xOf(cell) + xOf(next)) / 2;
            int y = (yOf(cell) + yOf(next)) / 2;
            for (int behind = Math.max(place, 0) + 1; behind < sequence.length; behind++) {
                if (sequence[behind] != null && sequence[behind].hasCell(x, y)) {
                    return true;
                }
            }
            return false;
        }
    }

    private static final class Machine {
        final int number;
        private final int heads;
        final int width;
        final int height;
        /** null without. */
        Order order;
        int loads;
        /** The colours that its heads hold, as bits. */
        int held;
        int sewn;
        /** How many stitches were sewn with the latest one of each colour. */
        private final int[] latest = new int[COLOURS];

        Machine(int number, int heads, int width, int height) {
            this.number = number;
            this.heads = heads;
            this.width = width;
            this.height = height;
        }

        void sew(int colour, int count) {
            if (!isColour(colour)) {
                return;
            }
            if ((held >> colour & 1) == 0) {
                load(colour);
            }
            sewn += count;
            latest[colour] = sewn;
        }

        private void load(int colour) {
            if (Integer.bitCount(held) >= heads) {
                held &= ~(1 << longestAgo());
            }
            held |= 1 << colour;
            loads++;
        }

        private int longestAgo() {
            int oldest = NONE;
            for (int colour = 0; colour < latest.length; colour++) {
                if ((held >> colour & 1) == 1 && (oldest == NONE || latest[colour] < latest[oldest])) {
                    oldest = colour;
                }
            }
            return oldest;
        }
    }

    private static final class Order {
        final int number;
        final Design design;
        final int pieces;
        private final int[] shades = new int[COLOURS];
        int state = WAITS;
        int whole;
        /** How many stitches of the next piece are sewn. */
        int begun;
        int waste;
        /** null, if it is not SEWN. */
        Machine machine;

        Order(int number, Design design, int pieces) {
            this.number = number;
            this.design = design;
            this.pieces = pieces;
            for (int colour = 0; colour < shades.length; colour++) {
                shades[colour] = NONE;
            }
        }

        /** How many stitches of a colour all pieces need. */
        int need(int colour) {
            return pieces * design.need(colour);
        }

        int shade(int colour) {
            return colour >= 0 && colour < shades.length ? shades[colour] : NONE;
        }

        void setShade(int colour, int shade) {
            if (colour >= 0 && colour < shades.length) {
                shades[colour] = shade;
            }
        }

        void sew(int count) {
            begun += count;
            if (begun >= design.cells.length) {
                begun = 0;
                whole++;
            }
        }

        /** Whether a stitch of a colour of its design is sewn, and not gone. */
        boolean hasSewn(int colour) {
            if (whole > 0) {
                return true;
            }
            Shape[] sequence = design.sequence;
            for (int place = 0; place < sequence.length; place++) {
                Shape shape = sequence[place];
                if (shape != null && shape.colour == colour && shape.begin < begun) {
                    return true;
                }
            }
            return false;
        }

        /** All pieces are begun anew; returns how many stitches are wasted by that. */
        int wasteAll() {
            int wasted = whole * design.cells.length + begun;
            waste += wasted;
            whole = 0;
            begun = 0;
            return wasted;
        }
    }
}
