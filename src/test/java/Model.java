import java.util.ArrayList;
import java.util.HashSet;
import java.util.List;
import java.util.Set;

/**
 * The document written once more, slowly and plainly: each stitch by itself, each order of shapes by itself,
 * every stitch of an order kept. It shares nothing with the class.
 */
final class Model {
    record Cell(int x, int y) {
    }

    record Stitch(Cell cell, int shape, int colour) {
    }

    record Shape(int colour, Set<Cell> cells, List<Cell> stitches) {
    }

    record Design(List<Shape> shapes, List<Integer> sequence, int changes, List<Stitch> stitches) {
        int count(int colour) {
            int count = 0;
            for (Stitch stitch : stitches) {
                count += stitch.colour == colour ? 1 : 0;
            }
            return count;
        }
    }

    static final class Machine {
        int heads;
        int width;
        int height;
        int order = -1;
        int loads;
        List<Integer> held = new ArrayList<>();
        /** The colour of every stitch that it sewed. */
        List<Integer> sewn = new ArrayList<>();
    }

    static final class Order {
        int design;
        int pieces;
        int state;
        int machine = -1;
        int waste;
        int[] shades = {-1, -1, -1, -1, -1, -1};
        /** The stitches of all pieces that are sewn, and not gone. */
        List<Stitch> sewn = new ArrayList<>();
    }

    final List<Shape> draft = new ArrayList<>();
    final List<Design> designs = new ArrayList<>();
    final List<Machine> machines = new ArrayList<>();
    final List<Order> orders = new ArrayList<>();
    final int[][] thread = new int[6][3];

    private static void boundsUnless(boolean isRight) {
        if (!isRight) {
            throw new IndexOutOfBoundsException();
        }
    }

    private static void argumentUnless(boolean isRight) {
        if (!isRight) {
            throw new IllegalArgumentException();
        }
    }

    private static void stateUnless(boolean isRight) {
        if (!isRight) {
            throw new IllegalStateException();
        }
    }

    private static boolean isIn(long number, long least, long most) {
        return least <= number && number <= most;
    }

    private static <T> T of(List<T> list, int number) {
        boundsUnless(isIn(number, 0, list.size() - 1));
        return list.get(number);
    }

    // ---- shapes, designs

    int shape(int kind, int colour, int x, int y, int width, int height) {
        boundsUnless(isIn(kind, 0, 1) && isIn(colour, 0, 5));
        argumentUnless(isIn(x, 0, 15) && isIn(y, 0, 15) && isIn(width, 1, 16L - x) && isIn(height, 1, 16L - y));
        stateUnless(draft.size() < 7);
        Set<Cell> cells = new HashSet<>();
        for (int k = 0; k < height; k++) {
            for (int i = 0; i < width; i++) {
                if (kind == 0 || i < k + 1) {
                    cells.add(new Cell(x + i, y + k));
                }
            }
        }
        draft.add(new Shape(colour, cells, stitchesOf(cells, y)));
        return draft.size();
    }

    private static List<Cell> stitchesOf(Set<Cell> cells, int leastY) {
        List<Cell> stitches = new ArrayList<>();
        List<Cell> edge = new ArrayList<>();
        for (int y = 0; y < 16; y++) {
            List<Cell> row = new ArrayList<>();
            for (int x = 0; x < 16; x++) {
                Cell cell = new Cell(x, y);
                if (!cells.contains(cell)) {
                    continue;
                }
                row.add((y - leastY) % 2 == 0 ? row.size() : 0, cell);
                Set<Cell> beside = Set.of(new Cell(x - 1, y), new Cell(x + 1, y), new Cell(x, y - 1),
                        new Cell(x, y + 1));
                if (!cells.containsAll(beside)) {
                    edge.add(cell);
                }
            }
            stitches.addAll(row);
        }
        stitches.addAll(edge);
        return stitches;
    }

    int wipe() {
        int had = draft.size();
        draft.clear();
        return had;
    }

    int design() {
        stateUnless(!draft.isEmpty() && designs.size() < 6);
        List<Shape> shapes = new ArrayList<>(draft);
        draft.clear();
        List<Integer> best = new ArrayList<>();
        tryAll(shapes, new ArrayList<>(), best);
        List<Stitch> stitches = new ArrayList<>();
        for (int number : best) {
            for (Cell cell : shapes.get(number).stitches) {
                stitches.add(new Stitch(cell, number, shapes.get(number).colour));
            }
        }
        designs.add(new Design(shapes, best, changesOf(shapes, best), stitches));
        return designs.size() - 1;
    }

    /** Lower numbers are tried first, so the first one of the fewest changes is the one that is due. */
    private static void tryAll(List<Shape> shapes, List<Integer> begun, List<Integer> best) {
        if (begun.size() == shapes.size()) {
            if (isKept(shapes, begun) && (best.isEmpty() || changesOf(shapes, begun) < changesOf(shapes, best))) {
                best.clear();
                best.addAll(begun);
            }
            return;
        }
        for (int next = 0; next < shapes.size(); next++) {
            if (!begun.contains(next)) {
                begun.add(next);
                tryAll(shapes, begun, best);
                begun.remove(begun.size() - 1);
            }
        }
    }

    private static boolean isKept(List<Shape> shapes, List<Integer> sequence) {
        for (int later = 0; later < sequence.size(); later++) {
            for (int earlier = 0; earlier < later; earlier++) {
                Set<Cell> common = new HashSet<>(shapes.get(sequence.get(earlier)).cells);
                common.retainAll(shapes.get(sequence.get(later)).cells);
                if (!common.isEmpty() && sequence.get(earlier) > sequence.get(later)) {
                    return false;
                }
            }
        }
        return true;
    }

    private static int changesOf(List<Shape> shapes, List<Integer> sequence) {
        int changes = 0;
        for (int place = 1; place < sequence.size(); place++) {
            Shape shape = shapes.get(sequence.get(place));
            changes += shape.colour != shapes.get(sequence.get(place - 1)).colour ? 1 : 0;
        }
        return changes;
    }

    // ---- machines, thread, orders

    int machine(int heads, int width, int height) {
        argumentUnless(isIn(heads, 1, 6) && isIn(width, 1, 16) && isIn(height, 1, 16));
        stateUnless(machines.size() < 4);
        Machine machine = new Machine();
        machine.heads = heads;
        machine.width = width;
        machine.height = height;
        machines.add(machine);
        return machines.size() - 1;
    }

    int stock(int colour, int shade, int stitches) {
        boundsUnless(isIn(colour, 0, 5) && isIn(shade, 0, 2));
        argumentUnless(isIn(stitches, 1, 100000));
        stateUnless(thread[colour][shade] + stitches <= 1000000);
        thread[colour][shade] += stitches;
        return thread[colour][shade];
    }

    int order(int design, int pieces) {
        of(designs, design);
        argumentUnless(isIn(pieces, 1, 50));
        stateUnless(orders.size() < 20);
        Order order = new Order();
        order.design = design;
        order.pieces = pieces;
        orders.add(order);
        return orders.size() - 1;
    }

    int start(int number, int on) {
        Order order = of(orders, number);
        Machine machine = of(machines, on);
        Design design = designs.get(order.design);
        stateUnless(order.state == 0 && machine.order == -1);
        for (Stitch stitch : design.stitches) {
            stateUnless(machine.width >= stitch.cell.x + 1 && machine.height >= stitch.cell.y + 1);
        }
        int[] shades = {-1, -1, -1, -1, -1, -1};
        for (int colour = 0; colour < 6; colour++) {
            int need = design.count(colour) * order.pieces;
            for (int shade = 2; shade >= 0 && need > 0; shade--) {
                shades[colour] = thread[colour][shade] >= need ? shade : shades[colour];
            }
            stateUnless(need == 0 || shades[colour] != -1);
        }
        order.shades = shades;
        order.state = 1;
        order.machine = on;
        machine.order = number;
        return 0;
    }

    int run(int number, int stitches) {
        Machine machine = of(machines, number);
        argumentUnless(isIn(stitches, 1, 100000));
        stateUnless(machine.order != -1);
        int sewn = 0;
        while (sewn < stitches && machine.order != -1 && sew(machine, orders.get(machine.order))) {
            sewn++;
        }
        return sewn;
    }

    private boolean sew(Machine machine, Order order) {
        List<Stitch> piece = designs.get(order.design).stitches;
        Stitch stitch = piece.get(order.sewn.size() % piece.size());
        int colour = stitch.colour;
        if (thread[colour][order.shades[colour]] == 0) {
            return false;
        }
        thread[colour][order.shades[colour]]--;
        if (!machine.held.contains(colour)) {
            if (machine.held.size() == machine.heads) {
                machine.held.remove((Integer) longestAgo(machine));
            }
            machine.held.add(colour);
            machine.loads++;
        }
        machine.sewn.add(colour);
        order.sewn.add(stitch);
        if (order.sewn.size() == order.pieces * piece.size()) {
            order.state = 2;
            order.machine = -1;
            machine.order = -1;
        }
        return true;
    }

    private static int longestAgo(Machine machine) {
        int oldest = machine.held.get(0);
        for (int colour : machine.held) {
            if (machine.sewn.lastIndexOf(colour) < machine.sewn.lastIndexOf(oldest)) {
                oldest = colour;
            }
        }
        return oldest;
    }

    int snap(int number) {
        Machine machine = of(machines, number);
        stateUnless(machine.order != -1);
        Order order = orders.get(machine.order);
        int length = designs.get(order.design).stitches.size();
        stateUnless(order.sewn.size() % length != 0);
        int shape = order.sewn.get(order.sewn.size() - 1).shape;
        int back = 0;
        while (back < 5 && order.sewn.size() % length != 0
                && order.sewn.get(order.sewn.size() - 1).shape == shape) {
            order.sewn.remove(order.sewn.size() - 1);
            back++;
        }
        order.waste += back;
        return back;
    }

    int match(int number, int colour, int shade) {
        Order order = of(orders, number);
        boundsUnless(isIn(colour, 0, 5) && isIn(shade, 0, 2));
        Design design = designs.get(order.design);
        stateUnless(order.state == 1 && design.count(colour) > 0 && order.shades[colour] != shade);
        stateUnless(thread[colour][shade] >= design.count(colour) * order.pieces);
        order.shades[colour] = shade;
        int length = design.stitches.size();
        int pieces = (order.sewn.size() + length - 1) / length;
        for (Stitch stitch : order.sewn) {
            if (stitch.colour == colour) {
                order.waste += order.sewn.size();
                order.sewn.clear();
                return pieces;
            }
        }
        return 0;
    }

    int cancel(int number) {
        Order order = of(orders, number);
        stateUnless(order.state == 0 || order.state == 1);
        if (order.machine != -1) {
            machines.get(order.machine).order = -1;
        }
        int wasted = order.sewn.size();
        order.machine = -1;
        order.state = 3;
        order.waste += wasted;
        order.sewn.clear();
        return wasted;
    }

    // ---- what is asked

    int stitches(int design, int colour) {
        Design asked = of(designs, design);
        boundsUnless(isIn(colour, -1, 5));
        return colour == -1 ? asked.stitches.size() : asked.count(colour);
    }

    int stitch(int design, int place, int what) {
        Design asked = of(designs, design);
        boundsUnless(place >= 0);
        argumentUnless(isIn(what, 0, 2));
        if (place >= asked.stitches.size()) {
            return -1;
        }
        Stitch stitch = asked.stitches.get(place);
        return what == 0 ? stitch.cell.x : what == 1 ? stitch.cell.y : stitch.shape;
    }

    int sequence(int design, int place) {
        Design asked = of(designs, design);
        boundsUnless(place >= 0);
        return place >= asked.sequence.size() ? -1 : asked.sequence.get(place);
    }

    int changes(int design) {
        return of(designs, design).changes;
    }

    int jumps(int design, boolean isHidden) {
        Design asked = of(designs, design);
        int jumps = 0;
        for (int k = 1; k < asked.stitches.size(); k++) {
            Stitch ahead = asked.stitches.get(k - 1);
            Stitch stitch = asked.stitches.get(k);
            int dx = Math.abs(ahead.cell.x - stitch.cell.x);
            int dy = Math.abs(ahead.cell.y - stitch.cell.y);
            if (ahead.colour != stitch.colour || dx <= 1 && dy <= 1) {
                continue;
            }
            Cell middle = new Cell((ahead.cell.x + stitch.cell.x) / 2, (ahead.cell.y + stitch.cell.y) / 2);
            boolean isUnder = false;
            for (int place = asked.sequence.indexOf(stitch.shape) + 1; place < asked.sequence.size(); place++) {
                isUnder |= asked.shapes.get(asked.sequence.get(place)).cells.contains(middle);
            }
            jumps += isUnder == isHidden ? 1 : 0;
        }
        return jumps;
    }

    int ofOrder(int number, int what) {
        Order order = of(orders, number);
        argumentUnless(isIn(what, 0, 6));
        int length = designs.get(order.design).stitches.size();
        int[] told = {order.state, order.design, order.pieces, order.sewn.size() / length,
                order.sewn.size() % length, order.waste, order.machine};
        return told[what];
    }

    int shadeOf(int number, int colour) {
        Order order = of(orders, number);
        boundsUnless(isIn(colour, 0, 5));
        return order.shades[colour];
    }

    int ofMachine(int number, int what) {
        Machine machine = of(machines, number);
        argumentUnless(isIn(what, 0, 3));
        int bits = 0;
        for (int colour : machine.held) {
            bits |= 1 << colour;
        }
        int[] told = {machine.order, machine.loads, bits, machine.sewn.size()};
        return told[what];
    }

    int left(int colour, int shade) {
        boundsUnless(isIn(colour, 0, 5) && isIn(shade, 0, 2));
        return thread[colour][shade];
    }
}
