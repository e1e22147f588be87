/**
 * Long runs of mixed calls on new houses, each answer compared with Model's. The numbers come from a
 * formula, so every run of this test makes the same calls.
 */
final class AllCallsTest {
    private static final int RUNS = 1500;
    private static final int CALLS = 512;
    private static final int[] EXTREMES = {-1, -2, 16, 17, 51, 100001, Integer.MIN_VALUE, Integer.MAX_VALUE};
    private static final Checks CHECKS = new Checks("AllCallsTest");

    private interface Answer {
        long get();
    }

    private final Threadneedle house = new Threadneedle();
    private final Model model = new Model();
    private final int run;
    private long seed;
    private boolean isAlike = true;

    private AllCallsTest(int run) {
        this.run = run;
        seed = run * 7919L + 17;
    }

    public static void main(String[] args) {
        for (int run = 0; run < RUNS; run++) {
            CHECKS.due("run " + run, new AllCallsTest(run).isAlike() ? 1 : 0, 1);
        }
        CHECKS.end();
    }

    private boolean isAlike() {
        for (int call = 0; call < CALLS && isAlike; call++) {
            if (call < 60 && upTo(3) > 0) {
                setUp();
            } else if (upTo(2) == 0) {
                change();
            } else {
                ask();
            }
        }
        return isAlike;
    }

    // ---- numbers

    private int upTo(int most) {
        seed = seed * 6364136223846793005L + 1442695040888963407L;
        return (int) ((seed >>> 33) % (most + 1));
    }

    /** From 0 to most, but for one number of forty, which may be any one. */
    private int mostly(int most) {
        return upTo(39) > 0 ? upTo(most) : EXTREMES[upTo(EXTREMES.length - 1)];
    }

    /** The number of one that there is, mostly. */
    private int numberOf(java.util.List<?> there) {
        return there.isEmpty() ? mostly(1) : mostly(there.size() - 1);
    }

    /** The number of an order in a state, mostly; any one, if there is none. */
    private int orderThat(int state) {
        int any = numberOf(model.orders);
        for (int k = 0; k < model.orders.size() && upTo(15) > 0; k++) {
            int order = upTo(model.orders.size() - 1);
            if (model.orders.get(order).state == state) {
                return order;
            }
        }
        return any;
    }

    /** The number of a machine with an order, or of a free one, mostly; any one, if there is none. */
    private int machineThat(boolean hasOrder) {
        int any = numberOf(model.machines);
        for (int k = 0; k < 8 && !model.machines.isEmpty() && upTo(15) > 0; k++) {
            int machine = upTo(model.machines.size() - 1);
            if (model.machines.get(machine).order != -1 == hasOrder) {
                return machine;
            }
        }
        return any;
    }

    // ---- calls

    private void compare(String call, Answer got, Answer want) {
        String told = tell(got);
        String due = tell(want);
        if (!told.equals(due)) {
            isAlike = false;
            System.out.println("run " + run + ": " + call + " answered " + told + ", the model " + due);
        }
    }

    private static String tell(Answer answer) {
        try {
            return "" + answer.get();
        } catch (RuntimeException thrown) {
            return "throws " + thrown.getClass().getName();
        }
    }

    private void setUp() {
        switch (upTo(8)) {
            case 0: machine(); break;
            case 1: case 2: stock(); break;
            case 3: order(); break;
            case 4: case 5: design(); break;
            default: shape();
        }
    }

    private void change() {
        switch (upTo(31)) {
            case 0: shape(); break;
            case 1: design(); break;
            case 2: machine(); break;
            case 3: wipe(); break;
            case 4: order(); break;
            case 5: case 6: case 7: case 8: stock(); break;
            case 9: case 10: case 11: case 12: start(); break;
            case 13: case 14: case 15: case 16: snap(); break;
            case 17: case 18: case 19: case 20: match(); break;
            case 21: if (upTo(2) == 0) { cancel(); } break;
            default: run();
        }
    }

    private void ask() {
        switch (upTo(11)) {
            case 0: stitches(); break;
            case 1: stitch(); break;
            case 2: sequence(); break;
            case 3: changes(); break;
            case 4: jumps(); break;
            case 5: shadeOf(); break;
            case 6: case 7: ofMachine(); break;
            case 8: left(); break;
            default: ofOrder();
        }
    }

    private void shape() {
        boolean isSmall = run % 3 > 0;
        int kind = mostly(1);
        int colour = mostly(run % 2 == 0 ? 5 : 2);
        int x = mostly(isSmall ? 5 : 15);
        int y = mostly(isSmall ? 4 : 15);
        int width = 1 + upTo(Math.min(16, Math.max(0, 15 - x)) * (isSmall ? 1 : 2) / 2 % 4) + (upTo(30) == 0 ? 9 : 0);
        int height = isSmall ? mostly(4) : mostly(16);
        compare("shape", () -> house.shape(kind, colour, x, y, width, height),
                () -> model.shape(kind, colour, x, y, width, height));
    }

    private void design() {
        // Runs differ in how many shapes their designs have.
        if (model.draft.size() < run % 8 && upTo(5) > 0) {
            shape();
            return;
        }
        compare("design", house::design, model::design);
    }

    private void wipe() {
        compare("wipe", house::wipe, model::wipe);
    }

    private void machine() {
        int heads = 1 + mostly(run % 5 == 0 ? 5 : 2);
        int width = upTo(1) == 0 ? 16 : mostly(16);
        int height = upTo(1) == 0 ? 16 : mostly(16);
        compare("machine", () -> house.machine(heads, width, height), () -> model.machine(heads, width, height));
    }

    private void stock() {
        int colour = mostly(run % 2 == 0 ? 5 : 2);
        int shade = mostly(2);
        int stitches = upTo(9) == 0 ? mostly(100000) : mostly(run % 4 == 0 ? 300 : 3000);
        compare("stock", () -> house.stock(colour, shade, stitches), () -> model.stock(colour, shade, stitches));
    }

    private void order() {
        int design = numberOf(model.designs);
        int pieces = mostly(upTo(4) == 0 ? 50 : 4);
        compare("order", () -> house.order(design, pieces), () -> model.order(design, pieces));
    }

    private void start() {
        int order = orderThat(Threadneedle.WAITS);
        int machine = machineThat(false);
        compare("start", () -> {
            house.start(order, machine);
            return 0;
        }, () -> model.start(order, machine));
    }

    private void run() {
        int machine = machineThat(true);
        int stitches = upTo(9) == 0 ? mostly(upTo(3) == 0 ? 100000 : 300) : mostly(24);
        compare("run", () -> house.run(machine, stitches), () -> model.run(machine, stitches));
    }

    private void snap() {
        int machine = machineThat(true);
        compare("snap", () -> house.snap(machine), () -> model.snap(machine));
    }

    private void match() {
        int order = orderThat(Threadneedle.SEWN);
        int colour = mostly(run % 2 == 0 ? 5 : 2);
        int shade = mostly(2);
        compare("match", () -> house.match(order, colour, shade), () -> model.match(order, colour, shade));
    }

    private void cancel() {
        int order = upTo(1) == 0 ? numberOf(model.orders) : orderThat(Threadneedle.SEWN);
        compare("cancel", () -> house.cancel(order), () -> model.cancel(order));
    }

    private void stitches() {
        int design = numberOf(model.designs);
        int colour = mostly(6) - 1;
        compare("stitches", () -> house.stitches(design, colour), () -> model.stitches(design, colour));
    }

    private void stitch() {
        int design = numberOf(model.designs);
        int place = mostly(upTo(2) == 0 ? 500 : 60);
        int what = mostly(2);
        compare("stitch", () -> house.stitch(design, place, what), () -> model.stitch(design, place, what));
    }

    private void sequence() {
        int design = numberOf(model.designs);
        int place = mostly(7);
        compare("sequence", () -> house.sequence(design, place), () -> model.sequence(design, place));
    }

    private void changes() {
        int design = numberOf(model.designs);
        if (upTo(1) == 0) {
            compare("changes", () -> house.changes(design), () -> model.changes(design));
        } else {
            compare("changesAnew", () -> house.changesAnew(design), () -> model.changes(design));
        }
    }

    private void jumps() {
        int design = numberOf(model.designs);
        boolean isHidden = upTo(1) == 0;
        compare("jumps", () -> house.jumps(design, isHidden), () -> model.jumps(design, isHidden));
    }

    private void ofOrder() {
        int order = numberOf(model.orders);
        int what = mostly(6);
        compare("ofOrder " + what, () -> house.ofOrder(order, what), () -> model.ofOrder(order, what));
    }

    private void shadeOf() {
        int order = numberOf(model.orders);
        int colour = mostly(5);
        compare("shadeOf", () -> house.shadeOf(order, colour), () -> model.shadeOf(order, colour));
    }

    private void ofMachine() {
        int machine = numberOf(model.machines);
        int what = mostly(3);
        compare("ofMachine " + what, () -> house.ofMachine(machine, what), () -> model.ofMachine(machine, what));
    }

    private void left() {
        int colour = mostly(5);
        int shade = mostly(2);
        compare("left", () -> house.left(colour, shade), () -> model.left(colour, shade));
    }
}
