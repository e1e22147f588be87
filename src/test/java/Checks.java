import java.util.ArrayList;
import java.util.List;

/** Counts answers that are due and those that are not; what the tests share. */
final class Checks {
    interface Call {
        long on(Threadneedle house);
    }

    interface Maker {
        Threadneedle make();
    }

    private final String test;
    private int passed = 0;
    private int failed = 0;

    Checks(String test) {
        this.test = test;
    }

    void due(String call, Object got, Object want) {
        if (want.equals(got)) {
            passed++;
        } else {
            failed++;
            System.out.println(test + ": " + call + " answered " + got + ", due is " + want);
        }
    }

    void due(String call, long got, long want) {
        due(call, (Object) got, (Object) want);
    }

    /** Of two houses that are made alike one refuses a call; then all that can be asked of both is alike. */
    void refused(String call, Maker maker, Class<?> exception, Call refused) {
        Threadneedle untouched = maker.make();
        Threadneedle asked = maker.make();
        due(call, answer(asked, refused), "throws " + exception.getName());
        due("what is asked after " + call, tell(asked), tell(untouched));
    }

    void outOfBounds(String call, Maker maker, Call refused) {
        refused(call, maker, IndexOutOfBoundsException.class, refused);
    }

    void illegalArgument(String call, Maker maker, Call refused) {
        refused(call, maker, IllegalArgumentException.class, refused);
    }

    void illegalState(String call, Maker maker, Call refused) {
        refused(call, maker, IllegalStateException.class, refused);
    }

    /** The exception's own class is told, as those that the Java machine throws are below the due ones. */
    static String answer(Threadneedle house, Call call) {
        try {
            return "" + call.on(house);
        } catch (RuntimeException thrown) {
            return "throws " + thrown.getClass().getName();
        }
    }

    /** All that can be asked of a house; at last its draft is made a design, so it is of no use then. */
    static String tell(Threadneedle house) {
        List<String> told = new ArrayList<>();
        for (int design = 0; isAnswer(house, design, Threadneedle::changes); design++) {
            told.add("design " + design + ": " + house.stitches(design, Threadneedle.NONE) + " "
                    + house.changes(design) + " " + house.jumps(design, true) + " " + house.jumps(design, false));
        }
        for (int machine = 0; isAnswer(house, machine, (h, m) -> h.ofMachine(m, 0)); machine++) {
            told.add("machine " + machine);
            for (int what = 0; what <= 3; what++) {
                told.add("" + house.ofMachine(machine, what));
            }
        }
        for (int order = 0; isAnswer(house, order, (h, o) -> h.ofOrder(o, 0)); order++) {
            told.add("order " + order);
            for (int what = 0; what <= 6; what++) {
                told.add("" + house.ofOrder(order, what));
            }
            for (int colour = 0; colour <= 5; colour++) {
                told.add("" + house.shadeOf(order, colour));
            }
        }
        for (int spool = 0; spool < 18; spool++) {
            told.add("left " + house.left(spool / 3, spool % 3));
        }
        tellDraft(house, told);
        return told.toString();
    }

    private static void tellDraft(Threadneedle house, List<String> told) {
        String design = answer(house, Threadneedle::design);
        told.add("draft: " + design);
        if (design.startsWith("throws")) {
            told.add("" + house.wipe());
            return;
        }
        int number = Integer.parseInt(design);
        for (int place = 0; place < 8; place++) {
            told.add("" + house.sequence(number, place));
        }
        for (int stitch = 0; stitch < 8; stitch++) {
            told.add(house.stitch(number, stitch, 0) + "," + house.stitch(number, stitch, 1));
        }
    }

    private interface Asked {
        long of(Threadneedle house, int number);
    }

    private static boolean isAnswer(Threadneedle house, int number, Asked asked) {
        return !answer(house, h -> asked.of(h, number)).startsWith("throws");
    }

    /** The cells of the stitches of a design, from one place on, as "x,y" each. */
    static String cells(Threadneedle house, int design, int from, int count) {
        StringBuilder cells = new StringBuilder();
        for (int place = from; place < from + count; place++) {
            cells.append(cells.length() == 0 ? "" : " ").append(house.stitch(design, place, 0));
            cells.append(',').append(house.stitch(design, place, 1));
        }
        return cells.toString();
    }

    /** The sequence of a design as its shapes' numbers in a row. */
    static String sequence(Threadneedle house, int design) {
        StringBuilder numbers = new StringBuilder();
        for (int place = 0; house.sequence(design, place) != Threadneedle.NONE; place++) {
            numbers.append(house.sequence(design, place));
        }
        return numbers.toString();
    }

    /** Ends the test's program; exit code 1, if an answer was not due. */
    void end() {
        System.out.println(test + ": " + passed + " passed, " + failed + " failed");
        if (failed > 0 || passed == 0) {
            System.exit(1);
        }
    }
}
