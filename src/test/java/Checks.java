import java.util.ArrayList;
import java.util.List;

/** Counts answers that are due and those that are not; what the tests share. */
class Checks {
    interface Call {
        long on(Threadneedle house);
    }

    interface Maker {
        Threadneedle make();
    }

    private final String test;
    private String about = "";
    private int passed = 0;
    private int failed = 0;

    Checks(String test) {
        this.test = test;
    }

    /** What the answers that follow are about is told with each one that is not due. */
    void about(String about) {
        this.about = about + ": ";
    }

    int count() {
        return passed + failed;
    }

    void due(String call, Object got, Object want) {
        if (want.equals(got)) {
            passed++;
        } else {
            failed++;
            System.out.println(test + ": " + about + call + " answered " + got + ", due is " + want);
        }
    }

    void due(String call, long got, long want) {
        due(call, (Object) got, (Object) want);
    }

    /** All that can be asked of an order, from its state on. */
    void orderDue(String when, Threadneedle house, int order, String want) {
        due("ofOrder " + order + " " + when, inARow(6, what -> house.ofOrder(order, what)), want);
    }

    /** All that can be asked of a machine, from its order on. */
    void machineDue(String when, Threadneedle house, int machine, String want) {
        due("ofMachine " + machine + " " + when, inARow(3, what -> house.ofMachine(machine, what)), want);
    }

    private interface Asked {
        long of(int number);
    }

    private static String inARow(int most, Asked asked) {
        StringBuilder answers = new StringBuilder();
        for (int what = 0; what <= most; what++) {
            answers.append(what == 0 ? "" : " ").append(asked.of(what));
        }
        return answers.toString();
    }

    /**
     * Of two houses that are made alike one refuses a call; then all that can be asked of both is alike, and what
     * comes of both.
     */
    void refused(String call, Maker maker, Class<?> exception, Call refused) {
        Threadneedle untouched = maker.make();
        Threadneedle asked = maker.make();
        due(call, answer(asked, refused), "throws " + exception.getName());
        due("what is asked after " + call, tell(asked), tell(untouched));
        due("what comes after " + call, goOn(asked), goOn(untouched));
    }

    void outOfBounds(String call, Maker maker, Call refused) {
        refused(call, maker, IndexOutOfBoundsException.class, refused);
    }

    void illegalArgument(String call, Maker maker, Call refused) {
        refused(call, maker, IllegalArgumentException.class, refused);
    }

    void illegalState(String call, Maker maker, Call refused) {
        refused(call, maker, IllegalStateException.class, refused);
    }

    /** The exception's own class is told, as those that the Java machine throws are below the due ones. */
    static String answer(Threadneedle house, Call call) {
        try {
            return "" + call.on(house);
        } catch (RuntimeException thrown) {
            return "throws " + thrown.getClass().getName();
        }
    }

    /** All that can be asked of a house; at last its draft is made a design, so it is of no use then. */
    static String tell(Threadneedle house) {
        List<String> told = new ArrayList<>();
        for (int number = 0; isAnswer(house, number, Threadneedle::changes); number++) {
            told.add("design " + number + ": " + house.stitches(number, Threadneedle.NONE) + " "
                    + house.changes(number) + " " + house.jumps(number, true) + " " + house.jumps(number, false));
        }
        for (int number = 0; isAnswer(house, number, (h, m) -> h.ofMachine(m, 0)); number++) {
            int machine = number;
            told.add("machine " + machine + ": " + inARow(3, what -> house.ofMachine(machine, what)));
        }
        for (int number = 0; isAnswer(house, number, (h, o) -> h.ofOrder(o, 0)); number++) {
            int order = number;
            told.add("order " + order + ": " + inARow(6, what -> house.ofOrder(order, what)) + ", shades "
                    + inARow(5, colour -> house.shadeOf(order, colour)));
        }
        for (int spool = 0; spool < 18; spool++) {
            told.add("left " + house.left(spool / 3, spool % 3));
        }
        tellDraft(house, told);
        return told.toString();
    }

    /** If there are 6 designs, design is not called: it could be what is to be told of. */
    private static void tellDraft(Threadneedle house, List<String> told) {
        String design = isAnswer(house, 5, Threadneedle::changes) ? "throws" : answer(house, Threadneedle::design);
        told.add("draft: " + design);
        if (design.startsWith("throws")) {
            told.add("" + house.wipe());
            return;
        }
        int number = Integer.parseInt(design);
        for (int place = 0; place < 8; place++) {
            told.add("" + house.sequence(number, place));
        }
        for (int stitch = 0; stitch < 8; stitch++) {
            told.add(house.stitch(number, stitch, 0) + "," + house.stitch(number, stitch, 1));
        }
    }

    private interface AskedOf {
        long of(Threadneedle house, int number);
    }

    private static boolean isAnswer(Threadneedle house, int number, AskedOf asked) {
        return !answer(house, h -> asked.of(h, number)).startsWith("throws");
    }

    /**
     * What comes of a house when all that it has goes on: that tells what can't be asked, as which stitches its
     * heads sewed latest.
     */
    private static String goOn(Threadneedle house) {
        List<String> told = new ArrayList<>();
        for (int colour = 0; colour < 6; colour++) {
            int bought = colour;
            told.add(answer(house, h -> h.stock(bought, 0, 500)));
        }
        for (int number = 0; number < 4; number++) {
            int machine = number;
            told.add(answer(house, h -> h.run(machine, 1)));
            told.add(answer(house, h -> h.ofMachine(machine, 2)));
            told.add(answer(house, h -> h.snap(machine)));
            told.add(answer(house, h -> h.run(machine, 1000)));
        }
        for (int number = 0; number < 4; number++) {
            int order = number;
            told.add(answer(house, Houses.start(order, 0)));
            told.add(answer(house, h -> h.run(0, 1)));
            told.add(answer(house, h -> h.ofMachine(0, 2)));
            told.add(answer(house, h -> h.run(0, 1000)));
            told.add(answer(house, h -> h.ofMachine(0, 1)));
        }
        return told.toString();
    }

    /** The cells of the stitches of a design, from one place on, as "x,y" each. */
    static String cells(Threadneedle house, int design, int from, int count) {
        StringBuilder cells = new StringBuilder();
        for (int place = from; place < from + count; place++) {
            cells.append(cells.length() == 0 ? "" : " ").append(house.stitch(design, place, 0));
            cells.append(',').append(house.stitch(design, place, 1));
        }
        return cells.toString();
    }

    /** The sequence of a design as its shapes' numbers in a row; it ends behind the most, if NONE does not come. */
    static String sequence(Threadneedle house, int design) {
        StringBuilder numbers = new StringBuilder();
        for (int place = 0; place <= 7 && house.sequence(design, place) != Threadneedle.NONE; place++) {
            numbers.append(house.sequence(design, place));
        }
        return numbers.toString();
    }

    /** Ends the test's program; exit code 1, if an answer was not due. */
    void end() {
        System.out.println(test + ": " + passed + " passed, " + failed + " failed");
        if (failed > 0 || passed == 0) {
            System.exit(1);
        }
    }
}
