import java.util.NoSuchElementException;

/** Each sentence of the document's "Terms" that names a boundary, with answers worked out by hand. */
public final class TermsTest {
    private static final Class<UnsupportedOperationException> UNSUPPORTED = UnsupportedOperationException.class;
    private static final Class<NoSuchElementException> ELEMENT = NoSuchElementException.class;
    private static final Class<IllegalStateException> STATE = IllegalStateException.class;
    private static final int HOPPER = Sorters.HOPPER;
    private static final int WASTE = Sorters.WASTE;

    public static void main(String[] args) {
        lastCalls();
        errorCodes();
        shares();
        sharesOfBunkers();
        excess();
        catchAndMistake();
        throughput();
        roundedDown();
        loop();
        whenBalesAreMade();
        mostBales();
        fullRow();
        purity();
        looks();
        overflow();
        lowerMaterialsFirst();
        sampledPurity();
        grades();
        looping();
        firstSettings();
        whatSuits();
        whichContract();
        reasons();
        reports();
        order();
        settled();
        texts();
        details();
        Check.end();
    }

    private static void dueRow(String what, int[] want, Row row) {
        for (int column = 0; column < want.length; column++) {
            int each = column;
            Check.due(what + " " + column, want[column], () -> row.at(each));
        }
    }

    private interface Row {
        int at(int column);
    }

    private static void lastCalls() {
        Document.about("What it is", "An object is used for at most 512 calls after it has been made");
        RecyclingSorter x = new RecyclingSorter();
        RecyclingSorter y = new RecyclingSorter();
        RecyclingSorter z = Sorters.perfect();
        for (int call = 1; call < 512; call++) {
            x.feed(call % 5, 1);
            y.seed(call);
            Check.answerOf(() -> z.sell(0));
        }
        Check.due("the last one feeds", 104, () -> x.feed(1, 1));
        Check.due("the last one seeds", 511, () -> y.seed(0));
        Check.due("the last one adds", 1, () -> z.addMachine(4, 10, 0, 1, 0));
    }

    private static void errorCodes() {
        Document.about("Terms", "returns an error code leaves the state unchanged");
        for (String text : new String[] {"", "f0=1;", "f0=1;r1;x", "s0;s1;s", "c0@0*1$1 ", "r1;f0=99999", ";"}) {
            Check.same("'" + text + "'", Trace.of(TermsTest::busyWithEmptyBuffer), Trace.of(() -> {
                RecyclingSorter x = busyWithEmptyBuffer();
                Sorters.perform(x, text);
                return x;
            }));
        }
    }

    private static RecyclingSorter busyWithEmptyBuffer() {
        RecyclingSorter x = Sorters.busy();
        x.perform();
        return x;
    }

    /** What is left of a hopper after as many kilos were taken out of it. */
    private static void left(String what, int throughput, int[] fed, int[] want) {
        RecyclingSorter x = Sorters.perfect();
        x.set(0, throughput);
        x.set(1, 0);
        for (int material = 0; material < fed.length; material++) {
            for (int missing = fed[material]; missing > 0; missing -= Math.min(999, missing)) {
                x.feed(material, Math.min(999, missing));
            }
        }
        x.run(1);
        dueRow(what, want, material -> x.kilos(HOPPER, material));
    }

    private static void shares() {
        Document.about("Terms", "There are 5 materials, numbered from 0. All masses are whole kilos.");
        left("one of each", 5, new int[] {1, 1, 1, 1, 1}, new int[] {0, 0, 0, 0, 0});
        Document.about("Terms", "its kilos there times the kilos that are taken, divided by all kilos there and rounded"
                + " down");
        left("no remainders", 10, new int[] {20, 8, 0, 12, 0}, new int[] {15, 6, 0, 9, 0});
        left("without a remainder", 4, new int[] {4, 8, 0, 0, 4}, new int[] {3, 6, 0, 0, 3});
        // 500 of 9999: of 9990 kilos 499, remainder 5499, and of 9 kilos 0, remainder 4500.
        left("the greatest products", 500, new int[] {9990, 9}, new int[] {9490, 9});
        Document.about("Terms", "of the same remainder those with lower numbers");
        left("one of two", 1, new int[] {3, 3}, new int[] {2, 3});
        left("one of two behind an empty one", 1, new int[] {0, 3, 0, 3}, new int[] {0, 2, 0, 3});
        left("four of five", 4, new int[] {1, 1, 1, 1, 1}, new int[] {0, 0, 0, 0, 1});
        left("one of five", 1, new int[] {1, 1, 1, 1, 1}, new int[] {0, 1, 1, 1, 1});
        Document.about("Terms", "one of each of those materials at which this division leaves the greatest remainders");
        left("the greater one", 1, new int[] {2, 3}, new int[] {2, 2});
        // 4 of 10: shares of 0.4, 0.4, 0.8, 1.2 and 1.2.
        left("two missing", 4, new int[] {1, 1, 2, 3, 3}, new int[] {0, 1, 1, 2, 2});
        // 3 of 7: shares of 3 / 7, 6 / 7 and 12 / 7.
        left("not one with a great share", 3, new int[] {1, 2, 4}, new int[] {1, 1, 2});
        Document.about("Terms", "To take some kilos in proportion out of a place that has at least as many");
        left("just as many", 7, new int[] {3, 0, 4}, new int[] {0, 0, 0});
        left("one less than all", 6, new int[] {3, 0, 4}, new int[] {0, 0, 1});
        left("one kilo", 1, new int[] {0, 0, 0, 0, 1}, new int[] {0, 0, 0, 0, 0});
    }

    private static void sharesOfBunkers() {
        Document.about("Terms", "a bale is made, for which as many kilos are taken out of the bunker in proportion");
        RecyclingSorter x = new RecyclingSorter();
        x.addMachine(1, 100, 90, 500, 0);
        x.set(2, 15);
        // Of 12 others 10 are caught, so the shares of the bale are 7.5 each.
        x.feed(0, 12);
        x.feed(1, 10);
        x.run(1);
        dueRow("the bale", new int[] {8, 7, 0, 0, 0, 1, 15}, what -> x.bale(0, what));
        dueRow("the bunker", new int[] {2, 3, 0, 0, 0}, material -> x.kilos(0, material));
    }

    private static int catchOf(int base, int loss, int capacity, int flow) {
        RecyclingSorter x = new RecyclingSorter();
        x.addMachine(0, base, 0, capacity, loss);
        return x.rate(0, flow, false);
    }

    private static int mistakeOf(int error, int capacity, int flow) {
        RecyclingSorter x = new RecyclingSorter();
        x.addMachine(0, 10, error, capacity, 0);
        return x.rate(0, flow, true);
    }

    private static void excess() {
        Document.about("Terms", "what it exceeds the capacity by, divided by 10 and rounded down, is its excess");
        for (int capacity : new int[] {1, 100, 500}) {
            Check.due("by 9", 0, () -> mistakeOf(0, capacity, capacity + 9));
            Check.due("by 10", 1, () -> mistakeOf(0, capacity, capacity + 10));
            Check.due("by 19", 1, () -> mistakeOf(0, capacity, capacity + 19));
            Check.due("by 20", 2, () -> mistakeOf(0, capacity, capacity + 20));
        }
        Document.about("Terms", "0 if the flow is not greater than the capacity");
        for (int capacity : new int[] {1, 100, 500}) {
            Check.due("as great", 7, () -> mistakeOf(7, capacity, capacity));
            Check.due("less by 1", 7, () -> mistakeOf(7, capacity, capacity - 1));
            Check.due("no flow", 7, () -> mistakeOf(7, capacity, 0));
            Check.due("catch as great", 80, () -> catchOf(80, 9, capacity, capacity));
            Check.due("catch of no flow", 80, () -> catchOf(80, 9, capacity, 0));
        }
    }

    private static void catchAndMistake() {
        Document.about("Terms", "Its catch is the base minus the loss times the excess, but at least 10");
        Check.due("above", 19, () -> catchOf(100, 9, 100, 190));
        Check.due("just 10", 10, () -> catchOf(100, 9, 100, 200));
        Check.due("it would be 1", 10, () -> catchOf(100, 9, 100, 210));
        Check.due("just above", 11, () -> catchOf(20, 9, 100, 110));
        Check.due("just below", 10, () -> catchOf(18, 9, 100, 110));
        Check.due("far below", 10, () -> catchOf(10, 9, 1, 9999));
        Check.due("without a loss", 100, () -> catchOf(100, 0, 1, 9999));
        Check.due("the least base", 10, () -> catchOf(10, 0, 500, 0));
        Document.about("Terms", "its mistake is the error plus the excess, but at most 90");
        Check.due("89", 89, () -> mistakeOf(0, 100, 990));
        Check.due("just 90", 90, () -> mistakeOf(0, 100, 1000));
        Check.due("it would be 91", 90, () -> mistakeOf(0, 100, 1010));
        Check.due("the greatest error", 90, () -> mistakeOf(90, 100, 100));
        Check.due("the greatest error and an excess", 90, () -> mistakeOf(90, 100, 110));
        Check.due("far above", 90, () -> mistakeOf(90, 1, 9999));
    }

    /** The kilos that one pass leaves in the hopper, if none go back. */
    private static int leftOf(int kilos, int throughput) {
        RecyclingSorter x = Sorters.perfect();
        x.set(0, throughput);
        x.set(1, 0);
        x.feed(3, kilos);
        x.run(1);
        return x.kilos(HOPPER, -1);
    }

    private static void throughput() {
        Document.about("Terms", "as many kilos as the throughput says, or all if there are fewer, are taken");
        Check.due("just as many", 0, () -> leftOf(100, 100));
        Check.due("one more", 1, () -> leftOf(101, 100));
        Check.due("one fewer", 0, () -> leftOf(99, 100));
        Check.due("the least throughput", 1, () -> leftOf(2, 1));
        Check.due("the least of both", 0, () -> leftOf(1, 1));
        Check.due("the greatest throughput", 499, () -> leftOf(999, 500));
        Check.due("one kilo by the greatest", 0, () -> leftOf(1, 500));
    }

    /** What a machine with this catch and this mistake has in its bunker of kilos of one material. */
    private static int caught(int base, int error, int material, int kilos) {
        RecyclingSorter x = new RecyclingSorter();
        x.addMachine(0, base, error, 500, 0);
        x.set(0, 500);
        x.set(2, 200);
        x.feed(material, kilos);
        x.run(1);
        return x.kilos(0, material);
    }

    private static void roundedDown() {
        Document.about("Terms", "of its target, these kilos times its catch, divided by 100 and rounded down, go into"
                + " its bunker");
        Check.due("less than one", 0, () -> caught(10, 90, 0, 9));
        Check.due("just one", 1, () -> caught(10, 90, 0, 10));
        Check.due("less than two", 1, () -> caught(10, 90, 0, 19));
        Check.due("99 of 100", 98, () -> caught(99, 90, 0, 99));
        Check.due("all", 150, () -> caught(100, 0, 0, 150));
        Document.about("Terms", "of each other material these kilos times its mistake, divided by 100 and rounded"
                + " down");
        Check.due("none by no mistake", 0, () -> caught(100, 0, 1, 150));
        Check.due("less than one", 0, () -> caught(100, 90, 4, 1));
        Check.due("just below one", 0, () -> caught(100, 1, 4, 99));
        Check.due("just one", 1, () -> caught(100, 1, 4, 100));
        Check.due("by 90", 89, () -> caught(100, 90, 2, 99));
        Document.about("Terms", "the rest comes to the next machine");
        RecyclingSorter x = new RecyclingSorter();
        x.addMachine(0, 100, 0, 500, 0);
        x.addMachine(1, 100, 0, 10, 9);
        x.feed(0, 80);
        x.feed(1, 20);
        x.run(1);
        // The flow of the second one is 20 only, so its excess is 1 and its catch 91.
        Check.due("the flow of the second one", 18, () -> x.kilos(1, 1));
    }

    private static void loop() {
        Document.about("Terms", "of each material these kilos times the loop, divided by 100 and rounded down, go back"
                + " into the hopper, and the rest is waste");
        int[][] loopKilosBack = {{0, 100, 0}, {50, 1, 0}, {50, 2, 1}, {50, 99, 49}, {99, 1, 0}, {99, 100, 99},
            {1, 99, 0}, {1, 100, 1}};
        for (int[] row : loopKilosBack) {
            RecyclingSorter x = Sorters.perfect();
            x.set(1, row[0]);
            x.feed(4, row[1]);
            x.run(1);
            Check.due(row[1] + " by " + row[0] + " back", row[2], () -> x.kilos(HOPPER, 4));
            Check.due(row[1] + " by " + row[0] + " waste", row[1] - row[2], () -> x.kilos(WASTE, 4));
        }
        RecyclingSorter x = Sorters.perfect();
        for (int material = 1; material < 5; material++) {
            x.feed(material, 1);
        }
        x.run(1);
        Check.due("each is rounded by itself", 4, () -> x.kilos(WASTE, -1));
    }

    private static void whenBalesAreMade() {
        Document.about("Terms", "as long as its bunker has at least as many kilos as the bale size says");
        int[][] sizeKilosBales = {{50, 49, 0}, {50, 50, 1}, {50, 51, 1}, {50, 99, 1}, {50, 100, 2}, {10, 9, 0},
            {10, 10, 1}, {200, 199, 0}, {200, 200, 1}, {200, 399, 1}, {200, 400, 2}};
        for (int[] row : sizeKilosBales) {
            RecyclingSorter x = Sorters.perfect();
            x.set(0, 500);
            x.set(2, row[0]);
            x.feed(0, row[1]);
            x.run(1);
            Check.due(row[1] + " by " + row[0], (long) row[2], () -> x.account(10));
            Check.due("the rest of " + row[1] + " by " + row[0], row[1] - row[0] * row[2], () -> x.kilos(0, -1));
        }
        Document.about("Terms", "Bales are numbered from 0 in the order in which they were made.");
        RecyclingSorter x = Sorters.perfect();
        x.addMachine(1, 100, 0, 500, 0);
        x.exchange(0, 1);
        x.feed(0, 50);
        x.feed(1, 50);
        x.run(1);
        Check.due("of the first machine", 1, () -> x.bale(0, 5));
        Check.due("of the second one", 0, () -> x.bale(1, 5));
    }

    private static void mostBales() {
        Document.about("Terms", "fewer than 60 bales have been made, a bale is made");
        RecyclingSorter x = Sorters.perfect();
        x.addMachine(1, 100, 0, 500, 0);
        x.set(0, 500);
        x.set(2, 10);
        x.feed(0, 500);
        x.run(1);
        x.feed(0, 90);
        x.run(1);
        Check.due("59", 59L, () -> x.account(10));
        x.feed(0, 20);
        x.feed(1, 20);
        Check.due("a pass more", 1, () -> x.run(1));
        Check.due("just 60", 60L, () -> x.account(10));
        Check.due("the first bunker keeps a bale", 10, () -> x.kilos(0, -1));
        Check.due("the second one two", 20, () -> x.kilos(1, -1));
        Check.due("bales of the first machine", 60, () -> x.machine(0, 6));
        Check.due("none of the second one", 0, () -> x.machine(1, 6));
        x.contract(0, 0, 9999, 1);
        x.sellAll();
        x.feed(1, 30);
        x.run(1);
        Check.due("sold ones count too", 60L, () -> x.account(10));
        Check.due("the bunker grows", 50, () -> x.kilos(1, -1));
        RecyclingSorter y = withMistakes(500, 10);
        y.set(0, 500);
        Check.due("two passes", 2, () -> y.run(2));
        Check.due("looped ones count too", 60L, () -> y.account(10));
        Check.due("all of them are looped", 0L, () -> y.account(7));
        Check.due("what is left of 90 bales", 300, () -> y.kilos(0, 1));
        Check.due("the rest is in the hopper", 200, () -> y.kilos(HOPPER, 1));
    }

    private static void fullRow() {
        Document.about("Terms", "There are at most 6 machines, numbered from 0 in a row.");
        RecyclingSorter x = new RecyclingSorter();
        x.addMachine(0, 50, 0, 500, 0);
        for (int machine = 1; machine < 6; machine++) {
            x.addMachine(machine % 5, 100, 0, 500, 0);
        }
        for (int material = 0; material < 5; material++) {
            x.feed(material, 100);
        }
        x.set(0, 500);
        x.run(1);
        dueRow("bales from the first to the last machine", new int[] {0, 1, 1, 2, 2, 3, 3, 4, 4, 0},
                bale -> x.bale(bale, 5));
        dueRow("as many by machine", new int[] {1, 2, 2, 2, 2, 1}, machine -> x.machine(machine, 6));
        x.set(0, 1);
        x.feed(0, 200);
        x.run(1);
        Check.due("one kilo in the last bunker", 1, () -> x.kilos(5, 0));
        Check.due("and in no other one", 1L, () -> x.account(6));
        Check.due("the hopper keeps the others", 199L, () -> x.account(5));
        Check.due("and makes no bales", 10L, () -> x.account(10));
    }

    /** Of a hopper with others alone 90 of 100 are caught by mistake, and each bale of them is looped. */
    private static RecyclingSorter withMistakes(int kilos, int size) {
        RecyclingSorter x = new RecyclingSorter();
        x.addMachine(2, 10, 90, 500, 0);
        x.set(1, 100);
        x.set(2, size);
        x.set(4, 1);
        x.feed(1, kilos);
        return x;
    }

    private static void purity() {
        Document.about("Terms", "as its purity the kilos of its material, times 1000, divided by all its kilos and"
                + " rounded down");
        int[][] ownSizePurity = {{20, 30, 666}, {199, 200, 995}, {200, 200, 1000}, {10, 10, 1000}, {0, 50, 0},
            {1, 50, 20}, {1, 30, 33}};
        for (int[] row : ownSizePurity) {
            RecyclingSorter x = Sorters.perfect();
            x.set(0, 500);
            Sorters.rawBale(x, row[0], row[1]);
            Check.due("of " + row[0] + " in " + row[1], row[2], () -> x.bale(0, 7));
        }
    }

    /** The sampled purity by one look, at a bale with as many own kilos, which come first. */
    private static int look(int z, int own, int size) {
        RecyclingSorter x = Sorters.perfect();
        x.set(0, 500);
        x.set(3, 1);
        x.seed(z);
        Sorters.rawBale(x, own, size);
        return x.bale(0, 8);
    }

    private static void looks() {
        Document.about("Terms", "At first z is 1.");
        RecyclingSorter x = Sorters.perfect();
        Check.due("at first", 1L, () -> x.account(15));
        Document.about("Terms", "as many times as the sample says, a number z becomes z times 1103515245 plus 12345");
        x.set(3, 1);
        x.feed(0, 50);
        x.run(1);
        Check.due("one look", 1103527590L, () -> x.account(15));
        int z = 1;
        for (int looks = 1; looks <= 50; looks++) {
            z = z * 1103515245 + 12345;
            if (looks == 10 || looks == 50) {
                RecyclingSorter y = Sorters.perfect();
                y.set(3, looks);
                y.feed(0, 50);
                y.run(1);
                long want = z;
                Check.due(looks + " looks", want, () -> y.account(15));
            }
        }
        Document.about("Terms", "the kilo with the number (z >>> 16) % n is looked at, where n is the number of all its"
                + " kilos, which are numbered from 0");
        // The upper half is 16838.
        Check.due("of 50 the kilo 38 is own", 1000, () -> look(1, 39, 50));
        Check.due("of 50 the kilo 38 is not", 0, () -> look(1, 38, 50));
        Check.due("of 10 the kilo 8 is own", 1000, () -> look(1, 9, 10));
        Check.due("of 10 the kilo 8 is not", 0, () -> look(1, 8, 10));
        Check.due("of 200 the kilo 38 is own", 1000, () -> look(1, 39, 200));
        Check.due("of 200 the kilo 38 is not", 0, () -> look(1, 38, 200));
        Check.due("of 199 the kilo 122 is own", 1000, () -> look(1, 123, 199));
        Check.due("of 199 the kilo 122 is not", 0, () -> look(1, 122, 199));
    }

    private static void overflow() {
        Document.about("Terms", "as an int that can overflow");
        // The products by hand, modulo 2 to the 32nd, with the kilo that the upper half tells.
        int[] seeds = {Integer.MAX_VALUE, Integer.MIN_VALUE, -1, 0, 2};
        long[] then = {1043980748L, -2147471303L, -1103502900L, 12345L, -2087924461L};
        int[] kilos = {29, 18, 47, 0, 26};
        for (int each = 0; each < seeds.length; each++) {
            int z = seeds[each];
            int kilo = kilos[each];
            RecyclingSorter x = Sorters.perfect();
            x.set(3, 1);
            x.feed(0, 50);
            x.seed(z);
            x.run(1);
            Check.due("z after " + z, then[each], () -> x.account(15));
            Check.due("own by " + z, 1000, () -> look(z, kilo + 1, 50));
            if (kilo > 0) {
                Check.due("not own by " + z, 0, () -> look(z, kilo, 50));
            }
        }
    }

    private static void lowerMaterialsFirst() {
        Document.about("Terms", "those of lower materials first");
        // The look is at the kilo 38 of 50; the own material 1 lies behind the material 0 and ahead of 2.
        int[][] lowOwnHighHit = {{0, 39, 11, 1000}, {0, 38, 12, 0}, {38, 1, 11, 1000}, {39, 1, 10, 0}, {39, 11, 0, 0},
            {38, 12, 0, 1000}};
        for (int[] row : lowOwnHighHit) {
            RecyclingSorter x = new RecyclingSorter();
            x.addMachine(1, 100, 90, 500, 0);
            x.set(3, 1);
            if (row[0] > 0) {
                Sorters.feedCaught(x, 0, row[0]);
            }
            x.feed(1, row[1]);
            Sorters.feedCaught(x, 2, row[2]);
            x.run(1);
            dueRow("the bale", new int[] {row[0], row[1], row[2]}, what -> x.bale(0, what));
            Check.due("the look at " + row[0] + " and " + row[1], row[3], () -> x.bale(0, 8));
        }
    }

    private static RecyclingSorter sampled(int hits, int sample, int looping) {
        RecyclingSorter x = Sorters.perfect();
        x.set(4, looping);
        Sorters.sampledBale(x, hits, sample);
        return x;
    }

    private static void sampledPurity() {
        Document.about("Terms", "the number of looks at which the kilo was of its material, times 1000, divided by the"
                + " sample and rounded down");
        int[][] hitsSamplePurity = {{0, 1, 0}, {1, 1, 1000}, {1, 3, 333}, {2, 3, 666}, {3, 3, 1000}, {6, 7, 857},
            {49, 50, 980}, {50, 50, 1000}, {0, 50, 0}, {1, 50, 20}};
        for (int[] row : hitsSamplePurity) {
            Check.due(row[0] + " of " + row[1], row[2], () -> sampled(row[0], row[1], 0).bale(0, 8));
        }
    }

    private static void grades() {
        Document.about("Terms", "grade is 0 if that is at least 950, 1 if it is at least 850, 2 if it is at least 700,"
                + " and otherwise 3");
        // No sample comes nearer to the bounds from below than these.
        int[][] hitsSampleGrade = {{20, 20, 0}, {19, 20, 0}, {37, 39, 1}, {17, 20, 1}, {28, 33, 2}, {7, 10, 2},
            {30, 43, 3}, {0, 1, 3}};
        int[] purities = {1000, 950, 948, 850, 848, 700, 697, 0};
        for (int each = 0; each < purities.length; each++) {
            RecyclingSorter x = sampled(hitsSampleGrade[each][0], hitsSampleGrade[each][1], 0);
            int purity = purities[each];
            Check.due("sampled", purity, () -> x.bale(0, 8));
            Check.due("grade of " + purity, hitsSampleGrade[each][2], () -> x.bale(0, 9));
        }
    }

    private static void looping() {
        Document.about("Terms", "If looping is on, a bale of grade 3 is looped at once");
        int[][] hitsSampleState = {{1, 1, 0}, {7, 10, 0}, {30, 43, 2}, {0, 1, 2}};
        for (int[] row : hitsSampleState) {
            Check.due(row[0] + " of " + row[1], row[2], () -> sampled(row[0], row[1], 1).bale(0, 10));
            Check.due(row[0] + " of " + row[1] + ", off", 0, () -> sampled(row[0], row[1], 0).bale(0, 10));
        }
        Document.about("Terms", "which means that all its kilos go back into the hopper");
        RecyclingSorter y = sampled(30, 43, 1);
        int own = y.bale(0, 0);
        Check.due("own ones", own, () -> y.kilos(HOPPER, 0));
        Check.due("others", 50 - own, () -> y.kilos(HOPPER, 1));
        Check.due("none is in stock", 0L, () -> y.account(7));
        Document.about("Terms", "it keeps its number and its numbers");
        RecyclingSorter x = Sorters.perfect();
        x.set(4, 1);
        Sorters.mixedBale(x, 38);
        dueRow("the looped one", new int[] {38, 12, 0, 0, 0, 0, 50, 760, 0, 3, 2, -1}, what -> x.bale(0, what));
        x.feed(0, 62);
        x.seed(1);
        x.run(1);
        Check.due("the next one has the next number", 2L, () -> x.account(10));
        Check.due("the looped one stays", 2, () -> x.bale(0, 10));
    }

    private static void firstSettings() {
        Document.about("Terms", "0 the throughput, 1 to 500, at first 100; 1 the loop, 0 to 100, at first 50; 2 the"
                + " bale size, 10 to 200, at first 50; 3 the sample, 1 to 50, at first 10; 4 looping, 0 off, as at"
                + " first, or 1 on");
        RecyclingSorter x = new RecyclingSorter();
        int[] least = {1, 0, 10, 1, 0};
        int[] most = {500, 100, 200, 50, 1};
        dueRow("at first", new int[] {100, 50, 50, 10, 0}, what -> x.set(what, least[what]));
        dueRow("the least", least, what -> x.set(what, most[what]));
        dueRow("the most", most, what -> x.set(what, most[what]));
    }

    private static Object wouldSell(RecyclingSorter x, int material, int floor, int kilos) {
        x.contract(material, floor, kilos, 1);
        Object answer = Check.answerOf(() -> x.wouldSell(0));
        x.undo();
        return answer;
    }

    private static void whatSuits() {
        Document.about("Terms", "A bale suits a contract for its material if its sampled purity is at least the floor");
        RecyclingSorter x = sampled(19, 20, 0);
        String refusal = ELEMENT.getName();
        Check.due("just the floor", 0, () -> wouldSell(x, 0, 950, 50));
        Check.due("above it", 0, () -> wouldSell(x, 0, 949, 50));
        Check.due("below it", refusal, () -> wouldSell(x, 0, 951, 50));
        Check.due("another material", refusal, () -> wouldSell(x, 1, 0, 50));
        Check.due("the greatest floor", 0, () -> wouldSell(sampled(1, 1, 0), 0, 1000, 50));
        Check.due("the least floor", 0, () -> wouldSell(sampled(0, 1, 0), 0, 0, 50));
        Check.due("below the floor 1", refusal, () -> wouldSell(sampled(0, 1, 0), 0, 1, 50));
        Document.about("Terms", "at least as many kilos are wanted as it has");
        Check.due("just as many", 0, () -> wouldSell(x, 0, 0, 50));
        Check.due("one more", 0, () -> wouldSell(x, 0, 0, 51));
        Check.due("one fewer", refusal, () -> wouldSell(x, 0, 0, 49));
        Check.due("the most", 0, () -> wouldSell(x, 0, 0, 9999));
        Check.due("the least", refusal, () -> wouldSell(x, 0, 0, 1));
        Document.about("Terms", "its kilos are wanted no more");
        x.contract(0, 0, 50, 1);
        Check.due("sold", 0, () -> x.sell(0));
        Check.due("nothing is wanted", 0, () -> x.contractOf(0, 2));
        RecyclingSorter y = Sorters.withBales(2);
        y.contract(0, 0, 99, 1);
        Check.due("sold to 99", 0, () -> y.sell(1));
        Check.due("one fewer than the next has", 49, () -> y.contractOf(0, 2));
        Check.due("the next is not sold", refusal, () -> y.wouldSell(0));
    }

    /** To which of these contracts, each with its floor and its price, a bale is sold. */
    private static int buyer(int[][] floorsAndPrices) {
        RecyclingSorter x = sampled(19, 20, 0);
        for (int[] contract : floorsAndPrices) {
            x.contract(0, contract[0], 50, contract[1]);
        }
        return x.sell(0);
    }

    private static void whichContract() {
        Document.about("Terms", "is sold to the contract that it suits with the greatest price");
        Check.due("the greater price", 1, () -> buyer(new int[][] {{950, 1}, {0, 99}}));
        Check.due("it is the first", 0, () -> buyer(new int[][] {{0, 99}, {950, 98}}));
        Check.due("but one that it suits", 1, () -> buyer(new int[][] {{951, 99}, {0, 1}, {1000, 99}}));
        Document.about("Terms", "of the same price to that with the greatest floor");
        Check.due("the greater floor", 1, () -> buyer(new int[][] {{949, 5}, {950, 5}, {0, 5}}));
        Check.due("it is the first", 0, () -> buyer(new int[][] {{1, 5}, {0, 5}}));
        Check.due("but one that it reaches", 1, () -> buyer(new int[][] {{951, 5}, {900, 5}}));
        Document.about("Terms", "of the same floor to the one with the lowest number");
        Check.due("two", 0, () -> buyer(new int[][] {{800, 5}, {800, 5}}));
        Check.due("eight", 1, () -> buyer(new int[][] {{800, 4}, {800, 5}, {800, 5}, {800, 5}, {800, 5}, {799, 5},
            {0, 5}, {800, 5}}));
    }

    private static void refusal(String what, RecyclingSorter x, int bale, int reason, int detail) {
        Check.refused(what, UNSUPPORTED, () -> x.sell(bale));
        Check.due(what + ": bale", bale, () -> x.report(0, false));
        Check.due(what + ": material", x.bale(bale, 5), () -> x.report(0, true));
        Check.due(what + ": reason", reason, () -> x.report(1, false));
        Check.due(what + ": detail", detail, () -> x.report(1, true));
    }

    private static void reasons() {
        Document.about("Terms", "It is refused for the first of these reasons that applies, with a detail: 1, it is not"
                + " in stock: 1 or 2, as it is sold or looped");
        RecyclingSorter x = Sorters.withBales(1);
        x.contract(0, 1000, 50, 1);
        x.sell(0);
        refusal("sold, and nothing is wanted", x, 0, 1, 1);
        refusal("looped, without a contract", sampled(0, 1, 1), 0, 1, 2);
        RecyclingSorter looped = sampled(0, 1, 1);
        looped.contract(0, 1, 1, 1);
        refusal("looped, not pure and not wanted", looped, 0, 1, 2);
        looped.contract(0, 0, 9999, 1);
        refusal("looped, but a contract would take it", looped, 0, 1, 2);
        Document.about("Terms", "2, there is no contract for its material: the material");
        RecyclingSorter y = new RecyclingSorter();
        y.addMachine(4, 100, 0, 500, 0);
        y.feed(4, 50);
        y.run(1);
        refusal("no contract at all", y, 0, 2, 4);
        y.contract(0, 0, 9999, 1);
        refusal("none for its material", y, 0, 2, 4);
        Document.about("Terms", "3, its sampled purity is less than the floors of all contracts for its material: the"
                + " least one of these floors");
        RecyclingSorter z = sampled(19, 20, 0);
        z.contract(1, 0, 9999, 1);
        z.contract(0, 1000, 9999, 1);
        refusal("less than one", z, 0, 3, 1000);
        z.contract(0, 951, 1, 1);
        refusal("less than all, and too many kilos", z, 0, 3, 951);
        Document.about("Terms", "4, otherwise: the greatest number of kilos that a contract for its material wants"
                + " whose floor it reaches");
        z.contract(0, 950, 48, 1);
        refusal("just one floor", z, 0, 4, 48);
        z.contract(0, 0, 49, 1);
        refusal("the greater number", z, 0, 4, 49);
        z.contract(0, 10, 7, 1);
        refusal("not the latest one", z, 0, 4, 49);
        RecyclingSorter w = sampled(19, 20, 0);
        w.contract(0, 0, 49, 1);
        w.contract(0, 1, 48, 1);
        refusal("the first one", w, 0, 4, 49);
        z.contract(0, 0, 50, 1);
        Check.due("no reason any more", 6, () -> z.sell(0));
    }

    private static void reports() {
        Document.about("Terms", "leaves a report, which replaces the earlier one and stays until the next one");
        RecyclingSorter x = Sorters.withBales(3);
        refusal("the first", x, 0, 2, 0);
        x.contract(0, 0, 50, 1);
        x.contract(0, 0, 50, 1);
        x.sell(1);
        Check.due("a sale", 1, x::sellAll);
        Check.refused("a look", ELEMENT, () -> x.wouldSell(1));
        Check.due("a text", 1, () -> Sorters.perform(x, "r1"));
        Check.due("an error", -101, () -> Sorters.perform(x, "r"));
        x.undo();
        x.save();
        x.restore();
        dueRow("it stays", new int[] {0, 0, 2, 0}, part -> x.report(part / 2, part % 2 == 1));
        refusal("the next one", x, 2, 4, 0);
        refusal("the same once more", x, 2, 4, 0);
        Document.about("Terms", "there is one more level ahead of these, with 9 and the number of the command, from 0");
        Check.refused("the first command", UNSUPPORTED, () -> Sorters.perform(x, "s2"));
        dueRow("with the number 0", new int[] {9, 0, 2, 0, 4, 0}, part -> x.report(part / 2, part % 2 == 1));
        Check.refused("the last command", UNSUPPORTED, () -> Sorters.perform(x, "r1;".repeat(26) + "s2"));
        dueRow("with the number 26", new int[] {9, 26, 2, 0, 4, 0}, part -> x.report(part / 2, part % 2 == 1));
        refusal("no command", x, 2, 4, 0);
        Check.refused("one level fewer", ELEMENT, () -> x.report(2, false));
    }

    private static void order() {
        Document.about("Terms", "Bales in stock are ordered by grade, lower grades first, of the same grade by sampled"
                + " purity, greater ones first, of the same one by number.");
        RecyclingSorter x = Sorters.perfect();
        int[][] hitsAndSamples = {{7, 10}, {0, 1}, {19, 20}, {37, 39}, {8, 10}, {7, 10}, {1, 1}, {17, 20}, {1, 1}};
        for (int[] each : hitsAndSamples) {
            Sorters.sampledBale(x, each[0], each[1]);
        }
        dueRow("nine", new int[] {6, 8, 2, 3, 7, 4, 0, 5, 1}, x::ordered);
        x.contract(0, 0, 100, 1);
        x.sell(6);
        x.sell(0);
        dueRow("seven", new int[] {8, 2, 3, 7, 4, 5, 1}, x::ordered);
        Check.refused("no eighth", ELEMENT, () -> x.ordered(7));
        RecyclingSorter near = Sorters.perfect();
        Sorters.sampledBale(near, 39, 46);
        Sorters.sampledBale(near, 28, 33);
        dueRow("847 and 848", new int[] {847, 848}, bale -> near.bale(bale, 8));
        dueRow("the greater one by 1 first", new int[] {1, 0}, near::ordered);
        x.undo();
        dueRow("eight again", new int[] {8, 2, 3, 7, 4, 0, 5, 1}, x::ordered);
    }

    private static RecyclingSorter rounding(int own, int others, int throughput) {
        RecyclingSorter x = new RecyclingSorter();
        x.addMachine(0, 10, 0, 500, 0);
        x.set(0, throughput);
        x.set(1, 100);
        if (own > 0) {
            x.feed(0, own);
        }
        if (others > 0) {
            x.feed(1, others);
        }
        return x;
    }

    private static void settledIs(String what, boolean want, RecyclingSorter x) {
        Check.due(what, want, x::isSettled);
        Check.due(what + ", after 0", want, () -> Integer.valueOf(0).equals(Check.answerOf(x::settlesAfter)));
    }

    private static void settled() {
        Document.about("Terms", "one more pass would leave the hopper, the bunkers and the waste as they are");
        settledIs("nothing at all", true, rounding(0, 0, 100));
        settledIs("nothing is caught of 9", true, rounding(9, 0, 100));
        settledIs("one is caught of 10", false, rounding(10, 0, 100));
        settledIs("others alone", true, rounding(0, 999, 100));
        settledIs("own ones that are not taken", true, rounding(10, 100, 10));
        settledIs("own ones that are taken", false, rounding(10, 100, 500));
        Check.due("none of them is run", 0, () -> rounding(10, 100, 10).run(200));
        RecyclingSorter waste = rounding(0, 1, 100);
        waste.set(1, 99);
        settledIs("waste to come", false, waste);
        Check.due("after it", 1, waste::settlesAfter);
        RecyclingSorter bunker = Sorters.perfect();
        bunker.feed(0, 49);
        bunker.run(1);
        settledIs("a bunker with less than a bale", true, bunker);

        Document.about("Terms", "and would make no bale");
        // Of 50 others 45 are caught, and their bale is looped, so that all is as it was but for the bale.
        RecyclingSorter round = withMistakes(50, 45);
        settledIs("a looped bale", false, round);
        Check.due("60 of them, 45 and 4 kilos caught", 62, round::settlesAfter);
        Check.due("run makes as many", 62, () -> round.run(200));
        settledIs("what is left is not caught", true, round);
        bunker.set(2, 49);
        settledIs("an empty hopper, but a bale to come", false, bunker);
        Check.due("after that bale", 1, bunker::settlesAfter);
        Check.due("but run makes no pass", 0, () -> bunker.run(1));
        RecyclingSorter full = Sorters.perfect();
        full.set(0, 500);
        full.set(2, 10);
        full.feed(0, 650);
        full.run(2);
        settledIs("a bunker with more than a bale behind 60", true, full);
    }

    private static void texts() {
        Document.about("Terms", "`number = digit [ digit [ digit [ digit ] ] ]`");
        String[] numbers = {"1", "12", "123", "0123", "0001"};
        int[] kilos = {1, 12, 123, 123, 1};
        for (int each = 0; each < numbers.length; each++) {
            RecyclingSorter x = new RecyclingSorter();
            String text = "f4=" + numbers[each];
            Check.due(text, 1, () -> Sorters.perform(x, text));
            Check.due("its kilos", kilos[each], () -> x.kilos(HOPPER, 4));
        }
        due("five digits", -107, "f4=00001");
        due("no digit", -103, "f4=");
        Document.about("Terms", "`text = command { ';' command`}".replace('\'', '"'));
        due("no command", -100, "");
        due("no repetition", 1, "f0=1");
        due("one", 2, "f0=1;f1=1");
        due("the most", 16, "f0=1;".repeat(15) + "f0=1");
        due("none behind a semicolon", -105, "f0=1;");
        due("none between", -105, "f0=1;;f0=1");
        due("none ahead", -100, ";f0=1");
        Document.about("Terms", "`command = 'f' digit '=' number | 'r' number | 'c' digit '@' number '*' number '$'"
                .replace('\'', '"') + " number | 's' number`".replace('\'', '"'));
        due("the least contract", 1, "c0@0*1$1");
        due("the greatest one", 1, "c4@1000*9999$99");
        due("a digit that is no material is no error", UNSUPPORTED.getName(), "f9=1");
        due("two digits", -102, "f00=1");
        due("a capital", -100, "R1");
        Document.about("Terms", "the offset, from 0, of the first character that cannot continue such a text, or the"
                + " length of the text if it ends too early");
        due("the first", -100, "x" + "0".repeat(79));
        due("the last one", -179, "f0=1;".repeat(15) + "f0=1x");
        due("behind the last one", -180, "f0=1;".repeat(16));
        due("the first of two errors", -101, "rr");
        due("it ends too early, whatever the commands would do", -102, "s9,");
        eachErrorAsTheModel();
    }

    private static void due(String what, Object want, String text) {
        Check.due(what, want, () -> Sorters.perform(new RecyclingSorter(), text));
    }

    /** Each place of a text with each other sign, without it, and with one more. */
    private static void eachErrorAsTheModel() {
        String signs = "frcs;=@*$0159/:`\u0000\u0130\u0660\uff10";
        for (String text : new String[] {"f0=1", "f4=9999;c9@9999*9999$9999;f0=12", "c1@1*1$1;s1234;r1;r123", ""}) {
            for (int at = 0; at <= text.length(); at++) {
                String ahead = text.substring(0, at);
                String behind = text.substring(Math.min(at + 1, text.length()));
                asTheModel(ahead);
                asTheModel(ahead + behind);
                for (int sign = 0; sign < signs.length(); sign++) {
                    asTheModel(ahead + signs.charAt(sign) + behind);
                    asTheModel(ahead + signs.charAt(sign) + text.substring(at));
                }
            }
        }
    }

    private static void asTheModel(String text) {
        Model model = new Model();
        for (int letter = 0; letter < text.length(); letter++) {
            model.append(text.charAt(letter));
        }
        due(text, Check.answerOf(model::perform), text);
    }

    private static void details() {
        Document.about("Terms", "The hopper can have more than 9999 kilos by what goes back into it.");
        RecyclingSorter x = withMistakes(999, 200);
        x.set(4, 0);
        x.run(1);
        Check.due("in the bunker", 90, () -> x.kilos(0, -1));
        for (int missing = 9999 - x.kilos(HOPPER, -1); missing > 0; missing -= Math.min(missing, 999)) {
            x.feed(1, Math.min(missing, 999));
        }
        Check.refused("fed by one", STATE, () -> x.feed(0, 1));
        Check.due("the machine goes", 90, x::removeMachine);
        Check.due("more than 9999", 10089L, () -> x.account(5));
        Check.refused("fed by one then", STATE, () -> x.feed(0, 1));
        x.addMachine(1, 100, 0, 500, 0);
        Check.due("passes go on", 1, () -> x.run(1));
        Check.due("as ever", 9989L, () -> x.account(5));
        loopedIntoFullHopper();
        Document.about("Terms", "What a looped bale brings back can be taken out from the next pass on.");
        RecyclingSorter y = withMistakes(50, 45);
        Check.due("a pass", 1, () -> y.run(1));
        Check.due("its bale", 1L, () -> y.account(10));
        Check.due("all is in the hopper", 50, () -> y.kilos(HOPPER, 1));
        Check.due("the next pass", 1, () -> y.run(1));
        Check.due("its bale again", 45, () -> y.bale(1, 1));
        Document.about("Terms", "If the target of a machine is changed, bales of its bunker have the new one.");
        RecyclingSorter z = Sorters.perfect();
        z.feed(0, 60);
        z.setMachine(0, 1, 50);
        z.run(1);
        z.setMachine(0, 0, 3);
        z.feed(3, 60);
        z.run(1);
        dueRow("the bale", new int[] {25, 0, 0, 25, 0, 3, 50, 500}, what -> z.bale(0, what));
        Document.about("Terms", "With the same machine twice, there are 0 machines between.");
        Check.due("the same", 0, () -> z.exchange(0, 0));
        passesLookedAtAhead();
        contractsThatWantNothing();
    }

    private static void loopedIntoFullHopper() {
        RecyclingSorter x = withMistakes(999, 200);
        x.set(4, 1);
        x.run(2);
        for (int missing = 9999 - x.kilos(HOPPER, -1); missing > 0; missing -= Math.min(missing, 999)) {
            x.feed(1, Math.min(missing, 999));
        }
        x.run(1);
        Check.due("a looped bale", 2, () -> x.bale(0, 10));
        Check.due("180 were in the bunker", 10109L, () -> x.account(5));
        Check.due("now 70 are", 70, () -> x.kilos(0, -1));
    }

    private static void passesLookedAtAhead() {
        Document.about("Terms", "Whether passes are made is looked at ahead of each one, so that none is made with an"
                + " empty hopper, whatever the bunkers have.");
        RecyclingSorter x = Sorters.perfect();
        x.feed(0, 49);
        Check.due("the hopper is empty then", 1, () -> x.run(200));
        x.set(2, 10);
        Check.due("a bunker with four bales", 0, () -> x.run(200));
        Check.due("by a text", 1, () -> Sorters.perform(x, "r200"));
        Check.due("none was made", 0L, () -> x.account(10));
        Check.due("one pass in all", 1L, () -> x.account(12));
        x.feed(1, 1);
        Check.due("one kilo, and then none", 1, () -> x.run(200));
        Check.due("four bales", 4L, () -> x.account(10));
    }

    private static void contractsThatWantNothing() {
        Document.about("Terms", "The least floor is asked of all contracts for the material, the greatest number of"
                + " kilos of all whose floor it reaches, also of those that want nothing any more.");
        RecyclingSorter x = Sorters.withBales(1);
        x.contract(0, 800, 50, 1);
        x.sell(0);
        Check.due("it wants nothing any more", 0, () -> x.contractOf(0, 2));
        Sorters.sampledBale(x, 7, 10);
        Sorters.sampledBale(x, 17, 20);
        x.contract(0, 1000, 9999, 1);
        refusal("its floor is the least one", x, 1, 3, 800);
        refusal("it is the only floor that is reached", x, 2, 4, 0);
    }
}
