import java.util.NoSuchElementException;
import java.util.function.Supplier;

/** What each promise answers at its edges: with nothing there, with all that can be there, and next to its bounds. */
public final class EdgesTest {
    private static final Class<IndexOutOfBoundsException> INDEX = IndexOutOfBoundsException.class;
    private static final Class<IllegalStateException> STATE = IllegalStateException.class;
    private static final Class<NoSuchElementException> ELEMENT = NoSuchElementException.class;
    private static final Class<UnsupportedOperationException> UNSUPPORTED = UnsupportedOperationException.class;
    private static final Class<ArithmeticException> ARITHMETIC = ArithmeticException.class;
    private static final int HOPPER = Sorters.HOPPER;
    private static final int WASTE = Sorters.WASTE;
    private static final int ALL = -1;

    /** A call on a sorter. */
    private interface Use {
        Object of(RecyclingSorter x);
    }

    public static void main(String[] args) {
        newObject();
        row();
        exchange();
        machineNumbers();
        settings();
        seed();
        feed();
        run();
        settling();
        kilos();
        bale();
        ordered();
        stock();
        contract();
        sell();
        sellAll();
        wouldSell();
        report();
        account();
        shares();
        append();
        perform();
        undo();
        undoOfEach();
        save();
        restore();
        onlyLooking();
        Check.end();
    }

    private static Supplier<RecyclingSorter> after(Supplier<RecyclingSorter> make, Use... calls) {
        return () -> {
            RecyclingSorter x = make.get();
            for (Use call : calls) {
                Check.answerOf(() -> call.of(x));
            }
            return x;
        };
    }

    private static void newObject() {
        Document.about("Promise 1", "Creates a sorter without machines, kilos, bales and contracts.");
        RecyclingSorter x = new RecyclingSorter();
        for (int what = 0; what <= 14; what++) {
            int account = what;
            Check.due("account " + what, 0L, () -> x.account(account));
        }
        for (int material = -1; material < 5; material++) {
            int each = material;
            Check.due("hopper " + material, 0, () -> x.kilos(HOPPER, each));
            Check.due("waste " + material, 0, () -> x.kilos(WASTE, each));
        }
        Check.refused("no machine", INDEX, () -> x.machine(0, 5));
        Check.refused("no bale", INDEX, () -> x.bale(0, 0));
        Check.refused("no order", ELEMENT, () -> x.ordered(0));
        Check.refused("no contract", INDEX, () -> x.contractOf(0, 0));
        Check.refused("no report", ELEMENT, () -> x.report(0, false));
        Check.refused("no change", STATE, x::undo);
        Check.refused("no snapshot", STATE, x::restore);
        Check.due("no letters", -100, x::perform);
        Check.due("no sales", 0, x::sellAll);
        RecyclingSorter other = new RecyclingSorter();
        other.feed(0, 9);
        Check.due("a sorter of its own", 0L, () -> x.account(0));
    }

    private static void row() {
        Document.about("Promise 2", "Adds a machine at the end of the row.");
        RecyclingSorter x = new RecyclingSorter();
        for (int machine = 0; machine < 6; machine++) {
            int number = machine;
            Check.due("the number", number, () -> x.addMachine(number % 5, 10 + number, number, 1 + number, number));
            Check.due("its base", 10 + number, () -> x.machine(number, 1));
            Check.due("an empty bunker", 0, () -> x.machine(number, 5));
            Check.due("machines", number + 1L, () -> x.account(14));
        }
        Document.about("Promise 3", "Removes the last machine of the row. What its bunker has goes back into the"
                + " hopper.");
        for (int machine = 5; machine >= 0; machine--) {
            int number = machine;
            Check.due("the last one, empty", 0, x::removeMachine);
            Check.refused("it is gone", INDEX, () -> x.machine(number, 0));
            Check.due("machines", (long) number, () -> x.account(14));
        }
        Document.about("Promise 3", "Returns the kilos of its bunker.");
        RecyclingSorter y = new RecyclingSorter();
        y.addMachine(0, 50, 0, 500, 0);
        y.addMachine(4, 100, 50, 500, 0);
        for (int material = 0; material < 5; material++) {
            y.feed(material, 8 + material);
        }
        y.run(1);
        // To the second one come 4, 9, 10, 11 and 12, of which half is caught of all but the last.
        Check.due("of all materials", 2 + 4 + 5 + 5 + 12, y::removeMachine);
        int[] hopper = {1 + 2, 2 + 4, 2 + 5, 3 + 5, 12};
        for (int material = 0; material < 5; material++) {
            int each = material;
            Check.due("each of them is back", hopper[each], () -> y.kilos(HOPPER, each));
        }
        y.addMachine(4, 100, 50, 500, 0);
        Check.due("a new one is empty", 0, () -> y.kilos(1, ALL));
    }

    private static void exchange() {
        Document.about("Promise 4", "Returns the number of machines between them.");
        for (int one = 0; one < 6; one++) {
            for (int other = 0; other < 6; other++) {
                RecyclingSorter x = Sorters.withFullRow();
                int first = one;
                int second = other;
                int between = 0;
                for (int machine = Math.min(one, other) + 1; machine < Math.max(one, other); machine++) {
                    between++;
                }
                int want = between;
                Check.due(one + " and " + other, want, () -> x.exchange(first, second));
            }
        }
        Document.about("Promise 4", "a machine, possibly the same");
        Check.same("nothing is different", Trace.ofPlant(Sorters::withFullRow),
                Trace.ofPlant(after(Sorters::withFullRow, x -> x.exchange(5, 5))));
        Document.about("Promise 4", "Exchanges the places of two machines in the row, each with its bunker.");
        RecyclingSorter x = Sorters.withFullRow();
        RecyclingSorter y = Sorters.withFullRow();
        y.exchange(1, 5);
        for (int what = 0; what < 7; what++) {
            int each = what;
            Check.due("the first one " + what, x.machine(1, each), () -> y.machine(5, each));
            Check.due("the other one " + what, x.machine(5, each), () -> y.machine(1, each));
            Check.due("one between " + what, x.machine(3, each), () -> y.machine(3, each));
        }
        for (int material = 0; material < 5; material++) {
            int each = material;
            Check.due("its bunker " + material, x.kilos(1, each), () -> y.kilos(5, each));
            Check.due("the other bunker " + material, x.kilos(5, each), () -> y.kilos(1, each));
        }
        Check.same("there and back", Trace.ofPlant(Sorters::withFullRow),
                Trace.ofPlant(after(Sorters::withFullRow, z -> z.exchange(1, 5), z -> z.exchange(5, 1))));
    }

    private static void machineNumbers() {
        Document.about("Promise 5", "Returns the previous one.");
        RecyclingSorter x = new RecyclingSorter();
        x.addMachine(2, 55, 33, 250, 6);
        int[] first = {2, 55, 33, 250, 6};
        int[] least = {0, 10, 0, 1, 0};
        int[] most = {4, 100, 90, 500, 9};
        for (int what = 0; what < 5; what++) {
            int each = what;
            Check.due("at first " + what, first[each], () -> x.setMachine(0, each, most[each]));
            Check.due("the most " + what, most[each], () -> x.setMachine(0, each, most[each]));
            Check.due("the same " + what, most[each], () -> x.setMachine(0, each, least[each]));
            Check.due("the least " + what, least[each], () -> x.setMachine(0, each, first[each]));
            Check.due("as at first " + what, first[each], () -> x.machine(0, each));
        }
        Document.about("Promise 6", "6 the bales that were made from its bunker since it was added");
        RecyclingSorter y = Sorters.withBales(2);
        Check.due("two", 2, () -> y.machine(0, 6));
        y.setMachine(0, 0, 3);
        Check.due("with a new target too", 2, () -> y.machine(0, 6));
        y.addMachine(1, 100, 0, 500, 0);
        y.exchange(0, 1);
        Check.due("it takes them along", 2, () -> y.machine(1, 6));
        Check.due("the other one has none", 0, () -> y.machine(0, 6));
        y.removeMachine();
        y.addMachine(3, 100, 0, 500, 0);
        Check.due("none since it was added", 0, () -> y.machine(1, 6));
        y.undo();
        y.undo();
        Check.due("two, as it is back", 2, () -> y.machine(1, 6));
        Document.about("Promise 7", "Returns the catch or the mistake of a machine by a flow.");
        RecyclingSorter z = new RecyclingSorter();
        z.addMachine(0, 100, 0, 500, 9);
        z.addMachine(0, 100, 0, 1, 1);
        Check.due("the first one's catch", 100, () -> z.rate(0, 509, false));
        Check.due("the first one's mistake", 0, () -> z.rate(0, 509, true));
        Check.due("the second one's catch", 50, () -> z.rate(1, 509, false));
        Check.due("the second one's mistake", 50, () -> z.rate(1, 509, true));
        z.setMachine(1, 3, 500);
        Check.due("as it is set now", 100, () -> z.rate(1, 509, false));
    }

    private static void settings() {
        Document.about("Promise 8", "It counts from then on.");
        RecyclingSorter x = Sorters.perfect();
        x.feed(0, 100);
        x.set(0, 30);
        x.run(1);
        Check.due("the throughput", 70, () -> x.kilos(HOPPER, ALL));
        x.set(2, 15);
        Check.due("the bale size makes no bale by itself", 0L, () -> x.account(10));
        x.run(1);
        Check.due("but with the next pass", 4L, () -> x.account(10));
        x.set(2, 50);
        Check.due("bales keep their size", 15, () -> x.bale(0, 6));
        x.set(1, 100);
        x.feed(1, 10);
        x.run(2);
        Check.due("the loop", 0, () -> x.kilos(WASTE, ALL));
        RecyclingSorter y = Sorters.perfect();
        Sorters.mixedBale(y, 38);
        y.set(4, 1);
        Check.due("looping is not for earlier bales", 0, () -> y.bale(0, 10));
        Sorters.mixedBale(y, 38);
        y.set(4, 0);
        Check.due("but for later ones, and stays", 2, () -> y.bale(1, 10));
        y.set(3, 50);
        Check.due("the sample is not for earlier bales", 0, () -> y.bale(0, 8));
    }

    private static void seed() {
        Document.about("Promise 9", "the number, any int");
        RecyclingSorter x = new RecyclingSorter();
        int previous = 1;
        for (int z : new int[] {0, -1, Integer.MIN_VALUE, Integer.MAX_VALUE, 1, 1, 65536}) {
            int earlier = previous;
            Check.due("the previous one", earlier, () -> x.seed(z));
            Check.due("as an account", (long) z, () -> x.account(15));
            previous = z;
        }
    }

    private static void feed() {
        Document.about("Promise 10", "Returns the kilos of this material in the hopper then.");
        RecyclingSorter x = new RecyclingSorter();
        for (int material = 0; material < 5; material++) {
            int each = material;
            Check.due("the least", 1, () -> x.feed(each, 1));
            Check.due("the most", 1000, () -> x.feed(each, 999));
            Check.due("fed", 1000L, () -> x.account(each));
        }
        Document.about("Promise 10", "if the hopper would have more than 9999 kilos");
        for (int time = 0; time < 5; time++) {
            x.feed(0, 999);
        }
        Check.due("4 kilos of room", 9995L, () -> x.account(5));
        Check.refused("5 kilos", STATE, () -> x.feed(4, 5));
        Check.due("4 kilos", 1004, () -> x.feed(4, 4));
        Check.refused("no room", STATE, () -> x.feed(4, 1));
        x.addMachine(0, 100, 0, 500, 0);
        x.set(0, 1);
        x.set(1, 0);
        x.run(1);
        Check.due("room for one again", 1005 - x.kilos(WASTE, 4), () -> x.feed(4, 1));
        Check.refused("for no more", STATE, () -> x.feed(4, 1));
    }

    private static void run() {
        Document.about("Promise 11", "until the hopper is empty, the sorter has settled, or as many as told have been"
                + " made");
        RecyclingSorter x = Sorters.perfect();
        Check.due("an empty hopper", 0, () -> x.run(200));
        x.set(0, 1);
        x.feed(0, 201);
        Check.due("the least limit", 1, () -> x.run(1));
        Check.due("one less than all", 199, () -> x.run(199));
        Check.due("the last one", 1, () -> x.run(200));
        Check.due("none is left", 0, () -> x.run(1));
        x.feed(0, 200);
        Check.due("just the greatest limit", 200, () -> x.run(200));
        x.feed(0, 201);
        Check.due("one more than it", 200, () -> x.run(200));
        Check.due("is left", 1, () -> x.kilos(HOPPER, ALL));
        Check.due("all passes", 601L, () -> x.account(12));
        RecyclingSorter y = Sorters.perfect();
        y.set(1, 100);
        y.feed(1, 999);
        Check.due("settled from the first", 0, () -> y.run(200));
        y.feed(0, 1);
        y.set(0, 500);
        Check.due("until the own kilo is caught", 1, () -> y.run(200));
        Check.due("settled with a full hopper", 999, () -> y.kilos(HOPPER, ALL));
        Check.due("settled passes are not made", 1L, () -> y.account(12));
        long z = y.account(15);
        Check.due("nor are samples", z, () -> y.run(5) + y.account(15));
    }

    private static void settling() {
        Document.about("Promise 12", "Returns whether the sorter has settled.");
        RecyclingSorter x = Sorters.perfect();
        Check.due("nothing there", true, x::isSettled);
        x.feed(0, 1);
        Check.due("one kilo", false, x::isSettled);
        x.run(1);
        Check.due("it is caught", true, x::isSettled);
        Document.about("Promise 13", "Returns the number of passes, 0 if it has settled.");
        Check.due("settled", 0, x::settlesAfter);
        x.set(0, 1);
        for (int kilos = 1; kilos <= 3; kilos++) {
            x.feed(0, 1);
            int want = kilos;
            Check.due("as many passes", want, x::settlesAfter);
        }
        x.feed(0, 297);
        Check.due("just 300", 300, x::settlesAfter);
        x.feed(0, 1);
        Check.refused("301", ELEMENT, x::settlesAfter);
        x.run(1);
        Check.due("300 are left", 300, x::settlesAfter);
        x.run(200);
        Check.due("100 are left", 100, x::settlesAfter);
        Document.about("Promise 13", "Nothing changes.");
        Check.same("settling", Trace.of(Sorters::busy), Trace.of(after(Sorters::busy, RecyclingSorter::settlesAfter,
                RecyclingSorter::isSettled)));
        Document.about("Promise 13", "it has not settled after 300 passes");
        RecyclingSorter y = Sorters.perfect();
        y.set(1, 99);
        y.feed(1, 300);
        Check.due("one kilo is wasted by each pass", 300, y::settlesAfter);
        y.feed(1, 1);
        Check.refused("one kilo more", ELEMENT, y::settlesAfter);
        settlingWithEmptyHopper();
    }

    /** It goes by the passes that would be made, though run makes none with an empty hopper. */
    private static void settlingWithEmptyHopper() {
        Document.about("Promise 13", "Returns after how many passes the sorter would have settled first.");
        RecyclingSorter x = new RecyclingSorter();
        x.addMachine(2, 10, 90, 500, 0);
        x.set(1, 0);
        x.feed(1, 50);
        x.run(1);
        Check.due("in the bunker", 45, () -> x.kilos(0, ALL));
        Check.due("with less than a bale", 0, x::settlesAfter);
        x.set(1, 100);
        x.set(2, 45);
        Check.due("a pass for the bale", 1, x::settlesAfter);
        Check.due("not settled", false, x::isSettled);
        x.set(4, 1);
        // Of the looped bale 40 kilos are caught again, then 4, and the last one never.
        Check.due("two more for what the looped bale brings back", 3, x::settlesAfter);
        Check.due("none that is made", 0, () -> x.run(200));
        Check.due("no bale", 0L, () -> x.account(10));
        x.feed(0, 1);
        Check.due("with a kilo in the hopper they are made", 3, () -> x.run(200));
        Check.due("the looped bale", 1L, () -> x.account(10));
        Check.due("settled", 0, x::settlesAfter);
    }

    private static void kilos() {
        Document.about("Promise 14", "a machine for its bunker, 10 for the hopper, 11 for waste");
        RecyclingSorter x = new RecyclingSorter();
        for (int machine = 0; machine < 6; machine++) {
            x.addMachine(machine % 5, 10, 0, 500, 0);
        }
        x.feed(0, 100);
        x.run(1);
        Check.due("the first bunker", 10, () -> x.kilos(0, 0));
        Check.due("the last bunker", 9, () -> x.kilos(5, 0));
        Check.due("an empty one", 0, () -> x.kilos(4, 0));
        Check.due("the hopper", 40, () -> x.kilos(HOPPER, 0));
        Check.due("the waste", 41, () -> x.kilos(WASTE, 0));
        Document.about("Promise 14", "the material, or -1 for all together");
        RecyclingSorter y = new RecyclingSorter();
        int all = 0;
        for (int material = 0; material < 5; material++) {
            int kilos = 1 << material;
            y.feed(material, kilos);
            all += kilos;
            int each = material;
            int want = all;
            Check.due("of each", kilos, () -> y.kilos(HOPPER, each));
            Check.due("together", want, () -> y.kilos(HOPPER, ALL));
        }
    }

    private static void bale() {
        Document.about("Promise 15", "10 whether it is in stock, sold or looped; 11 the contract to which it was sold,"
                + " -1 if it was not sold");
        RecyclingSorter x = Sorters.withBales(2);
        x.contract(1, 0, 50, 1);
        x.contract(0, 0, 50, 1);
        Check.due("in stock", 0, () -> x.bale(1, 10));
        Check.due("to none", -1, () -> x.bale(1, 11));
        x.sell(1);
        Check.due("sold", 1, () -> x.bale(1, 10));
        Check.due("to the second one", 1, () -> x.bale(1, 11));
        x.undo();
        Check.due("in stock again", 0, () -> x.bale(1, 10));
        Check.due("to none again", -1, () -> x.bale(1, 11));
        x.undo();
        x.undo();
        x.contract(0, 0, 50, 1);
        x.sell(0);
        Check.due("to the first one", 0, () -> x.bale(0, 11));
        x.set(4, 1);
        Sorters.mixedBale(x, 38);
        Check.due("looped", 2, () -> x.bale(2, 10));
        Check.due("a looped one to none", -1, () -> x.bale(2, 11));
    }

    private static void ordered() {
        Document.about("Promise 16", "Returns the number of the bale.");
        RecyclingSorter x = Sorters.withBales(0);
        Check.refused("no bales", ELEMENT, () -> x.ordered(0));
        RecyclingSorter y = Sorters.perfect();
        y.set(0, 500);
        y.set(2, 10);
        y.feed(0, 700);
        y.run(2);
        for (int place = 0; place < 60; place++) {
            int each = place;
            Check.due("as good ones by number", each, () -> y.ordered(each));
        }
        Check.refused("no more than 60", ELEMENT, () -> y.ordered(60));
        y.contract(0, 0, 590, 1);
        y.sellAll();
        Check.due("the one that is left", 59, () -> y.ordered(0));
        y.contract(0, 0, 10, 1);
        y.sell(59);
        Check.refused("none is left", ELEMENT, () -> y.ordered(0));
        RecyclingSorter z = Sorters.perfect();
        z.set(4, 1);
        Sorters.mixedBale(z, 38);
        Check.refused("a looped one has no place", ELEMENT, () -> z.ordered(0));
    }

    private static void stock() {
        Document.about("Promise 17", "the greatest grade that counts, 0 to 3");
        RecyclingSorter x = Sorters.perfect();
        Sorters.sampledBale(x, 0, 1);
        Sorters.sampledBale(x, 7, 10);
        Sorters.sampledBale(x, 17, 20);
        Sorters.sampledBale(x, 19, 20);
        for (int grade = 0; grade < 4; grade++) {
            int each = grade;
            Check.due("all their kilos up to " + grade, 50 * (each + 1), () -> x.stock(0, each));
            Check.due("of another material", 0, () -> x.stock(1, each));
        }
        x.contract(0, 0, 50, 1);
        x.sell(2);
        Check.due("without the sold one", 50, () -> x.stock(0, 1));
        Check.due("with the others", 150, () -> x.stock(0, 3));
        x.set(4, 1);
        Sorters.sampledBale(x, 0, 1);
        Check.due("without a looped one", 150, () -> x.stock(0, 3));
        Check.due("none there", 0, () -> new RecyclingSorter().stock(4, 3));
    }

    private static void contract() {
        Document.about("Promise 18", "Returns the number of the contract.");
        RecyclingSorter x = new RecyclingSorter();
        for (int contract = 0; contract < 8; contract++) {
            int each = contract;
            boolean isLeast = each % 2 == 0;
            Check.due("the number", each, () -> isLeast ? x.contract(0, 0, 1, 1) : x.contract(4, 1000, 9999, 99));
            int[] want = isLeast ? new int[] {0, 0, 1, 1, 0} : new int[] {4, 1000, 9999, 99, 0};
            for (int what = 0; what < 5; what++) {
                int number = what;
                Check.due("its numbers", want[what], () -> x.contractOf(each, number));
            }
            Check.due("contracts", each + 1L, () -> x.account(11));
        }
        Document.about("Promise 19", "2 the kilos that are still wanted; 3 the price; 4 the bales that were sold"
                + " to it");
        RecyclingSorter y = Sorters.withBales(3);
        y.contract(0, 0, 101, 1);
        int[] wanted = {51, 1, 1};
        int[] sold = {1, 2, 2};
        for (int bale = 0; bale < 3; bale++) {
            int each = bale;
            Check.answerOf(() -> y.sell(each));
            Check.due("wanted after " + each, wanted[each], () -> y.contractOf(0, 2));
            Check.due("sold after " + each, sold[each], () -> y.contractOf(0, 4));
        }
    }

    private static void sell() {
        Document.about("Promise 20", "Returns the contract to which it is sold.");
        RecyclingSorter x = Sorters.withBales(2);
        for (int contract = 0; contract < 8; contract++) {
            x.contract(contract < 7 ? 1 : 0, 0, 100, 1);
        }
        Check.due("the last bale to the last contract", 7, () -> x.sell(1));
        Check.due("the first one", 7, () -> x.sell(0));
        Check.refused("it is sold", UNSUPPORTED, () -> x.sell(0));
        Check.due("paid once each", 100L, () -> x.account(13));
        Check.due("sold to it", 2, () -> x.contractOf(7, 4));
    }

    private static void sellAll() {
        Document.about("Promise 21", "Returns the number of bales that are sold.");
        Check.due("a new object", 0, () -> new RecyclingSorter().sellAll());
        Check.due("no contract", 0, () -> Sorters.withBales(2).sellAll());
        RecyclingSorter x = Sorters.perfect();
        x.set(0, 500);
        x.set(2, 10);
        x.feed(0, 600);
        x.run(2);
        x.contract(0, 1000, 600, 1);
        Check.due("all that there can be", 60, x::sellAll);
        Check.due("none is left", 0, x::sellAll);
        Document.about("Promise 21", "one after the other in the order of bales as it is at first");
        RecyclingSorter y = Sorters.perfect();
        Sorters.sampledBale(y, 7, 10);
        Sorters.sampledBale(y, 1, 1);
        Sorters.sampledBale(y, 17, 20);
        Sorters.sampledBale(y, 0, 1);
        y.contract(0, 800, 50, 9);
        y.contract(0, 0, 50, 1);
        y.contract(0, 1, 49, 99);
        Check.due("the two best", 2, y::sellAll);
        int[] buyers = {-1, 0, 1, -1};
        for (int bale = 0; bale < 4; bale++) {
            int each = bale;
            Check.due("bale " + bale, buyers[each], () -> y.bale(each, 11));
        }
        RecyclingSorter z = Sorters.perfect();
        for (int size = 60; size >= 50; size -= 10) {
            z.set(2, size);
            z.feed(0, size);
            z.run(1);
        }
        z.contract(0, 0, 50, 1);
        Check.due("one behind another that can't", 1, z::sellAll);
        Check.due("the first one is too great", 0, () -> z.bale(0, 10));
        Check.due("the second one is sold", 1, () -> z.bale(1, 10));
        Document.about("Promise 21", "There is no report.");
        Check.refused("of no sale at all", ELEMENT, () -> x.report(0, false));
        Check.refused("of bales that are not sold", ELEMENT, () -> y.report(0, false));
        Check.refused("a sale", UNSUPPORTED, () -> y.sell(1));
        y.sellAll();
        Check.due("the earlier one stays", 1, () -> y.report(0, false));
    }

    private static void wouldSell() {
        Document.about("Promise 22", "Nothing changes, and there is no report.");
        Supplier<RecyclingSorter> ready = after(Sorters::busy, x -> x.contract(0, 0, 50, 99));
        Check.due("the contract", 3, () -> ready.get().wouldSell(0));
        Check.same("one that would be sold", Trace.of(ready), Trace.of(after(ready, x -> x.wouldSell(0))));
        Check.same("one that would be refused", Trace.of(ready), Trace.of(after(ready, x -> x.wouldSell(1))));
        Check.refused("no report", ELEMENT,
                () -> after(() -> Sorters.withBales(1), x -> x.wouldSell(0)).get().report(0, false));
        Document.about("Promise 22", "Returns to which contract a bale would be sold now.");
        RecyclingSorter x = Sorters.withBales(2);
        x.contract(0, 0, 50, 1);
        x.contract(0, 0, 50, 1);
        Check.due("before a sale", 0, () -> x.wouldSell(1));
        x.sell(0);
        Check.due("after it", 1, () -> x.wouldSell(1));
    }

    private static void report() {
        Document.about("Promise 23", "false for the first number, true for the second one");
        RecyclingSorter x = new RecyclingSorter();
        x.addMachine(3, 100, 0, 500, 0);
        x.feed(3, 100);
        x.run(1);
        Check.refused("a sale", UNSUPPORTED, () -> x.sell(1));
        int[] sale = {1, 3, 2, 3};
        for (int part = 0; part < 4; part++) {
            int each = part;
            Check.due("part " + part, sale[each], () -> x.report(each / 2, each % 2 == 1));
        }
        Check.refused("a text", UNSUPPORTED, () -> Sorters.perform(x, "f0=1;s0"));
        int[] told = {9, 1, 0, 3, 2, 3};
        for (int part = 0; part < 6; part++) {
            int each = part;
            Check.due("part " + part + " of a command", told[each], () -> x.report(each / 2, each % 2 == 1));
        }
        Check.refused("a text with another fault", UNSUPPORTED, () -> Sorters.perform(x, "s2"));
        Check.due("leaves the report", 1, () -> x.report(0, true));
    }

    private static void account() {
        Document.about("Promise 24", "Returns an account.");
        RecyclingSorter x = Sorters.perfect();
        x.set(0, 500);
        x.set(2, 200);
        for (int time = 0; time < 13; time++) {
            x.feed(0, 999);
            x.run(200);
        }
        x.contract(0, 0, 9999, 99);
        x.sellAll();
        // 60 bales of 200 are made, and 49 of them sold.
        long[] want = {12987, 0, 0, 0, 0, 0, 987, 2200, 9800, 0, 60, 1, 26, 970200, 1};
        for (int what = 0; what < want.length; what++) {
            int each = what;
            Check.due("account " + what, want[each], () -> x.account(each));
        }
        Document.about("Promise 24", "12 the passes that were made");
        RecyclingSorter y = Sorters.perfect();
        y.isSettled();
        y.settlesAfter();
        y.run(200);
        Check.due("none", 0L, () -> y.account(12));
        Sorters.perform(y, "f0=1;r9;f0=1;r9");
        Check.due("two by a text", 2L, () -> y.account(12));
        y.settlesAfter();
        Check.due("still two", 2L, () -> y.account(12));
        y.undo();
        Check.due("taken back", 0L, () -> y.account(12));
    }

    private static void shares() {
        Document.about("Promise 25", "Returns the true purity of all bales that are not looped together");
        RecyclingSorter x = Sorters.withBales(1);
        Check.due("a pure one", 1.0, x::purity);
        RecyclingSorter y = Sorters.perfect();
        Sorters.rawBale(y, 0, 50);
        Check.due("one without its material", 0.0, y::purity);
        Sorters.rawBale(y, 1, 10);
        Check.due("together with another", 1.0 / 60.0, y::purity);
        y.contract(0, 0, 10, 1);
        y.sell(1);
        Check.due("sold or not", 1.0 / 60.0, y::purity);
        y.set(4, 1);
        Sorters.rawBale(y, 2, 30);
        Check.due("a looped one", 2, () -> y.bale(2, 10));
        Check.due("without it", 1.0 / 60.0, y::purity);
        Document.about("Promise 26", "its kilos that are waste, as a float, divided by its kilos that were fed, as a"
                + " float");
        RecyclingSorter z = Sorters.perfect();
        z.set(1, 0);
        z.feed(1, 7);
        z.feed(0, 7);
        z.feed(2, 3);
        z.run(1);
        Check.due("all of it", 1.0f, () -> z.wasted(1));
        Check.due("none of it", 0.0f, () -> z.wasted(0));
        z.set(1, 67);
        z.feed(2, 4);
        z.run(1);
        Check.due("five of seven", 5.0f / 7.0f, () -> z.wasted(2));
        Check.refused("never fed", ARITHMETIC, () -> z.wasted(4));
        z.undo();
        z.undo();
        z.undo();
        z.undo();
        z.undo();
        Check.refused("no more fed", ARITHMETIC, () -> z.wasted(2));
    }

    private static void append() {
        Document.about("Promise 27", "any character");
        RecyclingSorter x = new RecyclingSorter();
        char[] letters = {0, '\n', ' ', '0', 'f', 127, 255, 256, 0x660, 0xd800, 0xdfff, 0xffff};
        for (int each = 0; each < letters.length; each++) {
            char letter = letters[each];
            Check.due("the letter " + (int) letter, each + 1, () -> x.append(letter));
        }
        Document.about("Promise 27", "Returns the number of characters in the buffer.");
        for (int length = letters.length + 1; length <= 80; length++) {
            int want = length;
            Check.due("up to 80", want, () -> x.append(';'));
        }
        Check.refused("no 81st", STATE, () -> x.append(';'));
        x.perform();
        Check.due("the first one again", 1, () -> x.append(';'));
        Document.about("Promise 27", "if the buffer already holds 80 characters");
        RecyclingSorter y = new RecyclingSorter();
        Sorters.put(y, "f0=1;".repeat(15) + "f0=12");
        Check.refused("full", STATE, () -> y.append('3'));
        Check.due("what was refused is not in it", 16, y::perform);
        Check.due("twelve kilos the last time", 27L, () -> y.account(0));
    }

    private static void perform() {
        Document.about("Promise 28", "The buffer is empty afterwards, also after an error or an exception.");
        for (String text : new String[] {"", "r1", "r", "r1x", "s99", "f5=1", "s1"}) {
            RecyclingSorter x = after(Sorters::busy, RecyclingSorter::perform).get();
            Sorters.put(x, text);
            Check.answerOf(x::perform);
            Check.due("after '" + text + "'", 1, () -> x.append('r'));
            Check.due("the old text is no part of the next one", -101, x::perform);
        }
        Document.about("Promise 28", "Returns the number of commands; -100 minus the error position after a syntax"
                + " error.");
        for (int commands = 1; commands <= 27; commands++) {
            RecyclingSorter x = Sorters.perfect();
            String text = "r1;".repeat(commands - 1) + "r1";
            int want = commands;
            Check.due("commands", want, () -> Sorters.perform(x, text));
            String early = "r1;".repeat(commands - 1);
            Check.due("error position", -100 - early.length(), () -> Sorters.perform(x, early));
        }
        Document.about("Promise 28", "carries them out in their order, as the methods do, all of them or none");
        Supplier<RecyclingSorter> quiet = after(Sorters::busy, RecyclingSorter::perform);
        Check.same("as the methods do", Trace.ofPlant(after(quiet, x -> x.feed(0, 300), x -> x.run(3),
                x -> x.contract(0, 10, 200, 8), x -> x.sell(2), x -> x.run(200), x -> x.feed(4, 1))),
                Trace.ofPlant(after(quiet, x -> Sorters.perform(x, "f0=300;r3;c0@10*200$8;s2;r200;f4=1"))));
        RecyclingSorter x = Sorters.perfect();
        Check.due("a bale of the text is sold by it", 4, () -> Sorters.perform(x, "f0=50;r1;c0@1000*50$1;s0"));
        Check.refused("a sale ahead of its contract", UNSUPPORTED,
                () -> Sorters.perform(Sorters.withBales(1), "s0;c0@0*50$1"));
        Check.refused("the ninth contract of a text", UNSUPPORTED,
                () -> Sorters.perform(x, "c0@0*1$1;".repeat(7) + "c0@0*1$1"));
        Check.due("none of them", 1L, () -> x.account(11));
        Check.due("the eighth one", 7, () -> Sorters.perform(x, "c0@0*1$1;".repeat(6) + "c0@0*1$1"));
        RecyclingSorter y = Sorters.withFullHopper();
        y.perform();
        Check.refused("a full hopper", UNSUPPORTED, () -> Sorters.perform(y, "f0=1"));
        Check.due("room by a pass", 2, () -> Sorters.perform(y, "r1;f0=1"));
    }

    private static void undo() {
        Document.about("Promise 29", "The 8 latest changes are kept; older ones are gone for good.");
        for (int changes = 0; changes <= 20; changes++) {
            RecyclingSorter x = new RecyclingSorter();
            for (int change = 1; change <= changes; change++) {
                x.seed(change + 1);
            }
            int kept = Math.min(changes, 8);
            for (int left = kept - 1; left >= 0; left--) {
                int want = left;
                long z = changes - kept + left + 1;
                Check.due("of " + changes, want, x::undo);
                Check.due("z of " + changes, z, () -> x.account(15));
            }
            Check.refused("no more of " + changes, STATE, x::undo);
            Check.due("a new one", changes - kept + 1, () -> x.seed(99));
            Check.due("is the only one", 0, x::undo);
        }
        Document.about("Promise 29", "Takes back the latest change that was not taken back");
        RecyclingSorter x = new RecyclingSorter();
        for (int z = 2; z <= 9; z++) {
            x.seed(z);
        }
        Check.due("the latest", 7, x::undo);
        Check.due("the one ahead", 6, x::undo);
        x.seed(100);
        Check.due("the new one", 6, x::undo);
        Check.due("as ahead of both", 7L, () -> x.account(15));
        Check.due("the next one", 5, x::undo);
        Check.due("as ahead of it", 6L, () -> x.account(15));
        Document.about("Promise 29", "The input buffer and the report stay.");
        RecyclingSorter y = Sorters.busy();
        y.undo();
        Check.due("the report", 1, () -> y.report(1, true));
        Check.due("the buffer", 5, () -> y.append('9'));
        Check.refused("its text", UNSUPPORTED, y::perform);
    }

    /** After a change and an undo all is as it was, with one change fewer than before if there were eight. */
    private static void takenBack(String what, Use call) {
        Supplier<RecyclingSorter> make = after(Sorters::busy, x -> x.save(), x -> x.restore(), x -> x.seed(3));
        RecyclingSorter x = make.get();
        Check.due(what + " succeeds", true, () -> call.of(x) != null);
        Check.due(what + " is one change", 1, x::undo);
        Check.due(what + " and the one ahead", 0, x::undo);
        Check.same(what + " is taken back", Trace.of(make), Trace.of(after(make, call, RecyclingSorter::undo)));
    }

    private static void undoOfEach() {
        Document.about("Promise 29", "a successful call of addMachine, removeMachine, exchange, setMachine, set, seed,"
                + " feed, run, contract, sell, sellAll or perform");
        takenBack("addMachine", x -> x.addMachine(4, 10, 0, 1, 0));
        takenBack("removeMachine", RecyclingSorter::removeMachine);
        takenBack("exchange", x -> x.exchange(0, 1));
        takenBack("setMachine", x -> x.setMachine(1, 4, 9));
        takenBack("set", x -> x.set(3, 50));
        takenBack("seed", x -> x.seed(Integer.MIN_VALUE));
        takenBack("feed", x -> x.feed(4, 999));
        takenBack("run", x -> x.run(2));
        takenBack("contract", x -> x.contract(4, 1, 1, 1));
        takenBack("sell", x -> x.sell(0));
        takenBack("sellAll", RecyclingSorter::sellAll);
        Supplier<RecyclingSorter> quiet = after(Sorters::busy, RecyclingSorter::perform);
        Check.same("perform is taken back", Trace.ofPlant(quiet), Trace.ofPlant(after(quiet,
                x -> Sorters.perform(x, "f0=99;r9;c0@0*99$99;s0;s2"), RecyclingSorter::undo)));
        Document.about("Promise 29", "also if nothing is different then");
        takenBack("exchange of the same", x -> x.exchange(1, 1));
        takenBack("setMachine to the same", x -> x.setMachine(0, 0, x.machine(0, 0)));
        takenBack("set to the same", x -> x.set(0, 120));
        takenBack("seed with the same", x -> x.seed(3));
        RecyclingSorter x = Sorters.perfect();
        x.set(2, 50);
        Check.due("no pass", 0, () -> x.run(200));
        Check.due("no sale", 0, x::sellAll);
        Check.due("a text without a pass", 1, () -> Sorters.perform(x, "r1"));
        for (int left = 4; left >= 0; left--) {
            int want = left;
            Check.due("each is a change", want, x::undo);
        }
    }

    private static void save() {
        Document.about("Promise 30", "Saves everything except the input buffer, the report and the changes");
        Supplier<RecyclingSorter> other = after(Sorters::withFullRow, RecyclingSorter::save, x -> x.set(2, 200),
                x -> x.set(3, 1), x -> x.set(4, 0), x -> x.exchange(0, 5), x -> x.feed(0, 500), x -> x.run(3),
                x -> x.contract(0, 0, 999, 5), RecyclingSorter::sellAll, RecyclingSorter::removeMachine,
                x -> x.setMachine(0, 0, 4), RecyclingSorter::restore);
        Check.same("all is back", Trace.ofPlant(Sorters::withFullRow), Trace.ofPlant(other));
        RecyclingSorter buffer = after(Sorters::busy, RecyclingSorter::save, RecyclingSorter::perform,
                RecyclingSorter::restore).get();
        Check.due("the buffer is not saved", 1, () -> buffer.append('r'));
        RecyclingSorter report = after(Sorters::busy, RecyclingSorter::save, x -> x.sell(3),
                RecyclingSorter::restore).get();
        Check.due("nor is the report", 3, () -> report.report(0, false));
        Document.about("Promise 30", "in place of what was saved before");
        RecyclingSorter x = new RecyclingSorter();
        x.seed(7);
        x.save();
        x.seed(8);
        x.save();
        x.seed(9);
        x.restore();
        Check.due("the later one", 8L, () -> x.account(15));
        Document.about("Promise 30", "Returns the number of bales that were made.");
        Check.due("none", 0, () -> new RecyclingSorter().save());
        Check.due("sold and looped ones too", 5, () -> Sorters.busy().save());
        RecyclingSorter y = Sorters.perfect();
        y.set(0, 500);
        y.set(2, 10);
        y.feed(0, 999);
        y.run(2);
        Check.due("all that there can be", 60, y::save);
        y.undo();
        y.undo();
        Check.due("and again", 60, y::restore);
    }

    private static void restore() {
        Document.about("Promise 31", "Restores what was saved, which stays saved");
        RecyclingSorter x = new RecyclingSorter();
        x.save();
        for (int time = 1; time <= 3; time++) {
            int kilos = time;
            Check.due("fed", kilos, () -> x.feed(2, kilos));
            Check.due("restored", 0, x::restore);
            Check.due("as it was saved", 0L, () -> x.account(2));
        }
        Document.about("Promise 31", "No change can be taken back afterwards.");
        x.feed(2, 1);
        x.undo();
        x.restore();
        Check.refused("none", STATE, x::undo);
        x.feed(2, 1);
        Check.due("but later ones", 0, x::undo);
        Check.refused("and no more", STATE, x::undo);
        RecyclingSorter full = Sorters.busy();
        full.restore();
        for (int change = 0; change < 9; change++) {
            full.seed(change);
        }
        Check.due("eight again", 7, full::undo);
        Document.about("Promise 31", "the input buffer and the report stay");
        RecyclingSorter y = Sorters.busy();
        y.restore();
        Check.due("the report", 1, () -> y.report(1, true));
        Check.due("the buffer", 5, () -> y.append('9'));
        Document.about("Promise 31", "Returns the number of bales that were made.");
        Check.due("as many as were saved", 4, () -> Sorters.busy().restore());
        RecyclingSorter z = Sorters.busy();
        z.undo();
        z.undo();
        Check.due("an undo leaves the snapshot", 4, z::restore);
    }

    private static void onlyLooking() {
        Document.about("Promise 29", "Takes back the latest change that was not taken back: a successful call of");
        Supplier<RecyclingSorter> looked = after(Sorters::busy, x -> x.machine(0, 5), x -> x.rate(1, 300, true),
                RecyclingSorter::isSettled, RecyclingSorter::settlesAfter, x -> x.kilos(HOPPER, ALL), x -> x.bale(0, 7),
                x -> x.ordered(1), x -> x.stock(0, 3), x -> x.contractOf(0, 2), x -> x.wouldSell(0),
                x -> x.report(0, true), x -> x.account(6), RecyclingSorter::purity, x -> x.wasted(0));
        Check.same("looking is no change", Trace.of(Sorters::busy), Trace.of(looked));
        RecyclingSorter x = new RecyclingSorter();
        x.append('r');
        x.save();
        Check.due("an error", -101, x::perform);
        Check.refused("letters, errors and snapshots are no changes", STATE, x::undo);
    }
}
