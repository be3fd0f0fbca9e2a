import java.util.NoSuchElementException;
import java.util.function.Supplier;

/**
 * Each exception that the document names: the least and the greatest number that is allowed, those next to them and
 * the ends of int that are not, and that all that can be seen stays as it was.
 */
public final class RefusalsTest {
    private static final Class<IndexOutOfBoundsException> INDEX = IndexOutOfBoundsException.class;
    private static final Class<IllegalArgumentException> ARGUMENT = IllegalArgumentException.class;
    private static final Class<IllegalStateException> STATE = IllegalStateException.class;
    private static final Class<NoSuchElementException> ELEMENT = NoSuchElementException.class;
    private static final Class<UnsupportedOperationException> UNSUPPORTED = UnsupportedOperationException.class;
    private static final Class<ArithmeticException> ARITHMETIC = ArithmeticException.class;
    private static final String NO_MATERIAL = "Throws `IndexOutOfBoundsException` if there is no such material";
    private static final String NO_MACHINE = "Throws `IndexOutOfBoundsException` if there is no such machine";
    private static final String NO_BALE = "Throws `IndexOutOfBoundsException` if there is no such bale";
    private static final String NO_MACHINES = "Throws `IllegalStateException` if there are no machines";
    private static final String WRONG_WHAT = "Throws `IllegalArgumentException` if what is out of range";
    private static final String WRONG_NUMBER = "Throws `IllegalArgumentException` if another number is out of range";

    /** A call on a sorter. */
    private interface Use {
        Object of(RecyclingSorter x);
    }

    /** A call on a sorter with the number that is tried. */
    private interface Try {
        Object of(RecyclingSorter x, int number);
    }

    public static void main(String[] args) {
        machines();
        settings();
        kilosAndPasses();
        bales();
        contracts();
        sales();
        accounts();
        commands();
        Document.needEachRefusalQuoted();
        firstNamed();
        Check.end();
    }

    private static Supplier<RecyclingSorter> after(Supplier<RecyclingSorter> make, Use call) {
        return () -> {
            RecyclingSorter x = make.get();
            Check.answerOf(() -> call.of(x));
            return x;
        };
    }

    private static void refused(Class<? extends RuntimeException> want, Supplier<RecyclingSorter> make, Use call) {
        refused("", want, make, call);
    }

    private static void refused(String what, Class<? extends RuntimeException> want, Supplier<RecyclingSorter> make,
            Use call) {
        RecyclingSorter x = make.get();
        Check.refused(what, want, () -> call.of(x));
        Check.same(what + " left alone", Trace.of(make), Trace.of(after(make, call)));
    }

    /** Refused with a report, which is the only thing that is different then. */
    private static void refusedSale(String what, Supplier<RecyclingSorter> make, Use call) {
        RecyclingSorter x = make.get();
        Check.refused(what, UNSUPPORTED, () -> call.of(x));
        Check.same(what + " left alone but for the report", Trace.withoutReport(make),
                Trace.withoutReport(after(make, call)));
    }

    private static void allowed(Supplier<RecyclingSorter> make, Try call, int... numbers) {
        for (int number : numbers) {
            RecyclingSorter x = make.get();
            Check.due(number + " is allowed", true, () -> call.of(x, number) != null);
        }
    }

    private static void refused(Class<? extends RuntimeException> want, Supplier<RecyclingSorter> make, Try call,
            int... numbers) {
        for (int number : numbers) {
            refused("with " + number, want, make, x -> call.of(x, number));
        }
    }

    private static void range(int least, int most, Class<? extends RuntimeException> want,
            Supplier<RecyclingSorter> make, Try call) {
        allowed(make, call, least, most);
        refused(want, make, call, least - 1, most + 1, Integer.MIN_VALUE, Integer.MAX_VALUE);
    }

    private static void machines() {
        Document.about("Promise 2", NO_MATERIAL);
        range(0, 4, INDEX, Sorters::busy, (x, target) -> x.addMachine(target, 10, 0, 1, 0));
        Document.about("Promise 2", WRONG_NUMBER);
        range(10, 100, ARGUMENT, Sorters::busy, (x, base) -> x.addMachine(0, base, 0, 1, 0));
        range(0, 90, ARGUMENT, Sorters::busy, (x, error) -> x.addMachine(0, 10, error, 1, 0));
        range(1, 500, ARGUMENT, Sorters::busy, (x, capacity) -> x.addMachine(0, 10, 0, capacity, 0));
        range(0, 9, ARGUMENT, Sorters::busy, (x, loss) -> x.addMachine(0, 10, 0, 1, loss));
        Document.about("Promise 2", "Throws `IllegalStateException` if there are 6 machines");
        refused(STATE, Sorters::withFullRow, x -> x.addMachine(0, 10, 0, 1, 0));
        RecyclingSorter full = Sorters.withFullRow();
        full.removeMachine();
        Check.due("the sixth", 5, () -> full.addMachine(0, 10, 0, 1, 0));

        Document.about("Promise 3", "Throws `NoSuchElementException` if there are no machines");
        refused(ELEMENT, RecyclingSorter::new, RecyclingSorter::removeMachine);
        refused(ELEMENT, RefusalsTest::emptied, RecyclingSorter::removeMachine);

        Document.about("Promise 4", NO_MACHINE);
        range(0, 5, INDEX, Sorters::withFullRow, (x, one) -> x.exchange(one, 0));
        range(0, 5, INDEX, Sorters::withFullRow, (x, other) -> x.exchange(0, other));
        range(0, 1, INDEX, Sorters::busy, (x, both) -> x.exchange(both, both));
        refused(INDEX, RecyclingSorter::new, x -> x.exchange(0, 0));
        settingsOfMachines();
    }

    /** Machines have been there, but none is any more. */
    private static RecyclingSorter emptied() {
        RecyclingSorter x = Sorters.busy();
        x.removeMachine();
        x.removeMachine();
        return x;
    }

    private static void settingsOfMachines() {
        Document.about("Promise 5", NO_MACHINE);
        range(0, 5, INDEX, Sorters::withFullRow, (x, machine) -> x.setMachine(machine, 1, 50));
        range(0, 1, INDEX, Sorters::busy, (x, machine) -> x.setMachine(machine, 1, 50));
        refused(INDEX, RecyclingSorter::new, x -> x.setMachine(0, 1, 50));
        Document.about("Promise 5", "Throws `IllegalArgumentException` if what or the number is out of range");
        // 4 is allowed for the target, the error, the capacity and the loss.
        range(0, 4, ARGUMENT, Sorters::busy, (x, what) -> x.setMachine(0, what, 4));
        range(0, 4, ARGUMENT, Sorters::busy, (x, target) -> x.setMachine(1, 0, target));
        range(10, 100, ARGUMENT, Sorters::busy, (x, base) -> x.setMachine(1, 1, base));
        range(0, 90, ARGUMENT, Sorters::busy, (x, error) -> x.setMachine(1, 2, error));
        range(1, 500, ARGUMENT, Sorters::busy, (x, capacity) -> x.setMachine(1, 3, capacity));
        range(0, 9, ARGUMENT, Sorters::busy, (x, loss) -> x.setMachine(1, 4, loss));

        Document.about("Promise 6", NO_MACHINE);
        range(0, 5, INDEX, Sorters::withFullRow, (x, machine) -> x.machine(machine, 6));
        range(0, 1, INDEX, Sorters::busy, (x, machine) -> x.machine(machine, 0));
        refused(INDEX, RecyclingSorter::new, x -> x.machine(0, 0));
        Document.about("Promise 6", WRONG_WHAT);
        range(0, 6, ARGUMENT, Sorters::busy, (x, what) -> x.machine(1, what));

        Document.about("Promise 7", NO_MACHINE);
        range(0, 5, INDEX, Sorters::withFullRow, (x, machine) -> x.rate(machine, 0, true));
        range(0, 1, INDEX, Sorters::busy, (x, machine) -> x.rate(machine, 9999, false));
        refused(INDEX, RecyclingSorter::new, x -> x.rate(0, 0, false));
        Document.about("Promise 7", "Throws `IllegalArgumentException` if the flow is out of range");
        range(0, 9999, ARGUMENT, Sorters::busy, (x, flow) -> x.rate(1, flow, false));
        range(0, 9999, ARGUMENT, Sorters::busy, (x, flow) -> x.rate(1, flow, true));
    }

    private static void settings() {
        Document.about("Promise 8", "Throws `IndexOutOfBoundsException` if there is no such setting");
        // 10 is allowed for the bale size, 1 for the others.
        range(0, 4, INDEX, Sorters::busy, (x, what) -> x.set(what, what == 2 ? 10 : 1));
        Document.about("Promise 8", "Throws `IllegalArgumentException` if the number is out of range");
        range(1, 500, ARGUMENT, Sorters::busy, (x, throughput) -> x.set(0, throughput));
        range(0, 100, ARGUMENT, Sorters::busy, (x, loop) -> x.set(1, loop));
        range(10, 200, ARGUMENT, Sorters::busy, (x, size) -> x.set(2, size));
        range(1, 50, ARGUMENT, Sorters::busy, (x, sample) -> x.set(3, sample));
        range(0, 1, ARGUMENT, Sorters::busy, (x, looping) -> x.set(4, looping));
    }

    private static void kilosAndPasses() {
        Document.about("Promise 10", NO_MATERIAL);
        range(0, 4, INDEX, Sorters::busy, (x, material) -> x.feed(material, 1));
        Document.about("Promise 10", "Throws `IllegalArgumentException` if the kilos are out of range");
        range(1, 999, ARGUMENT, Sorters::busy, (x, kilos) -> x.feed(0, kilos));
        Document.about("Promise 10", "Throws `IllegalStateException` if the hopper would have more than 9999 kilos");
        refused(STATE, Sorters::withFullHopper, x -> x.feed(0, 1));
        refused(STATE, Sorters::withFullHopper, x -> x.feed(4, 999));

        Document.about("Promise 11", "Throws `IllegalArgumentException` if the limit is out of range");
        range(1, 200, ARGUMENT, Sorters::busy, (x, limit) -> x.run(limit));
        Document.about("Promise 11", NO_MACHINES);
        refused(STATE, RecyclingSorter::new, x -> x.run(1));
        refused(STATE, RefusalsTest::emptied, x -> x.run(200));
        Document.about("Promise 12", NO_MACHINES);
        refused(STATE, RecyclingSorter::new, RecyclingSorter::isSettled);
        refused(STATE, RefusalsTest::emptied, RecyclingSorter::isSettled);
        Document.about("Promise 13", NO_MACHINES);
        refused(STATE, RecyclingSorter::new, RecyclingSorter::settlesAfter);
        refused(STATE, RefusalsTest::emptied, RecyclingSorter::settlesAfter);
        Document.about("Promise 13", "Throws `NoSuchElementException` if it has not settled after 300 passes");
        Check.due("after just 300", 300, () -> slow(300).settlesAfter());
        refused(ELEMENT, () -> slow(301), RecyclingSorter::settlesAfter);
        refused(ELEMENT, () -> slow(999), RecyclingSorter::settlesAfter);

        Document.about("Promise 14", "Throws `IllegalArgumentException` if there is no such place");
        Try all = (x, place) -> x.kilos(place, -1);
        allowed(Sorters::busy, all, 0, 1, 10, 11);
        refused(ARGUMENT, Sorters::busy, all, -1, 2, 5, 6, 7, 8, 9, 12, Integer.MIN_VALUE, Integer.MAX_VALUE);
        allowed(Sorters::withFullRow, all, 0, 5, 10, 11);
        refused(ARGUMENT, Sorters::withFullRow, all, -1, 6, 9, 12);
        allowed(RecyclingSorter::new, all, 10, 11);
        refused(ARGUMENT, RecyclingSorter::new, all, 0, 9, 12);
        Document.about("Promise 14", NO_MATERIAL);
        for (int place : new int[] {0, 10, 11}) {
            range(-1, 4, INDEX, Sorters::busy, (x, material) -> x.kilos(place, material));
        }
    }

    /** Settles after as many passes, since each of them takes one kilo. */
    private static RecyclingSorter slow(int kilos) {
        RecyclingSorter x = Sorters.perfect();
        x.set(0, 1);
        x.feed(0, kilos);
        return x;
    }

    /** Has as many bales as there can be, and kilos for more. */
    private static RecyclingSorter withAllBales() {
        RecyclingSorter x = Sorters.perfect();
        x.set(0, 500);
        x.set(2, 10);
        x.feed(0, 630);
        x.run(2);
        return x;
    }

    private static void bales() {
        Document.about("Promise 15", NO_BALE);
        range(0, 4, INDEX, Sorters::busy, (x, bale) -> x.bale(bale, 0));
        range(0, 59, INDEX, RefusalsTest::withAllBales, (x, bale) -> x.bale(bale, 11));
        refused(INDEX, RecyclingSorter::new, x -> x.bale(0, 0));
        Document.about("Promise 15", WRONG_WHAT);
        range(0, 11, ARGUMENT, Sorters::busy, (x, what) -> x.bale(3, what));

        Document.about("Promise 16", "Throws `NoSuchElementException` if there is no such place");
        range(0, 1, ELEMENT, Sorters::busy, (x, place) -> x.ordered(place));
        range(0, 59, ELEMENT, RefusalsTest::withAllBales, (x, place) -> x.ordered(place));
        refused(ELEMENT, RecyclingSorter::new, x -> x.ordered(0));
        Document.about("Promise 17", NO_MATERIAL);
        range(0, 4, INDEX, Sorters::busy, (x, material) -> x.stock(material, 0));
        Document.about("Promise 17", "Throws `IllegalArgumentException` if the grade is out of range");
        range(0, 3, ARGUMENT, Sorters::busy, (x, grade) -> x.stock(0, grade));
    }

    private static void contracts() {
        Document.about("Promise 18", NO_MATERIAL);
        range(0, 4, INDEX, Sorters::busy, (x, material) -> x.contract(material, 0, 1, 1));
        Document.about("Promise 18", WRONG_NUMBER);
        range(0, 1000, ARGUMENT, Sorters::busy, (x, floor) -> x.contract(0, floor, 1, 1));
        range(1, 9999, ARGUMENT, Sorters::busy, (x, kilos) -> x.contract(0, 0, kilos, 1));
        range(1, 99, ARGUMENT, Sorters::busy, (x, price) -> x.contract(0, 0, 1, price));
        Document.about("Promise 18", "Throws `IllegalStateException` if there are 8 contracts");
        refused(STATE, Sorters::withFullContracts, x -> x.contract(0, 0, 1, 1));
        RecyclingSorter full = Sorters.withFullContracts();
        full.undo();
        Check.due("the eighth", 7, () -> full.contract(0, 0, 1, 1));

        Document.about("Promise 19", "Throws `IndexOutOfBoundsException` if there is no such contract");
        range(0, 2, INDEX, Sorters::busy, (x, contract) -> x.contractOf(contract, 0));
        range(0, 7, INDEX, Sorters::withFullContracts, (x, contract) -> x.contractOf(contract, 4));
        refused(INDEX, RecyclingSorter::new, x -> x.contractOf(0, 0));
        Document.about("Promise 19", WRONG_WHAT);
        range(0, 4, ARGUMENT, Sorters::busy, (x, what) -> x.contractOf(2, what));
    }

    /** Has four bales in stock that a contract takes. */
    private static RecyclingSorter withBuyer() {
        RecyclingSorter x = Sorters.withBales(4);
        x.contract(0, 0, 9999, 1);
        return x;
    }

    private static void sales() {
        Document.about("Promise 20", NO_BALE);
        range(0, 3, INDEX, RefusalsTest::withBuyer, (x, bale) -> x.sell(bale));
        refused(INDEX, RecyclingSorter::new, x -> x.sell(0));
        refused(INDEX, RefusalsTest::withAllBales, x -> x.sell(60));
        Document.about("Promise 20", "Throws `UnsupportedOperationException` if it is refused; this leaves a report");
        Use again = x -> x.sell(1);
        refusedSale("a sold one", Sorters::busy, again);
        refusedSale("a looped one", Sorters::busy, x -> x.sell(3));
        refusedSale("no contract", RefusalsTest::withAllBales, x -> x.sell(59));
        Supplier<RecyclingSorter> choosy = after(() -> Sorters.withBales(0), x -> {
            Sorters.mixedBale(x, 38);
            return x.contract(0, 1, 9999, 1);
        });
        refusedSale("not pure enough", choosy, x -> x.sell(0));
        refusedSale("not wanted", after(RefusalsTest::withAllBales, x -> x.contract(0, 0, 9, 1)), x -> x.sell(0));
        RecyclingSorter x = after(Sorters::busy, again).get();
        Check.due("the report", 1, () -> x.report(0, false));

        Document.about("Promise 22", NO_BALE);
        range(0, 3, INDEX, RefusalsTest::withBuyer, (y, bale) -> y.wouldSell(bale));
        refused(INDEX, RecyclingSorter::new, y -> y.wouldSell(0));
        refused(INDEX, RefusalsTest::withAllBales, y -> y.wouldSell(60));
        Document.about("Promise 22", "Throws `NoSuchElementException` if it would be refused");
        refused("a sold one", ELEMENT, Sorters::busy, y -> y.wouldSell(1));
        refused("a looped one", ELEMENT, Sorters::busy, y -> y.wouldSell(3));
        refused("no contract", ELEMENT, RefusalsTest::withAllBales, y -> y.wouldSell(59));
        refused("not pure enough", ELEMENT, choosy, y -> y.wouldSell(0));
        refused("not wanted", ELEMENT, after(RefusalsTest::withAllBales, y -> y.contract(0, 0, 9, 1)),
                y -> y.wouldSell(0));

        Document.about("Promise 23", "Throws `NoSuchElementException` if there is no such level, or no report");
        for (boolean isDetail : new boolean[] {false, true}) {
            range(0, 1, ELEMENT, Sorters::busy, (y, level) -> y.report(level, isDetail));
            Supplier<RecyclingSorter> told = after(RefusalsTest::withAllBales, y -> Sorters.perform(y, "s0"));
            range(0, 2, ELEMENT, told, (y, level) -> y.report(level, isDetail));
            refused(ELEMENT, RecyclingSorter::new, (y, level) -> y.report(level, isDetail), 0, 1, 2);
            refused(ELEMENT, RefusalsTest::withBuyer, (y, level) -> y.report(level, isDetail), 0, 1, 2);
        }
    }

    private static void accounts() {
        Document.about("Promise 24", WRONG_WHAT);
        range(0, 15, ARGUMENT, Sorters::busy, (x, what) -> x.account(what));
        range(0, 15, ARGUMENT, RecyclingSorter::new, (x, what) -> x.account(what));
        Document.about("Promise 25", "Throws `ArithmeticException` if there are no such bales");
        refused("none", ARITHMETIC, RecyclingSorter::new, RecyclingSorter::purity);
        refused("none made yet", ARITHMETIC, Sorters::perfect, RecyclingSorter::purity);
        refused("only looped ones", ARITHMETIC, RefusalsTest::looped, RecyclingSorter::purity);
        Document.about("Promise 26", NO_MATERIAL);
        Supplier<RecyclingSorter> fed = after(after(Sorters::perfect, x -> x.feed(0, 1)), x -> x.feed(4, 1));
        range(0, 4, INDEX, fed, (x, material) -> x.wasted(material));
        Document.about("Promise 26", "Throws `ArithmeticException` if none of it was fed");
        refused(ARITHMETIC, fed, (x, material) -> x.wasted(material), 1, 2, 3);
        refused(ARITHMETIC, RecyclingSorter::new, (x, material) -> x.wasted(material), 0, 1, 2, 3, 4);
    }

    private static RecyclingSorter looped() {
        RecyclingSorter x = Sorters.perfect();
        x.set(4, 1);
        Sorters.mixedBale(x, 38);
        return x;
    }

    private static void commands() {
        Document.about("Promise 27", "Throws `IllegalStateException` if the buffer already holds 80 characters");
        refused(STATE, Sorters::withFullBuffer, (x, letter) -> x.append((char) letter), 0, '1', ';', 65535);
        Document.about("Promise 28", "Throws `UnsupportedOperationException` if the text is correct, and one of the"
                + " methods throws an exception; if that was a sale that is refused, this leaves a report");
        String[] texts = {"f5=1", "f9=1", "f0=0", "f0=1000", "f0=9999", "r0", "r201", "r9999", "c5@0*1$1",
            "c9@0*1$1", "c0@1001*1$1", "c0@0*0$1", "c0@0*1$0", "c0@0*1$100", "s59", "s9999"};
        for (String text : texts) {
            refusedText(text, Sorters::busy, Trace::of);
            refusedText("f4=1;r1;" + text, Sorters::busy, Trace::of);
            refusedText(text + ";f0=1", Sorters::busy, Trace::of);
        }
        refusedText("s5", Sorters::busy, Trace::of);
        refusedText("f0=1", Sorters::withFullHopper, Trace::of);
        refusedText("c0@0*1$1", Sorters::withFullContracts, Trace::of);
        refusedText("r1", RefusalsTest::emptied, Trace::of);
        refusedText("s1", Sorters::busy, Trace::withoutReport);
        refusedText("f4=1;r1;c0@0*50$99;s0;s0;s2", Sorters::busy, Trace::withoutReport);

        Document.about("Promise 29", "Throws `IllegalStateException` if there is none");
        refused(STATE, RecyclingSorter::new, RecyclingSorter::undo);
        refused(STATE, after(Sorters::busy, RecyclingSorter::restore), RecyclingSorter::undo);
        Supplier<RecyclingSorter> used = Sorters::busy;
        for (int change = 0; change < 8; change++) {
            used = after(used, RecyclingSorter::undo);
        }
        refused(STATE, used, RecyclingSorter::undo);
        Document.about("Promise 31", "Throws `IllegalStateException` if nothing was saved");
        refused(STATE, RecyclingSorter::new, RecyclingSorter::restore);
        refused(STATE, RefusalsTest::withAllBales, RecyclingSorter::restore);
    }

    private interface Seen {
        String of(Supplier<RecyclingSorter> make);
    }

    /** The text is refused and leaves nothing behind: the buffer is empty, and no command of it is carried out. */
    private static void refusedText(String text, Supplier<RecyclingSorter> busy, Seen seen) {
        Supplier<RecyclingSorter> make = after(busy, RecyclingSorter::perform);
        Use call = x -> Sorters.perform(x, text);
        RecyclingSorter x = make.get();
        Check.refused(text, UNSUPPORTED, () -> call.of(x));
        Check.same(text + " left alone", seen.of(make), seen.of(after(make, call)));
    }

    private static void firstNamed() {
        Document.about("Terms", "If several exceptions apply, the one named first is thrown.");
        Supplier<RecyclingSorter> row = Sorters::withFullRow;
        Supplier<RecyclingSorter> deals = Sorters::withFullContracts;
        refused("addMachine 1", INDEX, row, x -> x.addMachine(5, 9, 91, 0, 10));
        refused("addMachine 2", INDEX, row, x -> x.addMachine(-1, 10, 0, 1, 0));
        refused("addMachine 3", ARGUMENT, row, x -> x.addMachine(0, 10, 0, 1, 10));
        refused("exchange", INDEX, row, x -> x.exchange(6, -1));
        refused("setMachine 1", INDEX, row, x -> x.setMachine(6, 5, 0));
        refused("setMachine 2", INDEX, row, x -> x.setMachine(-1, 0, 5));
        refused("machine", INDEX, row, x -> x.machine(6, 7));
        refused("rate", INDEX, row, x -> x.rate(6, 10000, false));
        refused("set", INDEX, row, x -> x.set(5, Integer.MIN_VALUE));
        refused("feed 1", INDEX, Sorters::withFullHopper, x -> x.feed(5, 0));
        refused("feed 2", INDEX, Sorters::withFullHopper, x -> x.feed(-1, 1));
        refused("feed 3", ARGUMENT, Sorters::withFullHopper, x -> x.feed(0, 1000));
        refused("run", ARGUMENT, RecyclingSorter::new, x -> x.run(0));
        refused("run", ARGUMENT, RefusalsTest::emptied, x -> x.run(201));
        refused("bale", INDEX, row, x -> x.bale(5, 12));
        refused("stock", INDEX, row, x -> x.stock(5, 4));
        refused("contract 1", INDEX, deals, x -> x.contract(5, -1, 0, 0));
        refused("contract 2", INDEX, deals, x -> x.contract(-1, 0, 1, 1));
        refused("contract 3", ARGUMENT, deals, x -> x.contract(0, 0, 1, 100));
        refused("contractOf", INDEX, deals, x -> x.contractOf(8, 5));
        refused("wasted", INDEX, RecyclingSorter::new, x -> x.wasted(5));
        Document.about("Terms", "A place that does not exist is told ahead of a material that does not.");
        refused("kilos 1", ARGUMENT, row, x -> x.kilos(6, 5));
        refused("kilos 2", ARGUMENT, row, x -> x.kilos(12, -2));
    }
}
