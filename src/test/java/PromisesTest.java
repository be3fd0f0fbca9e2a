import java.util.NoSuchElementException;

/** One method a promise: ordinary inputs, the edges that the document names, and wrong inputs. */
public final class PromisesTest {
    private static final Class<IndexOutOfBoundsException> INDEX = IndexOutOfBoundsException.class;
    private static final Class<IllegalArgumentException> ARGUMENT = IllegalArgumentException.class;
    private static final Class<IllegalStateException> STATE = IllegalStateException.class;
    private static final Class<NoSuchElementException> ELEMENT = NoSuchElementException.class;
    private static final Class<UnsupportedOperationException> UNSUPPORTED = UnsupportedOperationException.class;
    private static final Class<ArithmeticException> ARITHMETIC = ArithmeticException.class;

    public static void main(String[] args) {
        newObject();
        addMachine();
        removeMachine();
        exchange();
        setMachine();
        machine();
        rate();
        set();
        seed();
        feed();
        runInProportion();
        runThroughMachines();
        runMakesBales();
        runLoopsBales();
        runStops();
        isSettled();
        settlesAfter();
        kilos();
        bale();
        ordered();
        stock();
        contract();
        contractOf();
        sell();
        sellRefused();
        sellAll();
        wouldSell();
        report();
        account();
        purity();
        wasted();
        append();
        perform();
        performRefused();
        performErrors();
        undo();
        save();
        restore();
        Check.end();
    }

    private static void newObject() {
        RecyclingSorter x = new RecyclingSorter();
        for (int what = 0; what <= 14; what++) {
            int account = what;
            Check.due("1 account " + what, 0L, () -> x.account(account));
        }
        Check.due("1 z", 1L, () -> x.account(15));
        Check.refused("1 no machine", INDEX, () -> x.machine(0, 0));
        Check.refused("1 no bale", INDEX, () -> x.bale(0, 0));
        Check.refused("1 no contract", INDEX, () -> x.contractOf(0, 0));
        Check.due("1 throughput", 100, () -> x.set(0, 1));
        Check.due("1 loop", 50, () -> x.set(1, 0));
        Check.due("1 bale size", 50, () -> x.set(2, 10));
        Check.due("1 sample", 10, () -> x.set(3, 1));
        Check.due("1 looping", 0, () -> x.set(4, 0));
    }

    private static void addMachine() {
        RecyclingSorter x = new RecyclingSorter();
        Check.refused("2 target -1", INDEX, () -> x.addMachine(-1, 9, 0, 1, 0));
        Check.refused("2 target 5", INDEX, () -> x.addMachine(5, 50, 0, 1, 0));
        int[][] wrong = {{9, 0, 1, 0}, {101, 0, 1, 0}, {10, -1, 1, 0}, {10, 91, 1, 0}, {10, 0, 0, 0}, {10, 0, 501, 0},
            {10, 0, 1, -1}, {10, 0, 1, 10}};
        for (int[] one : wrong) {
            Check.refused("2 out of range", ARGUMENT, () -> x.addMachine(0, one[0], one[1], one[2], one[3]));
        }
        Check.due("2 none was added", 0L, () -> x.account(14));
        for (int machine = 0; machine < 6; machine++) {
            boolean isLeast = machine % 2 == 0;
            Check.due("2 number", machine,
                    () -> isLeast ? x.addMachine(0, 10, 0, 1, 0) : x.addMachine(4, 100, 90, 500, 9));
        }
        Check.refused("2 seventh", STATE, () -> x.addMachine(0, 10, 0, 1, 0));
        Check.refused("2 seventh, wrong number", ARGUMENT, () -> x.addMachine(0, 9, 0, 1, 0));
        Check.refused("2 seventh, wrong material", INDEX, () -> x.addMachine(5, 9, 0, 1, 0));
        Check.due("2 bunker", 0, () -> x.kilos(5, -1));
    }

    private static void removeMachine() {
        RecyclingSorter x = Sorters.perfect();
        x.addMachine(1, 100, 0, 500, 0);
        x.feed(0, 20);
        x.feed(1, 30);
        x.run(1);
        Check.due("3 the last one", 30, x::removeMachine);
        Check.due("3 back in the hopper", 30, () -> x.kilos(Sorters.HOPPER, 1));
        Check.due("3 the first one is still there", 20, () -> x.kilos(0, 0));
        Check.due("3 the place is free again", 1, () -> x.addMachine(2, 100, 0, 500, 0));
        Check.due("3 a new bunker is empty", 0, () -> x.kilos(1, -1));
        x.removeMachine();
        Check.due("3 then the first one", 20, x::removeMachine);
        Check.refused("3 no machines", ELEMENT, x::removeMachine);
        Check.due("3 all in the hopper", 50, () -> x.kilos(Sorters.HOPPER, -1));
    }

    private static void exchange() {
        RecyclingSorter x = Sorters.withBales(1);
        for (int target = 1; target < 5; target++) {
            x.addMachine(target, 100, 0, 500, 0);
        }
        x.feed(0, 7);
        x.run(1);
        Check.due("4 far", 3, () -> x.exchange(4, 0));
        Check.due("4 target", 0, () -> x.machine(4, 0));
        Check.due("4 other target", 4, () -> x.machine(0, 0));
        Check.due("4 bunker", 7, () -> x.machine(4, 5));
        Check.due("4 other bunker", 0, () -> x.machine(0, 5));
        Check.due("4 bales", 1, () -> x.machine(4, 6));
        Check.due("4 next", 0, () -> x.exchange(1, 2));
        Check.due("4 same", 0, () -> x.exchange(3, 3));
        Check.due("4 one between", 1, () -> x.exchange(1, 3));
        Check.refused("4 one", INDEX, () -> x.exchange(5, 0));
        Check.refused("4 other", INDEX, () -> x.exchange(0, -1));
        Check.refused("4 both the same", INDEX, () -> x.exchange(5, 5));
    }

    private static void setMachine() {
        RecyclingSorter x = new RecyclingSorter();
        x.addMachine(1, 20, 30, 40, 5);
        int[] first = {1, 20, 30, 40, 5};
        int[] least = {0, 10, 0, 1, 0};
        int[] most = {4, 100, 90, 500, 9};
        for (int number = 0; number < 5; number++) {
            int what = number;
            Check.due("5 to the least", first[what], () -> x.setMachine(0, what, least[what]));
            Check.due("5 to the most", least[what], () -> x.setMachine(0, what, most[what]));
            Check.refused("5 too small", ARGUMENT, () -> x.setMachine(0, what, least[what] - 1));
            Check.refused("5 too great", ARGUMENT, () -> x.setMachine(0, what, most[what] + 1));
            Check.due("5 it stays", most[what], () -> x.machine(0, what));
        }
        Check.refused("5 what 5", ARGUMENT, () -> x.setMachine(0, 5, 0));
        Check.refused("5 what -1", ARGUMENT, () -> x.setMachine(0, -1, 0));
        Check.refused("5 machine and what", INDEX, () -> x.setMachine(1, 5, 0));
        Check.refused("5 machine -1", INDEX, () -> x.setMachine(-1, 0, 0));
        RecyclingSorter y = Sorters.perfect();
        y.feed(0, 40);
        y.run(1);
        y.setMachine(0, 0, 2);
        y.feed(2, 10);
        y.run(1);
        Check.due("5 bales of the bunker have the new target", 2, () -> y.bale(0, 5));
        Check.due("5 with what it had", 40, () -> y.bale(0, 0));
    }

    private static void machine() {
        RecyclingSorter x = Sorters.withBales(2);
        x.feed(0, 11);
        x.run(1);
        int[] want = {0, 100, 0, 500, 0, 11, 2};
        for (int number = 0; number < 7; number++) {
            int what = number;
            Check.due("6 what " + what, want[what], () -> x.machine(0, what));
        }
        Check.refused("6 what 7", ARGUMENT, () -> x.machine(0, 7));
        Check.refused("6 what -1", ARGUMENT, () -> x.machine(0, -1));
        Check.refused("6 machine and what", INDEX, () -> x.machine(1, 7));
        Check.refused("6 machine -1", INDEX, () -> x.machine(-1, 0));
        x.removeMachine();
        x.addMachine(0, 100, 0, 500, 0);
        Check.due("6 bales since it was added", 0, () -> x.machine(0, 6));
    }

    private static void rate() {
        RecyclingSorter x = new RecyclingSorter();
        x.addMachine(0, 90, 5, 100, 3);
        Check.due("7 catch without flow", 90, () -> x.rate(0, 0, false));
        Check.due("7 catch at the capacity", 90, () -> x.rate(0, 100, false));
        Check.due("7 catch a little above", 90, () -> x.rate(0, 109, false));
        Check.due("7 catch by one excess", 87, () -> x.rate(0, 110, false));
        Check.due("7 mistake by one excess", 6, () -> x.rate(0, 110, true));
        Check.due("7 mistake without excess", 5, () -> x.rate(0, 109, true));
        Check.due("7 catch by 26", 12, () -> x.rate(0, 360, false));
        Check.due("7 catch by 27", 10, () -> x.rate(0, 370, false));
        Check.due("7 mistake by 85", 90, () -> x.rate(0, 950, true));
        Check.due("7 mistake by 86", 90, () -> x.rate(0, 960, true));
        Check.due("7 greatest flow", 10, () -> x.rate(0, 9999, false));
        Check.refused("7 flow 10000", ARGUMENT, () -> x.rate(0, 10000, false));
        Check.refused("7 flow -1", ARGUMENT, () -> x.rate(0, -1, true));
        Check.refused("7 machine and flow", INDEX, () -> x.rate(1, -1, true));
    }

    private static void set() {
        RecyclingSorter x = new RecyclingSorter();
        int[] first = {100, 50, 50, 10, 0};
        int[] least = {1, 0, 10, 1, 0};
        int[] most = {500, 100, 200, 50, 1};
        for (int setting = 0; setting < 5; setting++) {
            int what = setting;
            Check.due("8 to the least", first[what], () -> x.set(what, least[what]));
            Check.due("8 to the most", least[what], () -> x.set(what, most[what]));
            Check.refused("8 too small", ARGUMENT, () -> x.set(what, least[what] - 1));
            Check.refused("8 too great", ARGUMENT, () -> x.set(what, most[what] + 1));
            Check.due("8 it stays", most[what], () -> x.set(what, most[what]));
        }
        Check.refused("8 setting 5", INDEX, () -> x.set(5, 0));
        Check.refused("8 setting -1", INDEX, () -> x.set(-1, -1));
    }

    private static void seed() {
        RecyclingSorter x = new RecyclingSorter();
        Check.due("9 at first", 1, () -> x.seed(Integer.MIN_VALUE));
        Check.due("9 then", Integer.MIN_VALUE, () -> x.seed(-1));
        Check.due("9 as an account", -1L, () -> x.account(15));
    }

    private static void feed() {
        RecyclingSorter x = new RecyclingSorter();
        Check.due("10 one kilo", 1, () -> x.feed(4, 1));
        Check.due("10 more of it", 1000, () -> x.feed(4, 999));
        Check.due("10 of another", 7, () -> x.feed(0, 7));
        Check.refused("10 nothing", ARGUMENT, () -> x.feed(0, 0));
        Check.refused("10 1000", ARGUMENT, () -> x.feed(0, 1000));
        Check.refused("10 material 5", INDEX, () -> x.feed(5, 0));
        Check.refused("10 material -1", INDEX, () -> x.feed(-1, 1));
        for (int time = 0; time < 8; time++) {
            x.feed(1, 999);
        }
        x.feed(2, 999);
        Check.refused("10 more than 9999", STATE, () -> x.feed(0, 2));
        Check.refused("10 full and 1000", ARGUMENT, () -> x.feed(0, 1000));
        Check.due("10 just 9999", 8, () -> x.feed(0, 1));
        Check.refused("10 full", STATE, () -> x.feed(0, 1));
        Check.due("10 the rest stays", 9999L, () -> x.account(5));
        RecyclingSorter y = Sorters.withBales(0);
        y.set(2, 200);
        y.feed(0, 100);
        y.run(1);
        for (int time = 0; time < 10; time++) {
            y.feed(1, 999);
        }
        y.removeMachine();
        Check.due("10 the hopper can have more", 10090, () -> y.kilos(Sorters.HOPPER, -1));
        Check.refused("10 but nothing is fed then", STATE, () -> y.feed(0, 1));
    }

    private static void runInProportion() {
        RecyclingSorter x = Sorters.perfect();
        x.set(0, 10);
        x.set(1, 0);
        x.feed(0, 7);
        x.feed(1, 7);
        x.feed(2, 6);
        x.run(1);
        int[] same = {3, 4, 3};
        RecyclingSorter y = Sorters.perfect();
        y.set(0, 3);
        y.set(1, 0);
        y.feed(0, 1);
        y.feed(1, 2);
        y.feed(2, 4);
        y.run(1);
        int[] greatest = {1, 1, 2};
        for (int each = 0; each < 3; each++) {
            int material = each;
            Check.due("11 same remainders", same[material], () -> x.kilos(Sorters.HOPPER, material));
            Check.due("11 greatest remainders", greatest[material], () -> y.kilos(Sorters.HOPPER, material));
        }
        x.set(0, 500);
        Check.due("11 fewer than the throughput", 1, () -> x.run(1));
        Check.due("11 all are taken", 0, () -> x.kilos(Sorters.HOPPER, -1));
    }

    private static void runThroughMachines() {
        RecyclingSorter x = new RecyclingSorter();
        x.addMachine(0, 90, 5, 100, 3);
        x.addMachine(1, 80, 10, 60, 2);
        x.set(0, 200);
        x.set(1, 33);
        x.set(2, 200);
        x.feed(0, 120);
        x.feed(1, 60);
        x.feed(2, 20);
        // The first flow is 200, so the excess is 10, the catch 60 and the mistake 15.
        Check.due("11 one pass", 1, () -> x.run(1));
        Check.due("11 catch", 72, () -> x.kilos(0, 0));
        Check.due("11 mistake", 9, () -> x.kilos(0, 1));
        Check.due("11 other mistake", 3, () -> x.kilos(0, 2));
        // To the second one come 48, 51 and 17, so the excess is 5, the catch 70 and the mistake 15.
        Check.due("11 second mistake", 7, () -> x.kilos(1, 0));
        Check.due("11 second catch", 35, () -> x.kilos(1, 1));
        Check.due("11 second other mistake", 2, () -> x.kilos(1, 2));
        // Behind it are 41, 16 and 15.
        Check.due("11 loop", 13, () -> x.kilos(Sorters.HOPPER, 0));
        Check.due("11 loop of the second", 5, () -> x.kilos(Sorters.HOPPER, 1));
        Check.due("11 loop of the third", 4, () -> x.kilos(Sorters.HOPPER, 2));
        Check.due("11 waste", 28, () -> x.kilos(Sorters.WASTE, 0));
        Check.due("11 waste of the second", 11, () -> x.kilos(Sorters.WASTE, 1));
        Check.due("11 waste of the third", 11, () -> x.kilos(Sorters.WASTE, 2));
    }

    private static void runMakesBales() {
        RecyclingSorter x = Sorters.perfect();
        x.addMachine(1, 100, 0, 500, 0);
        x.set(0, 500);
        x.set(2, 20);
        x.feed(1, 45);
        x.feed(0, 40);
        x.run(1);
        int[] materials = {0, 0, 1, 1};
        for (int each = 0; each < 4; each++) {
            int bale = each;
            Check.due("11 bales by machines", materials[bale], () -> x.bale(bale, 5));
        }
        Check.due("11 bales", 4L, () -> x.account(10));
        Check.due("11 an even bunker", 0, () -> x.machine(0, 5));
        Check.due("11 what is left", 5, () -> x.machine(1, 5));
        RecyclingSorter y = Sorters.perfect();
        y.set(0, 500);
        y.set(2, 10);
        y.feed(0, 620);
        y.run(2);
        Check.due("11 no more than 60 bales", 60L, () -> y.account(10));
        Check.due("11 the bunker keeps the rest", 20, () -> y.machine(0, 5));
    }

    private static void runLoopsBales() {
        RecyclingSorter x = Sorters.perfect();
        x.set(4, 1);
        Sorters.mixedBale(x, 38);
        Check.due("11 looped", 2, () -> x.bale(0, 10));
        Check.due("11 it keeps its numbers", 38, () -> x.bale(0, 0));
        Check.due("11 its kilos are in the hopper", 38, () -> x.kilos(Sorters.HOPPER, 0));
        Check.due("11 those of others too", 12, () -> x.kilos(Sorters.HOPPER, 1));
        Check.due("11 the bunker is empty", 0, () -> x.kilos(0, -1));
        Check.due("11 it counts as made from the bunker", 1, () -> x.machine(0, 6));
        RecyclingSorter y = Sorters.perfect();
        Sorters.mixedBale(y, 38);
        Check.due("11 not looped without looping", 0, () -> y.bale(0, 10));
        RecyclingSorter z = Sorters.perfect();
        z.set(4, 1);
        Sorters.mixedBale(z, 39);
        Check.due("11 a better grade is not looped", 0, () -> z.bale(0, 10));
    }

    private static void runStops() {
        RecyclingSorter x = Sorters.perfect();
        Check.due("11 empty hopper", 0, () -> x.run(1));
        x.set(1, 100);
        x.feed(0, 150);
        x.feed(1, 10);
        Check.due("11 settled", 2, () -> x.run(200));
        Check.due("11 the rest goes round", 10, () -> x.kilos(Sorters.HOPPER, 1));
        Check.due("11 passes", 2L, () -> x.account(12));
        Check.due("11 still settled", 0, () -> x.run(200));
        RecyclingSorter y = Sorters.perfect();
        y.set(0, 1);
        y.feed(0, 300);
        Check.due("11 limit", 200, () -> y.run(200));
        Check.due("11 until it is empty", 100, () -> y.run(200));
        Check.refused("11 limit 0", ARGUMENT, () -> y.run(0));
        Check.refused("11 limit 201", ARGUMENT, () -> y.run(201));
        RecyclingSorter z = new RecyclingSorter();
        z.feed(0, 1);
        Check.refused("11 no machines", STATE, () -> z.run(1));
        Check.refused("11 no machines and limit", ARGUMENT, () -> z.run(0));
        RecyclingSorter w = Sorters.perfect();
        w.feed(0, 20);
        w.run(1);
        w.set(2, 10);
        Check.due("11 an empty hopper makes no pass for the bunkers", 0, () -> w.run(5));
        Check.due("11 and no bale", 0L, () -> w.account(10));
    }

    private static void isSettled() {
        RecyclingSorter x = new RecyclingSorter();
        Check.refused("12 no machines", STATE, x::isSettled);
        x.addMachine(0, 100, 0, 500, 0);
        Check.due("12 empty", true, x::isSettled);
        x.feed(1, 10);
        Check.due("12 waste to come", false, x::isSettled);
        x.set(1, 100);
        Check.due("12 all goes round", true, x::isSettled);
        x.feed(0, 1);
        Check.due("12 something to catch", false, x::isSettled);
        Check.due("12 nothing changed", 0L, () -> x.account(12));
        RecyclingSorter y = Sorters.perfect();
        y.feed(0, 20);
        y.run(1);
        Check.due("12 a bunker alone", true, y::isSettled);
        y.set(2, 20);
        Check.due("12 a bale to come", false, y::isSettled);
        RecyclingSorter z = Sorters.perfect();
        z.set(2, 10);
        z.set(0, 500);
        z.feed(0, 620);
        z.run(2);
        Check.due("12 no bale after 60", true, z::isSettled);
    }

    private static void settlesAfter() {
        RecyclingSorter x = new RecyclingSorter();
        Check.refused("13 no machines", STATE, x::settlesAfter);
        x.addMachine(0, 100, 0, 500, 0);
        Check.due("13 settled", 0, x::settlesAfter);
        x.feed(0, 250);
        Check.due("13 three passes", 3, x::settlesAfter);
        Check.due("13 nothing changed", 250, () -> x.kilos(Sorters.HOPPER, 0));
        Check.due("13 no pass was made", 0L, () -> x.account(12));
        x.set(0, 1);
        x.feed(0, 50);
        Check.due("13 just 300", 300, x::settlesAfter);
        x.feed(0, 1);
        Check.refused("13 301", ELEMENT, x::settlesAfter);
        RecyclingSorter y = Sorters.perfect();
        y.feed(0, 20);
        y.run(1);
        y.set(2, 20);
        Check.due("13 a pass for a bale of the bunker", 1, y::settlesAfter);
    }

    private static void kilos() {
        RecyclingSorter x = Sorters.perfect();
        x.feed(0, 30);
        x.feed(1, 21);
        x.run(1);
        x.feed(2, 5);
        Check.due("14 bunker", 30, () -> x.kilos(0, 0));
        Check.due("14 all of a bunker", 30, () -> x.kilos(0, -1));
        Check.due("14 hopper", 10, () -> x.kilos(Sorters.HOPPER, 1));
        Check.due("14 all of the hopper", 15, () -> x.kilos(Sorters.HOPPER, -1));
        Check.due("14 waste", 11, () -> x.kilos(Sorters.WASTE, 1));
        Check.due("14 all waste", 11, () -> x.kilos(Sorters.WASTE, -1));
        Check.due("14 no waste", 0, () -> x.kilos(Sorters.WASTE, 4));
        for (int place : new int[] {-1, 1, 5, 6, 9, 12}) {
            Check.refused("14 place " + place, ARGUMENT, () -> x.kilos(place, 0));
            Check.refused("14 place ahead of material", ARGUMENT, () -> x.kilos(place, 5));
        }
        Check.refused("14 material 5", INDEX, () -> x.kilos(0, 5));
        Check.refused("14 material -2", INDEX, () -> x.kilos(Sorters.HOPPER, -2));
    }

    private static void bale() {
        RecyclingSorter x = Sorters.perfect();
        Sorters.mixedBale(x, 39);
        Sorters.mixedBale(x, 38);
        // z becomes 1103527590, whose upper half is 16838, so the look is at the kilo 38 of 50.
        int[] first = {39, 11, 0, 0, 0, 0, 50, 780, 1000, 0, 0, -1};
        int[] second = {38, 12, 0, 0, 0, 0, 50, 760, 0, 3, 0, -1};
        for (int number = 0; number < 12; number++) {
            int what = number;
            Check.due("15 first, what " + what, first[what], () -> x.bale(0, what));
            Check.due("15 second, what " + what, second[what], () -> x.bale(1, what));
        }
        Check.due("15 z", 1103527590L, () -> x.account(15));
        Check.refused("15 what 12", ARGUMENT, () -> x.bale(0, 12));
        Check.refused("15 what -1", ARGUMENT, () -> x.bale(0, -1));
        Check.refused("15 bale 2", INDEX, () -> x.bale(2, 12));
        Check.refused("15 bale -1", INDEX, () -> x.bale(-1, 0));
        RecyclingSorter y = new RecyclingSorter();
        y.addMachine(1, 100, 90, 500, 0);
        y.set(3, 1);
        y.feed(1, 11);
        y.feed(0, 44);
        y.run(1);
        Check.due("15 lower materials come first", 0, () -> y.bale(0, 8));
        grades();
    }

    /** Looks are counted here over again, for many purities, so that each grade comes up. */
    private static void grades() {
        boolean[] seen = new boolean[4];
        for (int own = 25; own <= 50; own++) {
            RecyclingSorter x = new RecyclingSorter();
            x.addMachine(0, 100, 90, 500, 0);
            x.set(3, 20);
            x.seed(own);
            x.feed(0, own);
            x.feed(1, own == 50 ? 1 : (50 - own) * 100 / 90 + 1);
            x.run(1);
            int z = own;
            int hits = 0;
            for (int look = 0; look < 20; look++) {
                z = z * 1103515245 + 12345;
                hits += (z >>> 16) % 50 < own ? 1 : 0;
            }
            int sampled = hits * 50;
            int grade = sampled >= 950 ? 0 : sampled >= 850 ? 1 : sampled >= 700 ? 2 : 3;
            seen[grade] = true;
            Check.due("15 sampled purity", sampled, () -> x.bale(0, 8));
            Check.due("15 grade", grade, () -> x.bale(0, 9));
        }
        Check.due("15 all grades came up", true, () -> seen[0] && seen[1] && seen[2] && seen[3]);
    }

    private static void ordered() {
        RecyclingSorter x = Sorters.withBales(1);
        Sorters.mixedBale(x, 38);
        Sorters.mixedBale(x, 39);
        Check.due("16 best", 0, () -> x.ordered(0));
        Check.due("16 as good, later", 2, () -> x.ordered(1));
        Check.due("16 worst", 1, () -> x.ordered(2));
        Check.refused("16 place 3", ELEMENT, () -> x.ordered(3));
        Check.refused("16 place -1", ELEMENT, () -> x.ordered(-1));
        x.contract(0, 0, 50, 1);
        x.sell(0);
        Check.due("16 sold ones are left out", 2, () -> x.ordered(0));
        Check.refused("16 place 2", ELEMENT, () -> x.ordered(2));
    }

    private static void stock() {
        RecyclingSorter x = Sorters.withBales(2);
        Sorters.mixedBale(x, 38);
        Check.due("17 grade 0", 100, () -> x.stock(0, 0));
        Check.due("17 up to grade 2", 100, () -> x.stock(0, 2));
        Check.due("17 up to grade 3", 150, () -> x.stock(0, 3));
        Check.due("17 of another material", 0, () -> x.stock(1, 3));
        x.contract(0, 0, 50, 1);
        x.sell(2);
        Check.due("17 without a sold one", 100, () -> x.stock(0, 3));
        Check.refused("17 grade 4", ARGUMENT, () -> x.stock(0, 4));
        Check.refused("17 grade -1", ARGUMENT, () -> x.stock(0, -1));
        Check.refused("17 material and grade", INDEX, () -> x.stock(5, 4));
        Check.refused("17 material -1", INDEX, () -> x.stock(-1, 0));
    }

    private static void contract() {
        RecyclingSorter x = new RecyclingSorter();
        int[][] wrong = {{-1, 1, 1}, {1001, 1, 1}, {0, 0, 1}, {0, 10000, 1}, {0, 1, 0}, {0, 1, 100}};
        for (int[] one : wrong) {
            Check.refused("18 out of range", ARGUMENT, () -> x.contract(0, one[0], one[1], one[2]));
        }
        Check.refused("18 material 5", INDEX, () -> x.contract(5, -1, 1, 1));
        Check.refused("18 material -1", INDEX, () -> x.contract(-1, 0, 1, 1));
        for (int each = 0; each < 8; each++) {
            boolean isLeast = each % 2 == 0;
            Check.due("18 number", each, () -> isLeast ? x.contract(0, 0, 1, 1) : x.contract(4, 1000, 9999, 99));
        }
        Check.refused("18 ninth", STATE, () -> x.contract(0, 0, 1, 1));
        Check.refused("18 ninth, out of range", ARGUMENT, () -> x.contract(0, 0, 0, 1));
        Check.refused("18 ninth, material", INDEX, () -> x.contract(5, 0, 0, 1));
        Check.due("18 eight", 8L, () -> x.account(11));
    }

    private static void contractOf() {
        RecyclingSorter x = Sorters.withBales(3);
        x.contract(0, 700, 120, 9);
        x.sell(1);
        x.sell(0);
        int[] want = {0, 700, 20, 9, 2};
        for (int number = 0; number < 5; number++) {
            int what = number;
            Check.due("19 what " + what, want[what], () -> x.contractOf(0, what));
        }
        Check.refused("19 what 5", ARGUMENT, () -> x.contractOf(0, 5));
        Check.refused("19 what -1", ARGUMENT, () -> x.contractOf(0, -1));
        Check.refused("19 contract and what", INDEX, () -> x.contractOf(1, 5));
        Check.refused("19 contract -1", INDEX, () -> x.contractOf(-1, 0));
    }

    private static void sell() {
        RecyclingSorter x = Sorters.withBales(6);
        x.contract(1, 0, 9999, 99);
        x.contract(0, 900, 50, 5);
        x.contract(0, 950, 50, 4);
        x.contract(0, 950, 50, 5);
        x.contract(0, 950, 50, 5);
        x.contract(0, 1000, 49, 99);
        Check.due("20 greatest price, greatest floor, lowest number", 3, () -> x.sell(5));
        Check.due("20 then the other one", 4, () -> x.sell(0));
        Check.due("20 then the lower floor", 1, () -> x.sell(1));
        Check.due("20 then the lower price", 2, () -> x.sell(2));
        Check.due("20 sold", 1, () -> x.bale(5, 10));
        Check.due("20 to which contract", 3, () -> x.bale(5, 11));
        Check.due("20 wanted no more", 0, () -> x.contractOf(3, 2));
        Check.due("20 paid", 950L, () -> x.account(13));
        Check.refused("20 none wants it", UNSUPPORTED, () -> x.sell(3));
        Check.refused("20 bale 6", INDEX, () -> x.sell(6));
        Check.refused("20 bale -1", INDEX, () -> x.sell(-1));
    }

    private static void refusedFor(String what, RecyclingSorter x, int bale, int reason, int detail) {
        Check.refused(what, UNSUPPORTED, () -> x.sell(bale));
        Check.due(what + ": bale", bale, () -> x.report(0, false));
        Check.due(what + ": material", 0, () -> x.report(0, true));
        Check.due(what + ": reason", reason, () -> x.report(1, false));
        Check.due(what + ": detail", detail, () -> x.report(1, true));
    }

    private static void sellRefused() {
        RecyclingSorter x = Sorters.withBales(1);
        refusedFor("20 no contract", x, 0, 2, 0);
        x.set(4, 1);
        Sorters.mixedBale(x, 38);
        refusedFor("20 looped", x, 1, 1, 2);
        x.set(4, 0);
        x.contract(0, 800, 60, 1);
        x.contract(0, 700, 40, 1);
        x.contract(1, 0, 9999, 1);
        x.sell(0);
        refusedFor("20 sold", x, 0, 1, 1);
        RecyclingSorter y = Sorters.perfect();
        Sorters.mixedBale(y, 38);
        y.contract(0, 800, 60, 1);
        y.contract(0, 700, 40, 1);
        refusedFor("20 least floor", y, 0, 3, 700);
        y.contract(0, 0, 30, 1);
        refusedFor("20 most wanted by a floor that it reaches", y, 0, 4, 30);
        y.contract(0, 0, 49, 1);
        refusedFor("20 more wanted", y, 0, 4, 49);
        RecyclingSorter z = Sorters.withBales(2);
        z.contract(0, 500, 50, 1);
        z.sell(0);
        refusedFor("20 nothing is wanted any more", z, 1, 4, 0);
        Check.due("20 nothing else changed", 0, () -> z.bale(1, 10));
    }

    private static void sellAll() {
        RecyclingSorter x = Sorters.perfect();
        Sorters.mixedBale(x, 38);
        Sorters.mixedBale(x, 39);
        x.contract(0, 0, 60, 7);
        Check.due("21 one", 1, x::sellAll);
        Check.due("21 the best first", 1, () -> x.bale(1, 10));
        Check.due("21 the other stays", 0, () -> x.bale(0, 10));
        Check.refused("21 no report", ELEMENT, () -> x.report(0, false));
        Check.due("21 none", 0, x::sellAll);
        RecyclingSorter y = Sorters.withBales(4);
        y.contract(0, 0, 150, 1);
        y.contract(0, 0, 50, 1);
        Check.due("21 all four", 4, y::sellAll);
        Check.due("21 the last one to the second", 1, () -> y.bale(3, 11));
    }

    private static void wouldSell() {
        RecyclingSorter x = Sorters.withBales(1);
        Check.refused("22 refused", ELEMENT, () -> x.wouldSell(0));
        Check.refused("22 no report", ELEMENT, () -> x.report(0, false));
        x.contract(0, 0, 50, 1);
        x.contract(0, 0, 50, 2);
        Check.due("22 the contract", 1, () -> x.wouldSell(0));
        Check.due("22 nothing changed", 0, () -> x.bale(0, 10));
        x.sell(0);
        Check.refused("22 sold", ELEMENT, () -> x.wouldSell(0));
        Check.refused("22 bale 1", INDEX, () -> x.wouldSell(1));
        Check.refused("22 bale -1", INDEX, () -> x.wouldSell(-1));
    }

    private static void report() {
        RecyclingSorter x = Sorters.withBales(2);
        Check.refused("23 none", ELEMENT, () -> x.report(0, false));
        Check.refused("23 a sale", UNSUPPORTED, () -> x.sell(1));
        Check.due("23 bale", 1, () -> x.report(0, false));
        Check.refused("23 level 2", ELEMENT, () -> x.report(2, false));
        Check.refused("23 level -1", ELEMENT, () -> x.report(-1, true));
        Check.refused("23 no such bale", INDEX, () -> x.sell(2));
        Check.due("23 it stays", 1, () -> x.report(0, false));
        Check.refused("23 a command", UNSUPPORTED, () -> Sorters.perform(x, "f0=1;s0"));
        int[][] want = {{9, 1}, {0, 0}, {2, 0}};
        for (int each = 0; each < 3; each++) {
            int level = each;
            Check.due("23 first of " + level, want[level][0], () -> x.report(level, false));
            Check.due("23 second of " + level, want[level][1], () -> x.report(level, true));
        }
        Check.refused("23 level 3", ELEMENT, () -> x.report(3, false));
        Check.refused("23 a sale again", UNSUPPORTED, () -> x.sell(1));
        Check.due("23 it replaces", 1, () -> x.report(0, false));
        Check.refused("23 without the level", ELEMENT, () -> x.report(2, false));
    }

    private static void account() {
        RecyclingSorter x = Sorters.withBales(3);
        x.addMachine(3, 10, 0, 500, 0);
        x.feed(0, 6);
        x.feed(1, 9);
        x.feed(2, 8);
        x.feed(3, 40);
        x.feed(4, 2);
        x.run(1);
        x.feed(4, 5);
        x.contract(0, 0, 60, 3);
        x.sell(0);
        // Of 9, 8, 36 and 2 kilos behind the last machine half goes back, rounded down.
        long[] want = {156, 9, 8, 40, 7, 4 + 4 + 18 + 1 + 5, 6 + 4, 100, 50, 5 + 4 + 18 + 1, 3, 1, 3, 150, 2};
        for (int what = 0; what < want.length; what++) {
            int account = what;
            Check.due("24 account " + what, want[what], () -> x.account(account));
        }
        Check.refused("24 account 16", ARGUMENT, () -> x.account(16));
        Check.refused("24 account -1", ARGUMENT, () -> x.account(-1));
        addsUp(x);
        x.removeMachine();
        addsUp(x);
    }

    private static void addsUp(RecyclingSorter x) {
        long fed = 0;
        long there = 0;
        for (int material = 0; material < 5; material++) {
            fed += x.account(material);
        }
        for (int what = 5; what <= 9; what++) {
            there += x.account(what);
        }
        long all = there;
        Check.due("24 the accounts add up", fed, () -> all);
    }

    private static void purity() {
        RecyclingSorter x = Sorters.perfect();
        Check.refused("25 no bales", ARITHMETIC, x::purity);
        x.set(4, 1);
        Sorters.mixedBale(x, 38);
        Check.refused("25 only a looped one", ARITHMETIC, x::purity);
        x.set(4, 0);
        x.set(1, 0);
        RecyclingSorter y = Sorters.perfect();
        Sorters.mixedBale(y, 38);
        Check.due("25 one", 38.0 / 50.0, y::purity);
        Sorters.mixedBale(y, 39);
        Check.due("25 together", 77.0 / 100.0, y::purity);
        y.contract(0, 0, 50, 1);
        y.sell(0);
        Check.due("25 sold ones too", 77.0 / 100.0, y::purity);
    }

    private static void wasted() {
        RecyclingSorter x = Sorters.perfect();
        x.feed(1, 7);
        Check.due("26 none yet", 0.0f, () -> x.wasted(1));
        x.run(1);
        Check.due("26 four of seven", 4.0f / 7.0f, () -> x.wasted(1));
        x.feed(3, 1);
        Check.due("26 of one kilo", 0.0f, () -> x.wasted(3));
        Check.refused("26 none fed", ARITHMETIC, () -> x.wasted(2));
        Check.refused("26 material 5", INDEX, () -> x.wasted(5));
        Check.refused("26 material -1", INDEX, () -> x.wasted(-1));
    }

    private static void append() {
        RecyclingSorter x = new RecyclingSorter();
        for (int length = 1; length <= 80; length++) {
            char letter = (char) (length * 811);
            Check.due("27 number of characters", length, () -> x.append(letter));
        }
        Check.refused("27 full", STATE, () -> x.append('a'));
        Check.refused("27 still full", STATE, () -> x.append('r'));
        Check.due("27 the first one is no command", -100, x::perform);
        Check.due("27 empty again", 1, () -> x.append('r'));
    }

    private static void perform() {
        RecyclingSorter x = Sorters.perfect();
        Check.due("28 four commands", 4, () -> Sorters.perform(x, "f0=100;r2;c0@500*60$9;s0"));
        Check.due("28 paid", 450L, () -> x.account(13));
        Check.due("28 one change", 1, x::undo);
        Check.due("28 all taken back", 0L, () -> x.account(0));
        Check.due("28 leading zeros", 1, () -> Sorters.perform(x, "f0=0007"));
        Check.due("28 their kilos", 7, () -> x.kilos(Sorters.HOPPER, 0));
        StringBuilder most = new StringBuilder("r1");
        for (int command = 1; command < 27; command++) {
            most.append(";r1");
        }
        Check.due("28 as long as the buffer", 80, () -> Sorters.put(x, most.toString()));
        Check.due("28 27 commands", 27, x::perform);
        Check.due("28 the buffer is empty", 1, () -> x.append('r'));
    }

    private static void performRefused() {
        RecyclingSorter x = Sorters.withBales(1);
        String[] wrong = {"f5=1", "f0=0", "f0=1000", "r0", "r201", "c5@0*1$1", "c0@1001*1$1", "c0@0*0$1", "c0@0*1$0",
            "c0@0*1$100", "s60"};
        for (String text : wrong) {
            Check.refused("28 " + text, UNSUPPORTED, () -> Sorters.perform(x, "f0=1;" + text));
            Check.refused("28 no report of " + text, ELEMENT, () -> x.report(0, false));
        }
        Check.due("28 none of them", 50L, () -> x.account(0));
        Check.refused("28 a sale that is refused", UNSUPPORTED, () -> Sorters.perform(x, "r1;c0@0*50$1;s0;s0"));
        Check.due("28 its number", 3, () -> x.report(0, true));
        Check.due("28 its detail", 1, () -> x.report(2, true));
        Check.due("28 the first sale is not done", 0, () -> x.bale(0, 10));
        Check.due("28 the buffer is empty", 1, () -> x.append('r'));
        Check.due("28 a refused text is no change", 2, x::undo);
    }

    private static void performErrors() {
        RecyclingSorter x = Sorters.perfect();
        String[] texts = {"", "x", "r", "r1;", "r1;;", "r1 ", ";r1", "r12345", "rx", "f", "fx", "f0", "f0x", "f00",
            "f0=", "f0=12345", "f0=1;x", "c0@5*5", "c0@5*5$", "c0@", "c01", "c0=5", "c0@5$", "s", "s-1", "s1,",
            "F0=1", "f\u0660=1", "f\u0130=1"};
        int[] positions = {0, 0, 1, 3, 3, 2, 0, 5, 1, 1, 1, 2, 2, 2, 3, 7, 5, 6, 7, 3, 2, 2, 4, 1, 1, 2, 0, 1, 1};
        for (int each = 0; each < texts.length; each++) {
            String text = texts[each];
            Check.due("28 error of '" + text + "'", -100 - positions[each], () -> Sorters.perform(x, text));
        }
        Check.due("28 nothing was fed", 0L, () -> x.account(0));
        Check.due("28 errors are no changes", 0, x::undo);
    }

    private static void undo() {
        RecyclingSorter x = new RecyclingSorter();
        Check.refused("29 none", STATE, x::undo);
        for (int kilos = 1; kilos <= 10; kilos++) {
            x.feed(0, kilos);
        }
        for (int left = 7; left >= 0; left--) {
            int want = left;
            Check.due("29 left", want, x::undo);
        }
        Check.refused("29 older ones are gone", STATE, x::undo);
        Check.due("29 the first two stay", 3L, () -> x.account(0));
        everyChange();
        RecyclingSorter y = Sorters.withBales(1);
        Check.refused("29 a refused sale", UNSUPPORTED, () -> y.sell(0));
        y.append('r');
        Check.due("29 is no change", 2, y::undo);
        Check.due("29 the bale is gone", 0L, () -> y.account(10));
        Check.due("29 the report stays", 2, () -> y.report(1, false));
        Check.due("29 the buffer stays", 2, () -> y.append('1'));
        Check.due("29 next", 1, y::undo);
        Check.due("29 a new change", 0, () -> y.set(4, 0));
        Check.due("29 counts again", 1, y::undo);
    }

    private static void everyChange() {
        RecyclingSorter x = new RecyclingSorter();
        x.addMachine(0, 100, 0, 500, 0);
        x.addMachine(1, 50, 0, 500, 0);
        x.exchange(0, 0);
        x.setMachine(0, 1, 100);
        x.set(0, 100);
        x.seed(1);
        x.feed(0, 50);
        x.run(1);
        for (int left = 7; left >= 1; left--) {
            int want = left;
            Check.due("29 each of them is a change", want, x::undo);
        }
        Check.due("29 all are taken back but one", 1L, () -> x.account(14));
        x.feed(0, 50);
        x.removeMachine();
        x.addMachine(0, 100, 0, 500, 0);
        x.run(1);
        x.contract(0, 0, 100, 1);
        x.sell(0);
        x.sellAll();
        Sorters.perform(x, "r1");
        Check.due("29 perform", 7, x::undo);
        Check.due("29 sellAll", 6, x::undo);
        Check.due("29 sold until then", 50L, () -> x.account(8));
        Check.due("29 sell", 5, x::undo);
        Check.due("29 in stock again", 50L, () -> x.account(7));
        Check.due("29 wanted again", 100, () -> x.contractOf(0, 2));
        Check.due("29 contract", 4, x::undo);
        Check.due("29 no contract", 0L, () -> x.account(11));
        Check.due("29 the bale is still made", 1L, () -> x.account(10));
        Check.due("29 run", 3, x::undo);
        Check.due("29 z is back too", 1L, () -> x.account(15));
        Check.due("29 in the hopper again", 50, () -> x.kilos(Sorters.HOPPER, 0));
        Check.due("29 addMachine", 2, x::undo);
        Check.due("29 no machine", 0L, () -> x.account(14));
        Check.due("29 removeMachine", 1, x::undo);
        Check.due("29 the machine again", 1L, () -> x.account(14));
        Check.due("29 feed", 0, x::undo);
        Check.due("29 nothing was fed", 0L, () -> x.account(0));
        Check.due("29 the machine stays", 1L, () -> x.account(14));
    }

    private static void save() {
        RecyclingSorter x = new RecyclingSorter();
        Check.due("30 nothing made", 0, x::save);
        RecyclingSorter y = Sorters.withBales(2);
        Check.due("30 two bales", 2, y::save);
        Check.due("30 the changes stay", 3, y::undo);
        Check.due("30 it is no change", 2, y::undo);
        Check.due("30 in place of the earlier one", 0, y::save);
        y.feed(1, 1);
        Check.due("30 the later one", 0, y::restore);
        Check.due("30 as it was then", 50L, () -> y.account(5));
    }

    private static void restore() {
        RecyclingSorter x = Sorters.withBales(1);
        Check.refused("31 nothing saved", STATE, x::restore);
        x.contract(0, 0, 100, 1);
        x.seed(77);
        x.set(0, 9);
        x.save();
        x.sell(0);
        Check.refused("31 leaves a report", UNSUPPORTED, () -> x.sell(0));
        x.append('r');
        x.removeMachine();
        x.feed(3, 9);
        x.set(0, 8);
        x.seed(78);
        Check.due("31 bales", 1, x::restore);
        Check.due("31 in stock", 0, () -> x.bale(0, 10));
        Check.due("31 machines", 1L, () -> x.account(14));
        Check.due("31 hopper", 0L, () -> x.account(5));
        Check.due("31 z", 77L, () -> x.account(15));
        Check.due("31 wanted", 100, () -> x.contractOf(0, 2));
        Check.refused("31 no change to take back", STATE, x::undo);
        Check.due("31 the report stays", 1, () -> x.report(1, true));
        Check.due("31 the buffer stays", 2, () -> x.append('1'));
        Check.due("31 setting", 9, () -> x.set(0, 10));
        x.sell(0);
        Check.due("31 it stays saved", 1, x::restore);
        Check.due("31 in stock again", 0, () -> x.bale(0, 10));
        Check.due("31 the text goes on", 1, x::perform);
    }
}
