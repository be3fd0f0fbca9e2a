import java.util.ArrayList;
import java.util.Comparator;
import java.util.List;
import java.util.NoSuchElementException;
import java.util.regex.Matcher;
import java.util.regex.Pattern;

/**
 * The document once more, as plainly as the Java library lets it be said and without a thought of cost: kilos are
 * looked at one by one, changes are whole copies, and the error position comes from a regular expression. The tests
 * compare the class with it.
 */
final class Model {
    private static final Pattern TEXT = Pattern.compile("C(?:;C)*".replace("C",
            "(?:f[0-9]=[0-9]{1,4}|r[0-9]{1,4}|c[0-9]@[0-9]{1,4}\\*[0-9]{1,4}\\$[0-9]{1,4}|s[0-9]{1,4})"));

    private static final class Machine {
        final int[] numbers = new int[5];
        int[] bunker = new int[5];
        int bales;

        Machine copy() {
            Machine copy = new Machine();
            System.arraycopy(numbers, 0, copy.numbers, 0, 5);
            copy.bunker = bunker.clone();
            copy.bales = bales;
            return copy;
        }
    }

    private static final class Bale {
        int number;
        int[] kilos;
        int material;
        int sampled;
        int grade;
        int state;
        int contract = -1;

        Bale copy() {
            Bale copy = new Bale();
            copy.number = number;
            copy.kilos = kilos.clone();
            copy.material = material;
            copy.sampled = sampled;
            copy.grade = grade;
            copy.state = state;
            copy.contract = contract;
            return copy;
        }
    }

    private static final class State {
        int[] settings = {100, 50, 50, 10, 0};
        int[] hopper = new int[5];
        int[] waste = new int[5];
        int[] fed = new int[5];
        List<Machine> machines = new ArrayList<>();
        List<Bale> bales = new ArrayList<>();
        List<int[]> contracts = new ArrayList<>();
        int z = 1;
        int passes;
        long paid;

        State copy() {
            State copy = new State();
            copy.settings = settings.clone();
            copy.hopper = hopper.clone();
            copy.waste = waste.clone();
            copy.fed = fed.clone();
            machines.forEach(machine -> copy.machines.add(machine.copy()));
            bales.forEach(bale -> copy.bales.add(bale.copy()));
            contracts.forEach(contract -> copy.contracts.add(contract.clone()));
            copy.z = z;
            copy.passes = passes;
            copy.paid = paid;
            return copy;
        }

        /** What settling looks at. */
        String loops() {
            StringBuilder all = new StringBuilder();
            all.append(java.util.Arrays.toString(hopper)).append(java.util.Arrays.toString(waste));
            machines.forEach(machine -> all.append(java.util.Arrays.toString(machine.bunker)));
            return all.append(bales.size()).toString();
        }
    }

    private State state = new State();
    private State saved;
    private final List<State> changes = new ArrayList<>();
    private final StringBuilder buffer = new StringBuilder();
    private int[][] report = {};
    private int command = -1;

    private static int total(int[] kilos) {
        int total = 0;
        for (int each : kilos) {
            total += each;
        }
        return total;
    }

    private static int[] take(int[] place, int taken) {
        int all = total(place);
        int[] share = new int[5];
        if (all == 0) {
            return share;
        }
        List<Integer> materials = new ArrayList<>();
        for (int material = 0; material < 5; material++) {
            share[material] = (int) ((long) place[material] * taken / all);
            materials.add(material);
        }
        int missing = taken - total(share);
        materials.sort(Comparator.comparing((Integer material) -> -((long) place[material] * taken % all)));
        for (int material : materials.subList(0, missing)) {
            share[material]++;
        }
        for (int material = 0; material < 5; material++) {
            place[material] -= share[material];
        }
        return share;
    }

    private void keep() {
        changes.add(state.copy());
        if (changes.size() > 8) {
            changes.remove(0);
        }
    }

    private static void index(boolean isRight) {
        if (!isRight) {
            throw new IndexOutOfBoundsException();
        }
    }

    private static void argument(boolean isRight) {
        if (!isRight) {
            throw new IllegalArgumentException();
        }
    }

    private static void state(boolean isRight) {
        if (!isRight) {
            throw new IllegalStateException();
        }
    }

    private static void element(boolean isRight) {
        if (!isRight) {
            throw new NoSuchElementException();
        }
    }

    private static boolean in(int value, int least, int most) {
        return least <= value && value <= most;
    }

    private static boolean fitsMachine(int what, int value) {
        switch (what) {
            case 0:
                return in(value, 0, 4);
            case 1:
                return in(value, 10, 100);
            case 2:
                return in(value, 0, 90);
            case 3:
                return in(value, 1, 500);
            case 4:
                return in(value, 0, 9);
            default:
                return false;
        }
    }

    int addMachine(int target, int base, int error, int capacity, int loss) {
        index(in(target, 0, 4));
        argument(fitsMachine(1, base) && fitsMachine(2, error) && fitsMachine(3, capacity) && fitsMachine(4, loss));
        state(state.machines.size() < 6);
        keep();
        Machine machine = new Machine();
        int[] numbers = {target, base, error, capacity, loss};
        System.arraycopy(numbers, 0, machine.numbers, 0, 5);
        state.machines.add(machine);
        return state.machines.size() - 1;
    }

    int removeMachine() {
        element(!state.machines.isEmpty());
        keep();
        Machine machine = state.machines.remove(state.machines.size() - 1);
        for (int material = 0; material < 5; material++) {
            state.hopper[material] += machine.bunker[material];
        }
        return total(machine.bunker);
    }

    int exchange(int one, int other) {
        index(in(one, 0, state.machines.size() - 1) && in(other, 0, state.machines.size() - 1));
        keep();
        java.util.Collections.swap(state.machines, one, other);
        int between = 0;
        for (int machine = Math.min(one, other) + 1; machine < Math.max(one, other); machine++) {
            between++;
        }
        return between;
    }

    private Machine machineAt(int machine) {
        index(in(machine, 0, state.machines.size() - 1));
        return state.machines.get(machine);
    }

    int setMachine(int machine, int what, int value) {
        machineAt(machine);
        argument(fitsMachine(what, value));
        keep();
        int previous = machineAt(machine).numbers[what];
        machineAt(machine).numbers[what] = value;
        return previous;
    }

    int machine(int machine, int what) {
        Machine it = machineAt(machine);
        argument(in(what, 0, 6));
        return what == 6 ? it.bales : what == 5 ? total(it.bunker) : it.numbers[what];
    }

    private static int rateOf(Machine machine, int flow, boolean isMistake) {
        int excess = flow > machine.numbers[3] ? (flow - machine.numbers[3]) / 10 : 0;
        return isMistake ? Math.min(90, machine.numbers[2] + excess)
                : Math.max(10, machine.numbers[1] - machine.numbers[4] * excess);
    }

    int rate(int machine, int flow, boolean isMistake) {
        Machine it = machineAt(machine);
        argument(in(flow, 0, 9999));
        return rateOf(it, flow, isMistake);
    }

    int set(int what, int value) {
        int[] least = {1, 0, 10, 1, 0};
        int[] most = {500, 100, 200, 50, 1};
        index(in(what, 0, 4));
        argument(in(value, least[what], most[what]));
        keep();
        int previous = state.settings[what];
        state.settings[what] = value;
        return previous;
    }

    int seed(int z) {
        keep();
        int previous = state.z;
        state.z = z;
        return previous;
    }

    int feed(int material, int kilos) {
        index(in(material, 0, 4));
        argument(in(kilos, 1, 999));
        state(total(state.hopper) + kilos <= 9999);
        keep();
        state.hopper[material] += kilos;
        state.fed[material] += kilos;
        return state.hopper[material];
    }

    private static void pass(State state) {
        int[] belt = take(state.hopper, Math.min(state.settings[0], total(state.hopper)));
        for (Machine machine : state.machines) {
            int flow = total(belt);
            for (int material = 0; material < 5; material++) {
                boolean isMistake = material != machine.numbers[0];
                int caught = belt[material] * rateOf(machine, flow, isMistake) / 100;
                belt[material] -= caught;
                machine.bunker[material] += caught;
            }
        }
        for (int material = 0; material < 5; material++) {
            int back = belt[material] * state.settings[1] / 100;
            state.hopper[material] += back;
            state.waste[material] += belt[material] - back;
        }
        for (Machine machine : state.machines) {
            while (total(machine.bunker) >= state.settings[2] && state.bales.size() < 60) {
                makeBale(state, machine);
            }
        }
    }

    private static void makeBale(State state, Machine machine) {
        Bale bale = new Bale();
        bale.number = state.bales.size();
        bale.kilos = take(machine.bunker, state.settings[2]);
        bale.material = machine.numbers[0];
        List<Integer> kilos = new ArrayList<>();
        for (int material = 0; material < 5; material++) {
            for (int kilo = 0; kilo < bale.kilos[material]; kilo++) {
                kilos.add(material);
            }
        }
        int looks = 0;
        for (int look = 0; look < state.settings[3]; look++) {
            state.z = state.z * 1103515245 + 12345;
            looks += kilos.get((state.z >>> 16) % kilos.size()) == bale.material ? 1 : 0;
        }
        bale.sampled = looks * 1000 / state.settings[3];
        bale.grade = bale.sampled >= 950 ? 0 : bale.sampled >= 850 ? 1 : bale.sampled >= 700 ? 2 : 3;
        if (state.settings[4] == 1 && bale.grade == 3) {
            bale.state = 2;
            kilos.forEach(material -> state.hopper[material]++);
        }
        state.bales.add(bale);
        machine.bales++;
    }

    private static boolean settled(State state) {
        State next = state.copy();
        pass(next);
        return next.loops().equals(state.loops());
    }

    int run(int limit) {
        argument(in(limit, 1, 200));
        state(!state.machines.isEmpty());
        keep();
        int passes = 0;
        while (passes < limit && total(state.hopper) > 0 && !settled(state)) {
            pass(state);
            state.passes++;
            passes++;
        }
        return passes;
    }

    boolean isSettled() {
        state(!state.machines.isEmpty());
        return settled(state);
    }

    int settlesAfter() {
        state(!state.machines.isEmpty());
        State next = state.copy();
        int passes = 0;
        while (!settled(next)) {
            element(passes < 300);
            pass(next);
            passes++;
        }
        return passes;
    }

    int kilos(int place, int material) {
        argument(place == 10 || place == 11 || in(place, 0, state.machines.size() - 1));
        index(in(material, -1, 4));
        int[] kilos = place == 10 ? state.hopper : place == 11 ? state.waste : state.machines.get(place).bunker;
        return material == -1 ? total(kilos) : kilos[material];
    }

    private Bale baleAt(int bale) {
        index(in(bale, 0, state.bales.size() - 1));
        return state.bales.get(bale);
    }

    int bale(int bale, int what) {
        Bale it = baleAt(bale);
        argument(in(what, 0, 11));
        switch (what) {
            case 5:
                return it.material;
            case 6:
                return total(it.kilos);
            case 7:
                return it.kilos[it.material] * 1000 / total(it.kilos);
            case 8:
                return it.sampled;
            case 9:
                return it.grade;
            case 10:
                return it.state;
            case 11:
                return it.contract;
            default:
                return it.kilos[what];
        }
    }

    private List<Bale> order() {
        List<Bale> order = new ArrayList<>(state.bales);
        order.removeIf(bale -> bale.state != 0);
        order.sort(Comparator.comparing((Bale bale) -> bale.grade).thenComparing(bale -> -bale.sampled)
                .thenComparing(bale -> bale.number));
        return order;
    }

    int ordered(int place) {
        element(in(place, 0, order().size() - 1));
        return order().get(place).number;
    }

    int stock(int material, int grade) {
        index(in(material, 0, 4));
        argument(in(grade, 0, 3));
        return order().stream().filter(bale -> bale.material == material && bale.grade <= grade)
                .mapToInt(bale -> total(bale.kilos)).sum();
    }

    int contract(int material, int floor, int kilos, int price) {
        index(in(material, 0, 4));
        argument(in(floor, 0, 1000) && in(kilos, 1, 9999) && in(price, 1, 99));
        state(state.contracts.size() < 8);
        keep();
        state.contracts.add(new int[] {material, floor, kilos, price, 0});
        return state.contracts.size() - 1;
    }

    int contractOf(int contract, int what) {
        index(in(contract, 0, state.contracts.size() - 1));
        argument(in(what, 0, 4));
        return state.contracts.get(contract)[what];
    }

    private int buyer(Bale bale) {
        List<Integer> buyers = new ArrayList<>();
        for (int number = 0; number < state.contracts.size(); number++) {
            int[] contract = state.contracts.get(number);
            if (contract[0] == bale.material && bale.sampled >= contract[1] && contract[2] >= total(bale.kilos)) {
                buyers.add(number);
            }
        }
        buyers.sort(Comparator.comparing((Integer number) -> -state.contracts.get(number)[3])
                .thenComparing(number -> -state.contracts.get(number)[1]));
        return bale.state != 0 || buyers.isEmpty() ? -1 : buyers.get(0);
    }

    private int[] cause(Bale bale) {
        if (bale.state != 0) {
            return new int[] {1, bale.state};
        }
        List<int[]> asking = new ArrayList<>(state.contracts);
        asking.removeIf(contract -> contract[0] != bale.material);
        if (asking.isEmpty()) {
            return new int[] {2, bale.material};
        }
        int least = asking.stream().mapToInt(contract -> contract[1]).min().getAsInt();
        if (bale.sampled < least) {
            return new int[] {3, least};
        }
        asking.removeIf(contract -> contract[1] > bale.sampled);
        return new int[] {4, asking.stream().mapToInt(contract -> contract[2]).max().getAsInt()};
    }

    private int handOver(Bale bale) {
        int buyer = buyer(bale);
        int[] contract = state.contracts.get(buyer);
        contract[2] -= total(bale.kilos);
        contract[4]++;
        state.paid += (long) contract[3] * total(bale.kilos);
        bale.state = 1;
        bale.contract = buyer;
        return buyer;
    }

    int sell(int bale) {
        Bale it = baleAt(bale);
        if (buyer(it) < 0) {
            int[][] sale = {{bale, it.material}, cause(it)};
            int[][] told = {{9, command}, sale[0], sale[1]};
            report = command < 0 ? sale : told;
            throw new UnsupportedOperationException();
        }
        keep();
        return handOver(it);
    }

    int sellAll() {
        keep();
        int sold = 0;
        for (Bale bale : order()) {
            if (buyer(bale) >= 0) {
                handOver(bale);
                sold++;
            }
        }
        return sold;
    }

    int wouldSell(int bale) {
        int buyer = buyer(baleAt(bale));
        element(buyer >= 0);
        return buyer;
    }

    int report(int level, boolean isDetail) {
        element(in(level, 0, report.length - 1));
        return report[level][isDetail ? 1 : 0];
    }

    private int kilosOfBales(int what) {
        return state.bales.stream().filter(bale -> bale.state == what).mapToInt(bale -> total(bale.kilos)).sum();
    }

    long account(int what) {
        argument(in(what, 0, 15));
        long[] accounts = {state.fed[0], state.fed[1], state.fed[2], state.fed[3], state.fed[4], total(state.hopper),
            state.machines.stream().mapToInt(machine -> total(machine.bunker)).sum(), kilosOfBales(0),
            kilosOfBales(1), total(state.waste), state.bales.size(), state.contracts.size(), state.passes, state.paid,
            state.machines.size(), state.z};
        return accounts[what];
    }

    double purity() {
        long own = 0;
        long all = 0;
        for (Bale bale : state.bales) {
            own += bale.state == 2 ? 0 : bale.kilos[bale.material];
            all += bale.state == 2 ? 0 : total(bale.kilos);
        }
        if (all == 0) {
            throw new ArithmeticException();
        }
        return (double) own / (double) all;
    }

    float wasted(int material) {
        index(in(material, 0, 4));
        if (state.fed[material] == 0) {
            throw new ArithmeticException();
        }
        return (float) state.waste[material] / (float) state.fed[material];
    }

    int append(char letter) {
        state(buffer.length() < 80);
        return buffer.append(letter).length();
    }

    private static boolean isBeginning(String text) {
        Matcher matcher = TEXT.matcher(text);
        return matcher.matches() || matcher.hitEnd();
    }

    int perform() {
        String text = buffer.toString();
        buffer.setLength(0);
        for (int end = 1; end <= text.length(); end++) {
            if (!isBeginning(text.substring(0, end))) {
                return -100 - (end - 1);
            }
        }
        if (!TEXT.matcher(text).matches()) {
            return -100 - text.length();
        }
        State earlier = state.copy();
        List<State> earlierChanges = new ArrayList<>(changes);
        String[] commands = text.split(";");
        try {
            for (command = 0; command < commands.length; command++) {
                obey(commands[command]);
            }
        } catch (RuntimeException refusal) {
            state = earlier;
            changes.clear();
            changes.addAll(earlierChanges);
            throw new UnsupportedOperationException();
        } finally {
            command = -1;
        }
        changes.clear();
        changes.addAll(earlierChanges);
        State later = state;
        state = earlier;
        keep();
        state = later;
        return commands.length;
    }

    private void obey(String text) {
        String[] parts = text.substring(1).split("[=@*$]");
        int first = Integer.parseInt(parts[0]);
        switch (text.charAt(0)) {
            case 'f':
                feed(first, Integer.parseInt(parts[1]));
                break;
            case 'r':
                run(first);
                break;
            case 'c':
                contract(first, Integer.parseInt(parts[1]), Integer.parseInt(parts[2]), Integer.parseInt(parts[3]));
                break;
            default:
                sell(first);
                break;
        }
    }

    int undo() {
        state(!changes.isEmpty());
        state = changes.remove(changes.size() - 1);
        return changes.size();
    }

    int save() {
        saved = state.copy();
        return state.bales.size();
    }

    int restore() {
        state(saved != null);
        state = saved.copy();
        changes.clear();
        return state.bales.size();
    }
}
