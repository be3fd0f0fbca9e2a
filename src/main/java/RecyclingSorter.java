import java.util.NoSuchElementException;

/** A recycling sorter with machines in a row, bales, contracts, commands, undo and a snapshot. */
public final class RecyclingSorter {
    private static final int MATERIALS = 5;
    private static final int LAST_MATERIAL = MATERIALS - 1;
    private static final int ALL_MATERIALS = -1;
    private static final int NONE = -1;

    private static final int MOST_MACHINES = 6;
    private static final int TARGET = 0;
    private static final int BASE = 1;
    private static final int ERROR = 2;
    private static final int CAPACITY = 3;
    private static final int LOSS = 4;
    private static final int BUNKER = 5;
    private static final int BALES_MADE = 6;
    private static final int MACHINE_NUMBERS = 7;
    private static final int[] LEAST_OF_MACHINE = {0, 10, 0, 1, 0};
    private static final int[] MOST_OF_MACHINE = {4, 100, 90, 500, 9};
    private static final int LEAST_CATCH = 10;
    private static final int MOST_MISTAKE = 90;
    private static final int MOST_FLOW = 9999;

    private static final int THROUGHPUT = 0;
    private static final int LOOP = 1;
    private static final int BALE_SIZE = 2;
    private static final int SAMPLE = 3;
    private static final int LOOPING = 4;
    private static final int SETTINGS = 5;
    private static final int[] LEAST_OF_SETTING = {1, 0, 10, 1, 0};
    private static final int[] MOST_OF_SETTING = {500, 100, 200, 50, 1};

    // The rows of the table of places; those ahead of the hopper are the bunkers.
    private static final int HOPPER = MOST_MACHINES;
    private static final int WASTE = HOPPER + 1;
    private static final int FED = WASTE + 1;
    private static final int BELT = FED + 1;
    private static final int PLACES = BELT + 1;
    private static final int HOPPER_PLACE = 10;
    private static final int WASTE_PLACE = 11;
    private static final int MOST_FEED = 999;
    private static final int MOST_IN_HOPPER = 9999;
    private static final int MOST_PASSES = 200;
    private static final int MOST_PASSES_AHEAD = 300;

    private static final int MOST_BALES = 60;
    private static final int OWN_MATERIAL = 5;
    private static final int ALL_KILOS = 6;
    private static final int PURITY = 7;
    private static final int SAMPLED = 8;
    private static final int GRADE = 9;
    private static final int STATE = 10;
    private static final int BUYER = 11;
    private static final int BALE_NUMBERS = 12;
    private static final int IN_STOCK = 0;
    private static final int SOLD = 1;
    private static final int LOOPED = 2;
    private static final int WORST_GRADE = 3;

    private static final int MOST_CONTRACTS = 8;
    private static final int WISH = 0;
    private static final int FLOOR = 1;
    private static final int WANTED = 2;
    private static final int PRICE = 3;
    private static final int BALES_BOUGHT = 4;
    private static final int CONTRACT_NUMBERS = 5;
    private static final int MOST_FLOOR = 1000;
    private static final int MOST_WANTED = 9999;
    private static final int MOST_PRICE = 99;

    private static final int NOT_REFUSED = 0;
    private static final int NOT_IN_STOCK = 1;
    private static final int NO_CONTRACT = 2;
    private static final int NOT_PURE = 3;
    private static final int NOT_WANTED = 4;

    private static final int LAST_ACCOUNT = 15;
    private static final int SYNTAX_ERROR = -100;

    private final Plant now = new Plant();
    private final Plant trial = new Plant();
    private final Plant saved = new Plant();
    private final History history = new History();
    private final Report latest = new Report();
    private final Text text = new Text();
    private boolean isSaved;

    public RecyclingSorter() {
    }

    // ---- machines and settings

    public int addMachine(int target, int base, int error, int capacity, int loss)
            throws IndexOutOfBoundsException, IllegalArgumentException, IllegalStateException {
        needMaterial(target);
        boolean isFitting = isOfMachine(BASE, base) && isOfMachine(ERROR, error)
                && isOfMachine(CAPACITY, capacity) && isOfMachine(LOSS, loss);
        if (!isFitting) {
            throw new IllegalArgumentException("a number of the machine is out of range");
        }
        if (now.machineCount >= MOST_MACHINES) {
            throw new IllegalStateException("there is no room for one more machine");
        }
        history.keep(now);
        return now.addLast(target, base, error, capacity, loss);
    }

    public int removeMachine() throws NoSuchElementException {
        if (now.machineCount <= 0) {
            throw new NoSuchElementException("there are no machines");
        }
        history.keep(now);
        return now.removeLast();
    }

    public int exchange(int one, int other) throws IndexOutOfBoundsException {
        needMachine(one);
        needMachine(other);
        history.keep(now);
        now.machines.swapRows(one, other);
        now.places.swapRows(one, other);
        return one == other ? 0 : Math.abs(one - other) - 1;
    }

    public int setMachine(int machine, int what, int value)
            throws IndexOutOfBoundsException, IllegalArgumentException {
        needMachine(machine);
        if (!isOfMachine(what, value)) {
            throw new IllegalArgumentException("a machine has no such number");
        }
        history.keep(now);
        int previous = now.machines.get(machine, what);
        now.machines.put(machine, what, value);
        return previous;
    }

    public int machine(int machine, int what) throws IndexOutOfBoundsException, IllegalArgumentException {
        needMachine(machine);
        if (!isWithin(what, 0, MACHINE_NUMBERS - 1)) {
            throw new IllegalArgumentException("a machine has no such number");
        }
        return what == BUNKER ? now.places.sum(machine) : now.machines.get(machine, what);
    }

    public int rate(int machine, int flow, boolean isMistake)
            throws IndexOutOfBoundsException, IllegalArgumentException {
        needMachine(machine);
        if (!isWithin(flow, 0, MOST_FLOW)) {
            throw new IllegalArgumentException("the flow is out of range");
        }
        return now.rateOf(machine, flow, isMistake);
    }

    public int set(int what, int value) throws IndexOutOfBoundsException, IllegalArgumentException {
        if (!isWithin(what, 0, SETTINGS - 1)) {
            throw new IndexOutOfBoundsException("there is no such setting");
        }
        if (!isFitting(what, value, LEAST_OF_SETTING, MOST_OF_SETTING)) {
            throw new IllegalArgumentException("the setting is out of range");
        }
        history.keep(now);
        int previous = now.setting(what);
        now.settings.put(0, what, value);
        return previous;
    }

    public int seed(int z) {
        history.keep(now);
        int previous = now.z;
        now.z = z;
        return previous;
    }

    // ---- kilos and passes

    public int feed(int material, int kilos)
            throws IndexOutOfBoundsException, IllegalArgumentException, IllegalStateException {
        refuse(now.faultOfFeed(material, kilos));
        history.keep(now);
        return now.fill(material, kilos);
    }

    public int run(int limit) throws IllegalArgumentException, IllegalStateException {
        refuse(now.faultOfPasses(limit));
        history.keep(now);
        return now.makePasses(limit);
    }

    public boolean isSettled() throws IllegalStateException {
        needAnyMachine();
        trial.copyFrom(now);
        return !trial.makePass();
    }

    public int settlesAfter() throws IllegalStateException, NoSuchElementException {
        needAnyMachine();
        trial.copyFrom(now);
        for (int passes = 0; passes <= MOST_PASSES_AHEAD; passes++) {
            if (!trial.makePass()) {
                return passes;
            }
        }
        throw new NoSuchElementException("it does not settle soon enough");
    }

    public int kilos(int place, int material) throws IllegalArgumentException, IndexOutOfBoundsException {
        int row = rowOf(place);
        if (row == NONE) {
            throw new IllegalArgumentException("there is no such place");
        }
        if (material == ALL_MATERIALS) {
            return now.places.sum(row);
        }
        needMaterial(material);
        return now.places.get(row, material);
    }

    // ---- bales

    public int bale(int bale, int what) throws IndexOutOfBoundsException, IllegalArgumentException {
        needBale(bale);
        if (!isWithin(what, 0, BALE_NUMBERS - 1)) {
            throw new IllegalArgumentException("a bale has no such number");
        }
        return now.bales.numbers.get(bale, what);
    }

    public int ordered(int place) throws NoSuchElementException {
        if (!isWithin(place, 0, now.bales.putInOrder() - 1)) {
            throw new NoSuchElementException("there is no such place in the order");
        }
        return now.bales.atPlace(place);
    }

    public int stock(int material, int grade) throws IndexOutOfBoundsException, IllegalArgumentException {
        needMaterial(material);
        if (!isWithin(grade, 0, WORST_GRADE)) {
            throw new IllegalArgumentException("there is no such grade");
        }
        return now.bales.stockOf(material, grade);
    }

    // ---- contracts and sales

    public int contract(int material, int floor, int kilos, int price)
            throws IndexOutOfBoundsException, IllegalArgumentException, IllegalStateException {
        refuse(now.contracts.faultOfNew(material, floor, kilos, price));
        history.keep(now);
        return now.contracts.add(material, floor, kilos, price);
    }

    public int contractOf(int contract, int what) throws IndexOutOfBoundsException, IllegalArgumentException {
        if (!isWithin(contract, 0, now.contracts.count - 1)) {
            throw new IndexOutOfBoundsException("there is no such contract");
        }
        if (!isWithin(what, 0, CONTRACT_NUMBERS - 1)) {
            throw new IllegalArgumentException("a contract has no such number");
        }
        return now.contracts.numbers.get(contract, what);
    }

    public int sell(int bale) throws IndexOutOfBoundsException, UnsupportedOperationException {
        needBale(bale);
        if (reportsRefusal(now, NONE, bale)) {
            throw new UnsupportedOperationException("the sale is refused");
        }
        history.keep(now);
        return now.handOver(bale);
    }

    public int sellAll() {
        history.keep(now);
        return now.handOverAll();
    }

    public int wouldSell(int bale) throws IndexOutOfBoundsException, NoSuchElementException {
        needBale(bale);
        int buyer = now.buyerOf(bale);
        if (buyer == NONE) {
            throw new NoSuchElementException("the sale would be refused");
        }
        return buyer;
    }

    public int report(int level, boolean isDetail) throws NoSuchElementException {
        if (!isWithin(level, 0, latest.levels - 1)) {
            throw new NoSuchElementException("there is no such level of a report");
        }
        return latest.part(level, isDetail);
    }

    // ---- accounts

    public long account(int what) throws IllegalArgumentException {
        if (!isWithin(what, 0, LAST_ACCOUNT)) {
            throw new IllegalArgumentException("there is no such account");
        }
        return now.accountOf(what);
    }

    public double purity() throws ArithmeticException {
        double own = (double) now.bales.unloopedKilos(true);
        double all = (double) now.bales.unloopedKilos(false);
        if (all <= 0) {
            throw new ArithmeticException("there are no bales that are not looped");
        }
        return own / all;
    }

    public float wasted(int material) throws IndexOutOfBoundsException, ArithmeticException {
        needMaterial(material);
        float waste = (float) now.places.get(WASTE, material);
        float fed = (float) now.places.get(FED, material);
        if (fed <= 0) {
            throw new ArithmeticException("none of the material was fed");
        }
        return waste / fed;
    }

    // ---- commands, undo and snapshots

    public int append(char letter) throws IllegalStateException {
        if (text.isFull()) {
            throw new IllegalStateException("the input buffer is full");
        }
        return text.add(letter);
    }

    public int perform() throws UnsupportedOperationException {
        boolean isRight = text.parse();
        text.empty();
        if (!isRight) {
            return SYNTAX_ERROR - text.position;
        }
        trial.copyFrom(now);
        for (int command = 0; command < text.count; command++) {
            if (isRefused(command)) {
                throw new UnsupportedOperationException("a command of the text is refused");
            }
            carryOut(command);
        }
        history.keep(now);
        now.copyFrom(trial);
        return text.count;
    }

    public int undo() throws IllegalStateException {
        if (history.count <= 0) {
            throw new IllegalStateException("there is no change to take back");
        }
        history.takeBack(now);
        return history.count;
    }

    public int save() {
        saved.copyFrom(now);
        isSaved = true;
        return now.bales.count;
    }

    public int restore() throws IllegalStateException {
        if (!isSaved) {
            throw new IllegalStateException("nothing was saved");
        }
        now.copyFrom(saved);
        history.forget();
        return now.bales.count;
    }

    // ---- what the calls share

    private static boolean isWithin(int value, int least, int most) {
        return value >= least && value <= most;
    }

    private static boolean isFitting(int what, int value, int[] least, int[] most) {
        boolean isThere = what >= 0 && what < least.length && what < most.length;
        return isThere && isWithin(value, least[what], most[what]);
    }

    private static boolean isOfMachine(int what, int value) {
        return isFitting(what, value, LEAST_OF_MACHINE, MOST_OF_MACHINE);
    }

    private static boolean isMaterial(int material) {
        return isWithin(material, 0, LAST_MATERIAL);
    }

    private static int perThousand(int part, int whole) {
        return whole > 0 ? part * 1000 / whole : 0;
    }

    private static int gradeOf(int sampled) {
        if (sampled >= 950) {
            return 0;
        }
        if (sampled >= 850) {
            return 1;
        }
        return sampled >= 700 ? 2 : WORST_GRADE;
    }

    private static void needMaterial(int material) {
        if (!isMaterial(material)) {
            throw new IndexOutOfBoundsException("there is no such material");
        }
    }

    private static void refuse(Fault fault) {
        if (fault == Fault.NO_SUCH_MATERIAL) {
            throw new IndexOutOfBoundsException("there is no such material");
        }
        if (fault == Fault.OUT_OF_RANGE) {
            throw new IllegalArgumentException("a number is out of range");
        }
        if (fault == Fault.NOT_NOW) {
            throw new IllegalStateException("the sorter can't do this as it is");
        }
    }

    private void needMachine(int machine) {
        if (!isWithin(machine, 0, now.machineCount - 1)) {
            throw new IndexOutOfBoundsException("there is no such machine");
        }
    }

    private void needAnyMachine() {
        if (now.machineCount <= 0) {
            throw new IllegalStateException("there are no machines");
        }
    }

    private void needBale(int bale) {
        if (!now.bales.isThere(bale)) {
            throw new IndexOutOfBoundsException("there is no such bale");
        }
    }

    private int rowOf(int place) {
        if (place == HOPPER_PLACE) {
            return HOPPER;
        }
        if (place == WASTE_PLACE) {
            return WASTE;
        }
        return isWithin(place, 0, now.machineCount - 1) ? place : NONE;
    }

    /** Answers whether a sale is refused, and leaves the report of it if so. */
    private boolean reportsRefusal(Plant plant, int command, int bale) {
        int reason = plant.refusalOf(bale);
        if (reason == NOT_REFUSED) {
            return false;
        }
        latest.replace(command, bale, plant.bales.materialOf(bale), reason, plant.detailOf(bale, reason));
        return true;
    }

    /** Answers whether a command of the text can't be carried out on the trial plant as it is now. */
    private boolean isRefused(int command) {
        int first = text.number(command, 1);
        int second = text.number(command, 2);
        switch (text.number(command, Text.KIND)) {
            case Text.FEED:
                return trial.faultOfFeed(first, second) != Fault.NO_FAULT;
            case Text.RUN:
                return trial.faultOfPasses(first) != Fault.NO_FAULT;
            case Text.CONTRACT:
                int kilos = text.number(command, 3);
                int price = text.number(command, 4);
                return trial.contracts.faultOfNew(first, second, kilos, price) != Fault.NO_FAULT;
            default:
                return !trial.bales.isThere(first) || reportsRefusal(trial, command, first);
        }
    }

    private void carryOut(int command) {
        int first = text.number(command, 1);
        int second = text.number(command, 2);
        switch (text.number(command, Text.KIND)) {
            case Text.FEED:
                trial.fill(first, second);
                break;
            case Text.RUN:
                trial.makePasses(first);
                break;
            case Text.CONTRACT:
                trial.contracts.add(first, second, text.number(command, 3), text.number(command, 4));
                break;
            default:
                trial.handOver(first);
                break;
        }
    }

    /** Why a call is refused; the text of commands needs it without an exception. */
    private enum Fault { NO_FAULT, NO_SUCH_MATERIAL, OUT_OF_RANGE, NOT_NOW }

    /** Numbers in rows of the same width; each index is looked at here, so that none can throw. */
    private static final class Table {
        private final int width;
        private final int[] cells;

        Table(int rows, int width) {
            this.width = width;
            cells = new int[Math.max(0, rows * width)];
        }

        int get(int row, int column) {
            int cell = row * width + column;
            return cell >= 0 && cell < cells.length ? cells[cell] : 0;
        }

        void put(int row, int column, int value) {
            int cell = row * width + column;
            if (cell >= 0 && cell < cells.length) {
                cells[cell] = value;
            }
        }

        void add(int row, int column, int value) {
            put(row, column, get(row, column) + value);
        }

        void move(int from, int to, int column, int value) {
            add(from, column, -value);
            add(to, column, value);
        }

        int sum(int row) {
            int sum = 0;
            for (int column = 0; column < width; column++) {
                sum += get(row, column);
            }
            return sum;
        }

        int columnOfGreatest(int row) {
            int greatest = 0;
            for (int column = 1; column < width; column++) {
                if (get(row, column) > get(row, greatest)) {
                    greatest = column;
                }
            }
            return greatest;
        }

        void swapRows(int one, int other) {
            for (int column = 0; column < width; column++) {
                int kept = get(one, column);
                put(one, column, get(other, column));
                put(other, column, kept);
            }
        }

        void copyFrom(Table other) {
            System.arraycopy(other.cells, 0, cells, 0, Math.min(cells.length, other.cells.length));
        }
    }

    /** The bales that were made, looped ones too. */
    private static final class Bales {
        final Table numbers = new Table(MOST_BALES, BALE_NUMBERS);
        private final Table order = new Table(1, MOST_BALES);
        int count;

        void copyFrom(Bales other) {
            numbers.copyFrom(other.numbers);
            count = other.count;
        }

        boolean isThere(int bale) {
            return isWithin(bale, 0, count - 1);
        }

        int materialOf(int bale) {
            return numbers.get(bale, OWN_MATERIAL);
        }

        boolean isInStock(int bale) {
            return numbers.get(bale, STATE) == IN_STOCK;
        }

        int kilosIn(int state) {
            int kilos = 0;
            for (int bale = 0; bale < count; bale++) {
                kilos += numbers.get(bale, STATE) == state ? numbers.get(bale, ALL_KILOS) : 0;
            }
            return kilos;
        }

        int stockOf(int material, int mostGrade) {
            int kilos = 0;
            for (int bale = 0; bale < count; bale++) {
                boolean counts = isInStock(bale) && materialOf(bale) == material
                        && numbers.get(bale, GRADE) <= mostGrade;
                kilos += counts ? numbers.get(bale, ALL_KILOS) : 0;
            }
            return kilos;
        }

        int unloopedKilos(boolean isOwnOnly) {
            int kilos = 0;
            for (int bale = 0; bale < count; bale++) {
                if (numbers.get(bale, STATE) != LOOPED) {
                    kilos += numbers.get(bale, isOwnOnly ? materialOf(bale) : ALL_KILOS);
                }
            }
            return kilos;
        }

        /** Puts the bales in stock into their order and answers how many they are. */
        int putInOrder() {
            int many = 0;
            for (int bale = 0; bale < count; bale++) {
                if (isInStock(bale)) {
                    insert(bale, many);
                    many++;
                }
            }
            return many;
        }

        /** Answers the bale at a place of the order that was made last. */
        int atPlace(int place) {
            return order.get(0, place);
        }

        private void insert(int bale, int many) {
            int place = many;
            while (place > 0 && isAhead(bale, atPlace(place - 1))) {
                order.put(0, place, atPlace(place - 1));
                place--;
            }
            order.put(0, place, bale);
        }

        private boolean isAhead(int one, int other) {
            int grades = numbers.get(one, GRADE) - numbers.get(other, GRADE);
            int purities = numbers.get(one, SAMPLED) - numbers.get(other, SAMPLED);
            if (grades != 0) {
                return grades < 0;
            }
            return purities != 0 ? purities > 0 : one < other;
        }
    }

    /** The contracts and what they ask of a bale. */
    private static final class Contracts {
        final Table numbers = new Table(MOST_CONTRACTS, CONTRACT_NUMBERS);
        int count;

        void copyFrom(Contracts other) {
            numbers.copyFrom(other.numbers);
            count = other.count;
        }

        Fault faultOfNew(int material, int floor, int kilos, int price) {
            if (!isMaterial(material)) {
                return Fault.NO_SUCH_MATERIAL;
            }
            boolean isFitting = isWithin(floor, 0, MOST_FLOOR) && isWithin(kilos, 1, MOST_WANTED)
                    && isWithin(price, 1, MOST_PRICE);
            if (!isFitting) {
                return Fault.OUT_OF_RANGE;
            }
            return count >= MOST_CONTRACTS ? Fault.NOT_NOW : Fault.NO_FAULT;
        }

        int add(int material, int floor, int kilos, int price) {
            int contract = count;
            numbers.put(contract, WISH, material);
            numbers.put(contract, FLOOR, floor);
            numbers.put(contract, WANTED, kilos);
            numbers.put(contract, PRICE, price);
            numbers.put(contract, BALES_BOUGHT, 0);
            count++;
            return contract;
        }

        void take(int contract, int kilos) {
            numbers.add(contract, WANTED, -kilos);
            numbers.add(contract, BALES_BOUGHT, 1);
        }

        /** Answers the contract to which a bale with these numbers goes, or NONE. */
        int bestFor(int material, int purity, int kilos) {
            int best = NONE;
            for (int contract = 0; contract < count; contract++) {
                boolean isSuited = isFor(contract, material)
                        && purity >= numbers.get(contract, FLOOR) && kilos <= numbers.get(contract, WANTED);
                if (isSuited && (best == NONE || isBetter(contract, best))) {
                    best = contract;
                }
            }
            return best;
        }

        /** Answers the least floor of the contracts for a material, or NONE if there is no contract. */
        int leastFloor(int material) {
            int least = NONE;
            for (int contract = 0; contract < count; contract++) {
                int floor = numbers.get(contract, FLOOR);
                if (isFor(contract, material) && (least == NONE || floor < least)) {
                    least = floor;
                }
            }
            return least;
        }

        int mostWanted(int material, int purity) {
            int most = 0;
            for (int contract = 0; contract < count; contract++) {
                if (isFor(contract, material) && purity >= numbers.get(contract, FLOOR)) {
                    most = Math.max(most, numbers.get(contract, WANTED));
                }
            }
            return most;
        }

        private boolean isFor(int contract, int material) {
            return numbers.get(contract, WISH) == material;
        }

        private boolean isBetter(int one, int other) {
            int prices = numbers.get(one, PRICE) - numbers.get(other, PRICE);
            return prices != 0 ? prices > 0 : numbers.get(one, FLOOR) > numbers.get(other, FLOOR);
        }
    }

    /** All that undo and a snapshot are about. */
    private static final class Plant {
        final Table settings = new Table(1, SETTINGS);
        final Table machines = new Table(MOST_MACHINES, MACHINE_NUMBERS);
        final Table places = new Table(PLACES, MATERIALS);
        final Bales bales = new Bales();
        final Contracts contracts = new Contracts();
        private final Table remainders = new Table(1, MATERIALS);
        int machineCount;
        int z = 1;
        private int passCount;

        Plant() {
            settings.put(0, THROUGHPUT, 100);
            settings.put(0, LOOP, 50);
            settings.put(0, BALE_SIZE, 50);
            settings.put(0, SAMPLE, 10);
        }

        void copyFrom(Plant other) {
            settings.copyFrom(other.settings);
            machines.copyFrom(other.machines);
            places.copyFrom(other.places);
            bales.copyFrom(other.bales);
            contracts.copyFrom(other.contracts);
            machineCount = other.machineCount;
            z = other.z;
            passCount = other.passCount;
        }

        int setting(int what) {
            return settings.get(0, what);
        }

        int addLast(int target, int base, int error, int capacity, int loss) {
            int machine = machineCount;
            machines.put(machine, TARGET, target);
            machines.put(machine, BASE, base);
            machines.put(machine, ERROR, error);
            machines.put(machine, CAPACITY, capacity);
            machines.put(machine, LOSS, loss);
            machines.put(machine, BALES_MADE, 0);
            machineCount++;
            return machine;
        }

        int removeLast() {
            machineCount--;
            int kilos = places.sum(machineCount);
            for (int material = 0; material < MATERIALS; material++) {
                places.move(machineCount, HOPPER, material, places.get(machineCount, material));
            }
            return kilos;
        }

        int rateOf(int machine, int flow, boolean isMistake) {
            int excess = Math.max(0, flow - machines.get(machine, CAPACITY)) / 10;
            if (isMistake) {
                return Math.min(MOST_MISTAKE, machines.get(machine, ERROR) + excess);
            }
            int loss = machines.get(machine, LOSS) * excess;
            return Math.max(LEAST_CATCH, machines.get(machine, BASE) - loss);
        }

        Fault faultOfFeed(int material, int kilos) {
            if (!isMaterial(material)) {
                return Fault.NO_SUCH_MATERIAL;
            }
            if (!isWithin(kilos, 1, MOST_FEED)) {
                return Fault.OUT_OF_RANGE;
            }
            return places.sum(HOPPER) + kilos > MOST_IN_HOPPER ? Fault.NOT_NOW : Fault.NO_FAULT;
        }

        int fill(int material, int kilos) {
            places.add(HOPPER, material, kilos);
            places.add(FED, material, kilos);
            return places.get(HOPPER, material);
        }

        Fault faultOfPasses(int limit) {
            if (!isWithin(limit, 1, MOST_PASSES)) {
                return Fault.OUT_OF_RANGE;
            }
            return machineCount <= 0 ? Fault.NOT_NOW : Fault.NO_FAULT;
        }

        int makePasses(int limit) {
            int passes = 0;
            // A pass that changes nothing is one that a settled sorter doesn't make.
            while (passes < limit && places.sum(HOPPER) > 0 && makePass()) {
                passes++;
            }
            passCount += passes;
            return passes;
        }

        /** Makes a pass, which the caller counts, and answers whether anything is different then. */
        boolean makePass() {
            int earlier = bales.count;
            takeShare(HOPPER, Math.min(setting(THROUGHPUT), places.sum(HOPPER)), places, BELT);
            int gone = 0;
            for (int machine = 0; machine < machineCount; machine++) {
                gone += sortOut(machine);
            }
            gone += clearBelt();
            for (int machine = 0; machine < machineCount; machine++) {
                int size = setting(BALE_SIZE);
                for (int bale = bales.count; bale < MOST_BALES && places.sum(machine) >= size; bale++) {
                    makeBale(bale, machine, size);
                }
            }
            // What is neither caught nor waste is in the hopper again, as it was.
            return gone > 0 || bales.count > earlier;
        }

        /** Moves what a machine catches from the belt into its bunker and answers how much that is. */
        private int sortOut(int machine) {
            int flow = places.sum(BELT);
            int target = machines.get(machine, TARGET);
            int caught = 0;
            for (int material = 0; material < MATERIALS; material++) {
                int percent = rateOf(machine, flow, material != target);
                int kilos = places.get(BELT, material) * percent / 100;
                places.move(BELT, machine, material, kilos);
                caught += kilos;
            }
            return caught;
        }

        /** Moves what is left on the belt to the hopper and the waste and answers how much is waste. */
        private int clearBelt() {
            int wasted = 0;
            for (int material = 0; material < MATERIALS; material++) {
                int left = places.get(BELT, material);
                int back = left * setting(LOOP) / 100;
                places.move(BELT, HOPPER, material, back);
                places.move(BELT, WASTE, material, left - back);
                wasted += left - back;
            }
            return wasted;
        }

        private void makeBale(int bale, int machine, int size) {
            Table numbers = bales.numbers;
            int material = machines.get(machine, TARGET);
            takeShare(machine, size, numbers, bale);
            int sampled = sampledPurity(bale, material, size);
            int grade = gradeOf(sampled);
            boolean isLooped = grade == WORST_GRADE && setting(LOOPING) > 0;
            numbers.put(bale, OWN_MATERIAL, material);
            numbers.put(bale, ALL_KILOS, size);
            numbers.put(bale, PURITY, perThousand(numbers.get(bale, material), size));
            numbers.put(bale, SAMPLED, sampled);
            numbers.put(bale, GRADE, grade);
            numbers.put(bale, STATE, isLooped ? LOOPED : IN_STOCK);
            numbers.put(bale, BUYER, NONE);
            bales.count = bale + 1;
            machines.add(machine, BALES_MADE, 1);
            for (int each = 0; each < MATERIALS && isLooped; each++) {
                places.add(HOPPER, each, numbers.get(bale, each));
            }
        }

        /** Takes kilos in proportion out of a place; they replace what the row of the target had. */
        private void takeShare(int place, int kilos, Table target, int row) {
            int all = places.sum(place);
            int missing = kilos;
            for (int material = 0; material < MATERIALS; material++) {
                long product = (long) places.get(place, material) * kilos;
                int share = all > 0 ? (int) (product / all) : 0;
                remainders.put(0, material, all > 0 ? (int) (product % all) : 0);
                target.put(row, material, share);
                missing -= share;
            }
            for (int given = 0; given < missing; given++) {
                int next = remainders.columnOfGreatest(0);
                target.add(row, next, 1);
                remainders.put(0, next, NONE);
            }
            for (int material = 0; material < MATERIALS; material++) {
                places.add(place, material, -target.get(row, material));
            }
        }

        private int sampledPurity(int bale, int material, int size) {
            // The kilos of the own material lie in one stretch, behind those of lower materials.
            int first = 0;
            for (int lower = 0; lower < material; lower++) {
                first += bales.numbers.get(bale, lower);
            }
            int behind = first + bales.numbers.get(bale, material);
            int looks = setting(SAMPLE);
            int hits = 0;
            for (int look = 0; look < looks; look++) {
                z = z * 1103515245 + 12345;
                int kilo = size > 0 ? (z >>> 16) % size : 0;
                hits += isWithin(kilo, first, behind - 1) ? 1 : 0;
            }
            return perThousand(hits, looks);
        }

        /** Answers the contract to which a bale would be sold, or NONE. */
        int buyerOf(int bale) {
            if (!bales.isInStock(bale)) {
                return NONE;
            }
            int purity = bales.numbers.get(bale, SAMPLED);
            return contracts.bestFor(bales.materialOf(bale), purity, bales.numbers.get(bale, ALL_KILOS));
        }

        int refusalOf(int bale) {
            int floor = contracts.leastFloor(bales.materialOf(bale));
            if (!bales.isInStock(bale)) {
                return NOT_IN_STOCK;
            }
            if (floor == NONE) {
                return NO_CONTRACT;
            }
            if (bales.numbers.get(bale, SAMPLED) < floor) {
                return NOT_PURE;
            }
            return buyerOf(bale) == NONE ? NOT_WANTED : NOT_REFUSED;
        }

        int detailOf(int bale, int reason) {
            int material = bales.materialOf(bale);
            switch (reason) {
                case NOT_IN_STOCK:
                    return bales.numbers.get(bale, STATE);
                case NO_CONTRACT:
                    return material;
                case NOT_PURE:
                    return contracts.leastFloor(material);
                default:
                    return contracts.mostWanted(material, bales.numbers.get(bale, SAMPLED));
            }
        }

        /** Sells a bale that a contract takes and answers the contract. */
        int handOver(int bale) {
            int buyer = buyerOf(bale);
            contracts.take(buyer, bales.numbers.get(bale, ALL_KILOS));
            bales.numbers.put(bale, STATE, SOLD);
            bales.numbers.put(bale, BUYER, buyer);
            return buyer;
        }

        int handOverAll() {
            int many = bales.putInOrder();
            int sold = 0;
            for (int place = 0; place < many; place++) {
                int bale = bales.atPlace(place);
                if (buyerOf(bale) != NONE) {
                    handOver(bale);
                    sold++;
                }
            }
            return sold;
        }

        /** Answers an account by the number that the document gives it. */
        long accountOf(int what) {
            switch (what) {
                case 5:
                    return places.sum(HOPPER);
                case 6:
                    return kilosInBunkers();
                case 7:
                    return bales.kilosIn(IN_STOCK);
                case 8:
                    return bales.kilosIn(SOLD);
                case 9:
                    return places.sum(WASTE);
                case 10:
                    return bales.count;
                case 11:
                    return contracts.count;
                case 12:
                    return passCount;
                case 13:
                    return paid();
                case 14:
                    return machineCount;
                case 15:
                    return z;
                default:
                    return places.get(FED, what);
            }
        }

        private int kilosInBunkers() {
            int kilos = 0;
            for (int machine = 0; machine < machineCount; machine++) {
                kilos += places.sum(machine);
            }
            return kilos;
        }

        private long paid() {
            long paid = 0;
            for (int bale = 0; bale < bales.count; bale++) {
                if (bales.numbers.get(bale, STATE) == SOLD) {
                    int price = contracts.numbers.get(bales.numbers.get(bale, BUYER), PRICE);
                    paid += (long) bales.numbers.get(bale, ALL_KILOS) * price;
                }
            }
            return paid;
        }
    }

    /** The latest changes, each as the plant ahead of it, in a ring. */
    private static final class History {
        private static final int MOST_KEPT = 8;
        private final Plant[] ring = new Plant[MOST_KEPT];
        private int newest;
        int count;

        History() {
            for (int slot = 0; slot < ring.length; slot++) {
                ring[slot] = new Plant();
            }
        }

        void keep(Plant plant) {
            newest = (newest + 1) % MOST_KEPT;
            count = Math.min(count + 1, MOST_KEPT);
            Plant kept = newestKept();
            if (kept != null) {
                kept.copyFrom(plant);
            }
        }

        void takeBack(Plant plant) {
            Plant kept = newestKept();
            if (kept != null) {
                plant.copyFrom(kept);
            }
            newest = (newest + MOST_KEPT - 1) % MOST_KEPT;
            count--;
        }

        void forget() {
            count = 0;
        }

        private Plant newestKept() {
            return newest >= 0 && newest < ring.length ? ring[newest] : null;
        }
    }

    /** The report that the latest refused sale left; without one it has no levels. */
    private static final class Report {
        private static final int SALE_LEVELS = 2;
        private static final int COMMAND_CAUSE = 9;
        private final Table parts = new Table(SALE_LEVELS + 1, 2);
        int levels;

        /** Replaces the report; a command of NONE is a sale that was no command of a text. */
        void replace(int command, int bale, int material, int reason, int detail) {
            int level = 0;
            if (command != NONE) {
                fill(level, COMMAND_CAUSE, command);
                level++;
            }
            fill(level, bale, material);
            fill(level + 1, reason, detail);
            levels = level + SALE_LEVELS;
        }

        int part(int level, boolean isDetail) {
            return parts.get(level, isDetail ? 1 : 0);
        }

        private void fill(int level, int first, int second) {
            parts.put(level, 0, first);
            parts.put(level, 1, second);
        }
    }

    /** The input buffer, and the commands that were parsed from it last. */
    private static final class Text {
        static final int KIND = 0;
        static final char FEED = 'f';
        static final char RUN = 'r';
        static final char CONTRACT = 'c';
        static final char SALE = 's';
        private static final int MOST_LETTERS = 80;
        // A command has at least two letters and all but one have a semicolon ahead.
        private static final int MOST_COMMANDS = (MOST_LETTERS + 1) / 3;
        private static final int COMMAND_NUMBERS = 5;
        private static final int MOST_DIGITS = 4;
        private static final char DIGIT_PART = 'd';
        private static final char NUMBER_PART = 'n';

        private final char[] letters = new char[MOST_LETTERS];
        private final Table commands = new Table(MOST_COMMANDS, COMMAND_NUMBERS);
        private int length;
        int position;
        int count;

        boolean isFull() {
            return length >= MOST_LETTERS;
        }

        int add(char letter) {
            if (length >= 0 && length < letters.length) {
                letters[length] = letter;
                length++;
            }
            return length;
        }

        void empty() {
            length = 0;
        }

        int number(int command, int column) {
            return commands.get(command, column);
        }

        /** Parses the buffer; if it is no text of commands, the position is that of the error then. */
        boolean parse() {
            position = 0;
            for (int command = 0; command < MOST_COMMANDS; command++) {
                if (command > 0 && !takes(';') || !parsesCommand(command)) {
                    return false;
                }
                count = command + 1;
                if (position >= length) {
                    return true;
                }
            }
            return false;
        }

        private boolean parsesCommand(int command) {
            int kind = peek();
            String form = formOf(kind);
            if (form.isEmpty()) {
                return false;
            }
            position++;
            commands.put(command, KIND, kind);
            int column = KIND;
            for (int index = 0; index < form.length(); index++) {
                char part = form.charAt(index);
                if (part == DIGIT_PART || part == NUMBER_PART) {
                    int number = parseNumber(part == DIGIT_PART ? 1 : MOST_DIGITS);
                    if (number == NONE) {
                        return false;
                    }
                    column++;
                    commands.put(command, column, number);
                } else if (!takes(part)) {
                    return false;
                }
            }
            return true;
        }

        /** Answers what comes behind the letter of a command: parts of digits, and signs as they are. */
        private static String formOf(int kind) {
            switch (kind) {
                case FEED:
                    return "d=n";
                case CONTRACT:
                    return "d@n*n$n";
                case RUN:
                case SALE:
                    return "n";
                default:
                    return "";
            }
        }

        private int parseNumber(int mostDigits) {
            int number = NONE;
            for (int digits = 0; digits < mostDigits && isWithin(peek(), '0', '9'); digits++) {
                number = Math.max(0, number) * 10 + peek() - '0';
                position++;
            }
            return number;
        }

        private boolean takes(char letter) {
            if (peek() != letter) {
                return false;
            }
            position++;
            return true;
        }

        /** Answers the letter at the position, or NONE behind the last one. */
        private int peek() {
            boolean isThere = position >= 0 && position < length && position < letters.length;
            if (!isThere) {
                return NONE;
            }
            return letters[position];
        }
    }
}
