import java.util.Random;

/** Long runs of made-up calls, each answered by the class and by the model, which have to agree in all that shows. */
public final class ComparisonTest {
    private static final int RUNS = 60;
    private static final int CALLS = 512;

    private final Random random;
    private final String run;
    private final RecyclingSorter sorter = new RecyclingSorter();
    private final Model model = new Model();
    /** What a run is fond of, so that some fill the bales, some the contracts, and some stay small. */
    private final int mood;

    private ComparisonTest(int seed) {
        random = new Random(seed);
        run = "seed " + seed + ", call ";
        mood = seed % 4;
    }

    public static void main(String[] args) {
        for (int seed = 0; seed < RUNS && Check.wrongSoFar() == 0; seed++) {
            new ComparisonTest(seed).compare();
        }
        Check.end();
    }

    private void compare() {
        for (int call = 0; call < CALLS && Check.wrongSoFar() == 0; call++) {
            step(run + call + ", ");
        }
    }

    private void both(String what, Check.Call ofModel, Check.Call ofSorter) {
        Object want;
        try {
            want = ofModel.answer();
        } catch (RuntimeException refusal) {
            want = refusal.getClass().getName();
        }
        Check.due(what, want, ofSorter);
    }

    /** A number of a range, sometimes one of its ends or next to them, seldom any int. */
    private int about(int least, int most) {
        int kind = random.nextInt(24);
        if (kind == 0) {
            return least - 1;
        }
        if (kind == 1) {
            return most + 1;
        }
        if (kind == 2) {
            return least;
        }
        if (kind == 3) {
            return most;
        }
        if (kind == 4 && random.nextInt(4) == 0) {
            return random.nextInt();
        }
        return least + random.nextInt(most - least + 1);
    }

    private void step(String call) {
        int kind = random.nextInt(100);
        if (kind < 30) {
            grow(call, kind);
        } else if (kind < 60) {
            trade(call, kind - 30);
        } else if (kind < 75) {
            change(call, kind - 60);
        } else {
            ask(call, random.nextInt(14));
        }
        look(call);
    }

    private void grow(String call, int kind) {
        if (kind < 4) {
            int target = about(0, 4);
            int base = about(10, 100);
            int error = about(0, mood == 1 ? 90 : 20);
            int capacity = about(1, 500);
            int loss = about(0, 9);
            both(call + "addMachine", () -> model.addMachine(target, base, error, capacity, loss),
                    () -> sorter.addMachine(target, base, error, capacity, loss));
        } else if (kind < 16) {
            int material = about(0, 4);
            int kilos = about(1, mood == 3 ? 60 : 999);
            both(call + "feed " + material + " " + kilos, () -> model.feed(material, kilos),
                    () -> sorter.feed(material, kilos));
        } else if (kind < 26) {
            int limit = random.nextInt(3) == 0 ? about(1, 200) : about(1, 4);
            both(call + "run " + limit, () -> model.run(limit), () -> sorter.run(limit));
        } else if (kind < 28) {
            int what = about(0, 4);
            int[] least = {1, 0, 10, 1, 0};
            int[] most = {500, 100, 200, 50, 1};
            int value = what >= 0 && what < 5 ? about(least[what], most[what]) : 0;
            both(call + "set " + what + " " + value, () -> model.set(what, value), () -> sorter.set(what, value));
        } else {
            int z = random.nextInt();
            both(call + "seed " + z, () -> model.seed(z), () -> sorter.seed(z));
        }
    }

    private void trade(String call, int kind) {
        if (kind < 5) {
            int material = about(0, 4);
            int floor = about(0, 1000);
            int kilos = random.nextInt(2) == 0 ? about(1, 150) : about(1, 9999);
            int price = random.nextInt(2) == 0 ? about(1, 3) : about(1, 99);
            both(call + "contract", () -> model.contract(material, floor, kilos, price),
                    () -> sorter.contract(material, floor, kilos, price));
        } else if (kind < 14) {
            int bale = about(0, 59);
            both(call + "sell " + bale, () -> model.sell(bale), () -> sorter.sell(bale));
        } else if (kind < 15) {
            both(call + "sellAll", model::sellAll, sorter::sellAll);
        } else {
            String text = text();
            for (int letter = 0; letter < text.length(); letter++) {
                char next = text.charAt(letter);
                both(call + "append", () -> model.append(next), () -> sorter.append(next));
            }
            if (random.nextInt(12) != 0) {
                both(call + "perform " + text, model::perform, sorter::perform);
            }
        }
    }

    private String text() {
        StringBuilder text = new StringBuilder();
        int commands = 1 + random.nextInt(random.nextInt(6) == 0 ? 12 : 3);
        for (int command = 0; command < commands; command++) {
            text.append(command == 0 ? "" : ";").append(command());
        }
        if (random.nextInt(5) == 0) {
            String letters = "frcs0123456789=@*$;x\u0000\u20ac ";
            int at = random.nextInt(text.length() + 1);
            char letter = letters.charAt(random.nextInt(letters.length()));
            switch (random.nextInt(3)) {
                case 0:
                    text.insert(at, letter);
                    break;
                case 1:
                    text.setLength(at);
                    break;
                default:
                    text.setCharAt(Math.min(at, text.length() - 1), letter);
                    break;
            }
        }
        return text.toString();
    }

    private String command() {
        int material = random.nextInt(20) == 0 ? 5 + random.nextInt(5) : random.nextInt(5);
        switch (random.nextInt(6)) {
            case 0:
                return "r" + random.nextInt(random.nextInt(9) == 0 ? 210 : 9);
            case 1:
                return "c" + material + "@" + random.nextInt(1005) + "*" + random.nextInt(300) + "$"
                        + random.nextInt(100);
            case 2:
            case 3:
                return "s" + random.nextInt(40);
            default:
                return "f" + material + "=" + random.nextInt(random.nextInt(20) == 0 ? 12000 : 300);
        }
    }

    private void change(String call, int kind) {
        if (kind < 5) {
            both(call + "undo", model::undo, sorter::undo);
        } else if (kind < 6) {
            both(call + "save", model::save, sorter::save);
        } else if (kind < 7 && random.nextInt(3) == 0) {
            both(call + "restore", model::restore, sorter::restore);
        } else if (kind < 8 && random.nextInt(3) == 0) {
            both(call + "removeMachine", model::removeMachine, sorter::removeMachine);
        } else if (kind < 11) {
            int one = about(0, 5);
            int other = about(0, 5);
            both(call + "exchange " + one + " " + other, () -> model.exchange(one, other),
                    () -> sorter.exchange(one, other));
        } else {
            int machine = about(0, 3);
            int what = about(0, 4);
            int[] least = {0, 10, 0, 1, 0};
            int[] most = {4, 100, 90, 500, 9};
            int value = what >= 0 && what < 5 ? about(least[what], most[what]) : 0;
            both(call + "setMachine " + machine + " " + what + " " + value,
                    () -> model.setMachine(machine, what, value), () -> sorter.setMachine(machine, what, value));
        }
    }

    private void ask(String call, int kind) {
        int one = about(0, 11);
        int two = about(-1, 12);
        int flow = about(0, 9999);
        boolean is = random.nextBoolean();
        switch (kind) {
            case 0:
                both(call + "machine", () -> model.machine(one, two), () -> sorter.machine(one, two));
                break;
            case 1:
                both(call + "rate", () -> model.rate(one, flow, is), () -> sorter.rate(one, flow, is));
                break;
            case 2:
                both(call + "isSettled", () -> model.isSettled(), () -> sorter.isSettled());
                break;
            case 3:
                both(call + "settlesAfter", model::settlesAfter, sorter::settlesAfter);
                break;
            case 4:
                both(call + "kilos", () -> model.kilos(one, two), () -> sorter.kilos(one, two));
                break;
            case 5:
                both(call + "bale", () -> model.bale(one, two), () -> sorter.bale(one, two));
                break;
            case 6:
                both(call + "ordered", () -> model.ordered(one), () -> sorter.ordered(one));
                break;
            case 7:
                both(call + "stock", () -> model.stock(one, two), () -> sorter.stock(one, two));
                break;
            case 8:
                both(call + "contractOf", () -> model.contractOf(one, two), () -> sorter.contractOf(one, two));
                break;
            case 9:
                both(call + "wouldSell", () -> model.wouldSell(one), () -> sorter.wouldSell(one));
                break;
            case 10:
                both(call + "report", () -> model.report(two, is), () -> sorter.report(two, is));
                break;
            case 11:
                both(call + "account", () -> model.account(two), () -> sorter.account(two));
                break;
            case 12:
                both(call + "wasted", () -> model.wasted(two), () -> sorter.wasted(two));
                break;
            default:
                both(call + "purity", model::purity, sorter::purity);
                break;
        }
    }

    /** Looks at all that can be seen, now and then at the dear parts too. */
    private void look(String call) {
        for (int what = 0; what <= 15; what++) {
            int account = what;
            both(call + "then account " + what, () -> model.account(account), () -> sorter.account(account));
        }
        for (int level = 0; level < 3; level++) {
            int which = level;
            both(call + "then report", () -> model.report(which, false), () -> sorter.report(which, false));
            both(call + "then report", () -> model.report(which, true), () -> sorter.report(which, true));
        }
        if (random.nextInt(8) == 0) {
            lookAtAll(call);
        }
    }

    private void lookAtAll(String call) {
        both(call + "then settlesAfter", model::settlesAfter, sorter::settlesAfter);
        both(call + "then purity", model::purity, sorter::purity);
        for (int row = 0; row < 60; row++) {
            int which = row;
            both(call + "then ordered", () -> model.ordered(which), () -> sorter.ordered(which));
            both(call + "then wouldSell", () -> model.wouldSell(which), () -> sorter.wouldSell(which));
            for (int column = -1; column <= 12; column++) {
                int what = column;
                both(call + "then bale", () -> model.bale(which, what), () -> sorter.bale(which, what));
            }
        }
        for (int row = 0; row < 12; row++) {
            int which = row;
            for (int column = -1; column < 8; column++) {
                int what = column;
                both(call + "then machine", () -> model.machine(which, what), () -> sorter.machine(which, what));
                both(call + "then kilos", () -> model.kilos(which, what), () -> sorter.kilos(which, what));
                both(call + "then contractOf", () -> model.contractOf(which, what),
                        () -> sorter.contractOf(which, what));
                both(call + "then stock", () -> model.stock(which, what), () -> sorter.stock(which, what));
            }
        }
    }
}
