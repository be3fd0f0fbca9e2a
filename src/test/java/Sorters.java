/** The sorters that the tests begin with. */
final class Sorters {
    static final int HOPPER = 10;
    static final int WASTE = 11;
    static final int MOST_LETTERS = 80;

    private Sorters() {
    }

    /** A machine that catches all of material 0 and nothing else. */
    static RecyclingSorter perfect() {
        RecyclingSorter x = new RecyclingSorter();
        x.addMachine(0, 100, 0, 500, 0);
        return x;
    }

    /** Has as many pure bales of material 0, with 50 kilos each. */
    static RecyclingSorter withBales(int bales) {
        RecyclingSorter x = perfect();
        for (int bale = 0; bale < bales; bale++) {
            x.feed(0, 50);
        }
        x.run(200);
        return x;
    }

    /** Makes one more bale of 50 kilos, with others in it of material 1; one look is taken, at the kilo 38. */
    static void mixedBale(RecyclingSorter x, int own) {
        x.set(3, 1);
        x.seed(1);
        rawBale(x, own, 50);
    }

    /** The same with a size, and with the sample and the number z as they are. */
    static void rawBale(RecyclingSorter x, int own, int size) {
        x.setMachine(0, 2, 90);
        x.set(1, 0);
        x.set(2, size);
        if (own > 0) {
            x.feed(0, own);
        }
        feedCaught(x, 1, size - own);
        x.run(1);
    }

    /** Feeds so much that just as many kilos are caught by a mistake of 90. */
    static void feedCaught(RecyclingSorter x, int material, int kilos) {
        x.feed(material, kilos > 0 ? kilos * 100 / 90 + 1 : 1);
    }

    /** Makes one more bale of 50 of which just so many looks are at own kilos; for that a z is searched for. */
    static void sampledBale(RecyclingSorter x, int hits, int sample) {
        int own = Math.max(1, Math.min(49, hits * 50 / sample));
        int z = 0;
        while (hitsBy(z, own, sample) != hits) {
            z++;
        }
        x.set(3, sample);
        x.seed(z);
        rawBale(x, own, 50);
    }

    private static int hitsBy(int seed, int own, int sample) {
        int z = seed;
        int hits = 0;
        for (int look = 0; look < sample; look++) {
            z = z * 1103515245 + 12345;
            hits += (z >>> 16) % 50 < own ? 1 : 0;
        }
        return hits;
    }

    /** Machines with something in their bunkers, bales of all three kinds, contracts, a snapshot, a report, letters. */
    static RecyclingSorter busy() {
        RecyclingSorter x = withBales(3);
        x.contract(0, 500, 120, 7);
        x.contract(0, 1000, 49, 9);
        x.contract(1, 0, 9999, 99);
        x.sell(1);
        x.set(4, 1);
        mixedBale(x, 38);
        x.set(1, 40);
        x.save();
        x.addMachine(1, 80, 10, 60, 2);
        x.feed(1, 20);
        x.feed(3, 77);
        x.run(1);
        x.set(0, 120);
        x.exchange(0, 1);
        x.seed(-5);
        Check.answerOf(() -> x.sell(1));
        put(x, "r1;s");
        return x;
    }

    static RecyclingSorter withFullRow() {
        RecyclingSorter x = busy();
        for (int machine = 2; machine < 6; machine++) {
            x.addMachine(machine - 1, 50, 5, 100, 1);
        }
        return x;
    }

    static RecyclingSorter withFullContracts() {
        RecyclingSorter x = busy();
        for (int contract = 3; contract < 8; contract++) {
            x.contract(contract % 5, 900, 500, 2);
        }
        return x;
    }

    /** Has just 9999 kilos in its hopper. */
    static RecyclingSorter withFullHopper() {
        RecyclingSorter x = busy();
        for (int missing = 9999 - x.kilos(HOPPER, -1); missing > 0; missing -= Math.min(missing, 999)) {
            x.feed(2, Math.min(missing, 999));
        }
        return x;
    }

    static RecyclingSorter withFullBuffer() {
        RecyclingSorter x = busy();
        put(x, "0".repeat(MOST_LETTERS - "r1;s".length()));
        return x;
    }

    static int put(RecyclingSorter x, String text) {
        int length = 0;
        for (int letter = 0; letter < text.length(); letter++) {
            length = x.append(text.charAt(letter));
        }
        return length;
    }

    static int perform(RecyclingSorter x, String text) {
        put(x, text);
        return x.perform();
    }
}
