import java.util.function.Supplier;

/**
 * All that can be seen of a sorter, as a text. Since some of it can only be seen by changing something, the sorter is
 * made anew for each part.
 */
final class Trace {
    private static final int MOST_UNDONE = 9;
    private static final int[] LEAST_SETTINGS = {1, 0, 10, 1, 0};

    private final StringBuilder seen = new StringBuilder();
    private final boolean isWithReport;

    private Trace(boolean isWithReport) {
        this.isWithReport = isWithReport;
    }

    static String of(Supplier<RecyclingSorter> make) {
        return new Trace(true).whole(make);
    }

    static String withoutReport(Supplier<RecyclingSorter> make) {
        return new Trace(false).whole(make);
    }

    /** What undo and a snapshot are about: not the report, the buffer, the changes and the snapshot itself. */
    static String ofPlant(Supplier<RecyclingSorter> make) {
        Trace trace = new Trace(false);
        trace.look(make.get());
        trace.lookAtSettings(make.get());
        return trace.seen.toString();
    }

    private String whole(Supplier<RecyclingSorter> make) {
        look(make.get());
        lookAtSettings(make.get());
        lookAtChanges(make.get());
        lookAtSnapshot(make.get());
        lookAtBuffer(make.get());
        return seen.toString();
    }

    private void add(Check.Call call) {
        seen.append(Check.answerOf(call)).append(' ');
    }

    private void part(String name) {
        seen.append('\n').append(name).append(": ");
    }

    private void look(RecyclingSorter x) {
        part("accounts");
        for (int each = 0; each <= 15; each++) {
            int what = each;
            add(() -> x.account(what));
        }
        lookAtMachines(x);
        lookAtBales(x);
        lookAtContracts(x);
        part("settling");
        add(x::isSettled);
        add(x::settlesAfter);
        for (int level = 0; level < 3 && isWithReport; level++) {
            int which = level;
            part("report " + level);
            add(() -> x.report(which, false));
            add(() -> x.report(which, true));
        }
    }

    private void lookAtMachines(RecyclingSorter x) {
        for (int row = 0; row < x.account(14); row++) {
            int machine = row;
            part("machine " + row);
            for (int each = 0; each < 7; each++) {
                int what = each;
                add(() -> x.machine(machine, what));
            }
        }
        for (int row = 0; row < 12; row++) {
            int place = row;
            part("place " + row);
            for (int each = -1; each < 5; each++) {
                int material = each;
                add(() -> x.kilos(place, material));
            }
        }
    }

    private void lookAtBales(RecyclingSorter x) {
        for (int row = 0; row < x.account(10); row++) {
            int bale = row;
            part("bale " + row);
            for (int each = 0; each < 12; each++) {
                int what = each;
                add(() -> x.bale(bale, what));
            }
            add(() -> x.wouldSell(bale));
            add(() -> x.ordered(bale));
        }
        for (int row = 0; row < 5; row++) {
            int material = row;
            part("stock and waste " + row);
            for (int each = 0; each < 4; each++) {
                int grade = each;
                add(() -> x.stock(material, grade));
            }
            add(() -> x.wasted(material));
        }
        add(x::purity);
    }

    private void lookAtContracts(RecyclingSorter x) {
        for (int row = 0; row < x.account(11); row++) {
            int contract = row;
            part("contract " + row);
            for (int each = 0; each < 5; each++) {
                int what = each;
                add(() -> x.contractOf(contract, what));
            }
        }
    }

    private void lookAtSettings(RecyclingSorter x) {
        part("settings");
        for (int each = 0; each < LEAST_SETTINGS.length; each++) {
            int what = each;
            add(() -> x.set(what, LEAST_SETTINGS[what]));
        }
    }

    private void lookAtChanges(RecyclingSorter x) {
        for (int change = 0; change < MOST_UNDONE; change++) {
            part("undo " + change);
            add(x::undo);
            look(x);
        }
        lookAtSettings(x);
    }

    private void lookAtSnapshot(RecyclingSorter x) {
        part("restore");
        add(x::restore);
        look(x);
        lookAtSettings(x);
    }

    private void lookAtBuffer(RecyclingSorter x) {
        part("buffer");
        // A comma continues no text, so that the answer tells how far the buffer was right, or how long it was.
        add(() -> x.append(','));
        add(x::perform);
    }
}
