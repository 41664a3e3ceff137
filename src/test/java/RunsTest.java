/**
 * Long mixed runs of calls, right and wrong ones, on an EndingIndex and on the plain model at once.
 * The runs are made by a fixed arithmetic rule, so they are the same every time.
 */
public final class RunsTest {
    private static final int RUNS = 600;
    private static final int CALLS = 512;
    private static final int[] ODD_NUMBERS = {
        Integer.MIN_VALUE, Integer.MIN_VALUE + 1, -8192, -17, -16, -4, -1, 10, 16, 60, 96, 100, 8191, 8192, 16384,
        1 << 30, Integer.MAX_VALUE - 1, Integer.MAX_VALUE};

    private final Checks checks;
    private final EndingIndex index = new EndingIndex();
    private final PlainModel model = new PlainModel();
    private final int run;
    private final int kindsOfLetters;
    private long seed;

    private RunsTest(Checks checks, int run) {
        this.checks = checks;
        this.run = run;
        this.seed = run * 7919L + 1;
        // Few kinds of letters make long repeats and texts that are the same.
        this.kindsOfLetters = 1 + run % 4;
    }

    public static void main(String[] args) {
        Checks checks = new Checks();
        for (int run = 0; run < RUNS; run++) {
            RunsTest test = new RunsTest(checks, run);
            for (int call = 0; call < CALLS; call++) {
                test.anyCall(call);
            }
        }
        checks.finish("RunsTest");
    }

    private int below(int bound) {
        seed = seed * 6364136223846793005L + 1442695040888963407L;
        return (int) ((seed >>> 33) % bound);
    }

    private int mostlyBelow(int bound) {
        return below(20) == 0 ? ODD_NUMBERS[below(ODD_NUMBERS.length)] : below(bound);
    }

    private int pattern() {
        if (below(8) == 0) {
            return mostlyBelow(8200);
        }
        int p = 1;
        for (int n = below(7); n > 0; n--) {
            p = p * 4 + below(kindsOfLetters);
        }
        return p;
    }

    private void same(int call, String what, int got, int want) {
        checks.due("run " + run + ", call " + call + ": " + what, got, want);
    }

    private void anyCall(int call) {
        int kind = below(36);
        if (kind < 14) {
            int l = below(25) == 0 ? mostlyBelow(6) : below(kindsOfLetters);
            same(call, "draft(" + l + ")", index.draft(l), model.draft(l));
        } else if (kind < 17) {
            int s = mostlyBelow(7);
            same(call, "add(" + s + ")", index.add(s), model.add(s));
        } else if (kind == 17) {
            int s = mostlyBelow(7);
            same(call, "remove(" + s + ")", index.remove(s), model.remove(s));
        } else if (kind == 18 && below(4) == 0) {
            index.scrap();
            model.scrap();
        } else if (kind < 27) {
            askForEndings(call);
        } else {
            askForPattern(call);
        }
    }

    private void askForEndings(int call) {
        int r = mostlyBelow(62);
        int number = mostlyBelow(98);
        int s = mostlyBelow(7);
        int i = mostlyBelow(11);
        switch (below(8)) {
            case 0 -> same(call, "endings()", index.endings(), model.endings());
            case 1 -> same(call, "length(" + s + ")", index.length(s), model.length(s));
            case 2 -> same(call, "letter(" + s + ", " + i + ")", index.letter(s, i), model.letter(s, i));
            case 3 -> same(call, "ending(" + r + ")", index.ending(r), model.ending(r));
            case 4 -> same(call, "rank(" + number + ")", index.rank(number), model.rank(number));
            case 5 -> same(call, "common(" + r + ")", index.common(r), model.common(r));
            case 6 -> same(call, "distinct()", index.distinct(), model.distinct());
            default -> same(call, "repeated()", index.repeated(), model.repeated());
        }
    }

    private void askForPattern(int call) {
        int p = pattern();
        int k = mostlyBelow(12);
        switch (below(5)) {
            case 0 -> same(call, "count(" + p + ")", index.count(p), model.count(p));
            case 1 -> same(call, "place(" + p + ", " + k + ")", index.place(p, k), model.place(p, k));
            case 2 -> same(call, "slots(" + p + ")", index.slots(p), model.slots(p));
            case 3 -> same(call, "after(" + p + ")", index.after(p), model.after(p));
            default -> same(call, "before(" + p + ")", index.before(p), model.before(p));
        }
    }
}
