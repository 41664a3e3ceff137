import java.util.function.ToIntFunction;

/** Every rank, number, place and pattern, and some beyond, over a few sets of texts, against the plain model. */
public final class SweepTest {
    private static final int MOST_CALLS = 512;

    // One row a set of texts, by slot; "" leaves the slot empty.
    private static final String[][] SETS = {
        {"", "", "", "", "", ""},
        {"", "", "", "", "", "3"},
        {"012301230", "321032103", "12301", "22122", "01", "12301"},
        {"000000000", "000000000", "000000000", "000000000", "000000000", "000000000"},
        {"333333333", "", "33333333", "", "333", "3"},
        {"010010100", "100101001", "001010010", "", "", "010"},
        {"012012012", "", "", "", "", "120120120"},
        {"130213021", "302130213", "021302130", "213021302", "130213021", "033112200"},
    };

    private final Checks checks;
    private final String[] texts;
    private final PlainModel model = new PlainModel();
    private EndingIndex index;
    private int calls = MOST_CALLS;

    private SweepTest(Checks checks, String[] texts) {
        this.checks = checks;
        this.texts = texts;
        for (int s = 0; s < texts.length; s++) {
            for (char c : texts[s].toCharArray()) {
                model.draft(c - '0');
            }
            model.add(s);
        }
    }

    public static void main(String[] args) {
        Checks checks = new Checks();
        for (String[] texts : SETS) {
            SweepTest test = new SweepTest(checks, texts);
            test.sweepEndings();
            test.sweepPatterns();
        }
        checks.finish("SweepTest");
    }

    // The document promises an object's answers for 512 calls alone, so a sweep needs many objects.
    private void same(String call, ToIntFunction<EndingIndex> ask, int want) {
        if (calls >= MOST_CALLS) {
            calls = 0;
            index = new EndingIndex();
            for (int s = 0; s < texts.length; s++) {
                for (char c : texts[s].toCharArray()) {
                    index.draft(c - '0');
                    calls++;
                }
                index.add(s);
                calls++;
            }
        }
        calls++;
        checks.due(String.join(" ", texts) + ": " + call, ask.applyAsInt(index), want);
    }

    private void sweepEndings() {
        same("endings()", x -> x.endings(), model.endings());
        same("distinct()", x -> x.distinct(), model.distinct());
        same("repeated()", x -> x.repeated(), model.repeated());
        for (int n = -20; n < 130; n++) {
            int a = n;
            same("ending(" + a + ")", x -> x.ending(a), model.ending(a));
            same("rank(" + a + ")", x -> x.rank(a), model.rank(a));
            same("common(" + a + ")", x -> x.common(a), model.common(a));
            same("length(" + a + ")", x -> x.length(a), model.length(a));
            for (int s = -1; s < 7; s++) {
                int slot = s;
                same("letter(" + slot + ", " + a + ")", x -> x.letter(slot, a), model.letter(slot, a));
            }
        }
    }

    private void sweepPatterns() {
        for (int n = -5; n < 8200; n++) {
            int p = n;
            int found = model.count(p);
            same("count(" + p + ")", x -> x.count(p), found);
            same("slots(" + p + ")", x -> x.slots(p), model.slots(p));
            same("after(" + p + ")", x -> x.after(p), model.after(p));
            same("before(" + p + ")", x -> x.before(p), model.before(p));
            for (int j = -1; j <= found + 1; j++) {
                int k = j;
                same("place(" + p + ", " + k + ")", x -> x.place(p, k), model.place(p, k));
            }
        }
    }
}
