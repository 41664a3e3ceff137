/** One method a promise: ordinary inputs, the edges that the document names, and wrong inputs, worked out by hand. */
public final class PromiseTest extends Given {
    private static final Checks CHECKS = new Checks();

    public static void main(String[] args) {
        newObject();
        draft();
        scrap();
        add();
        remove();
        endings();
        length();
        letter();
        ending();
        rank();
        count();
        place();
        slots();
        after();
        before();
        common();
        distinct();
        repeated();
        refusedCallsChangeNothing();
        objectsAreApart();
        CHECKS.finish("PromiseTest");
    }

    private static void due(String call, int got, int want) {
        CHECKS.due(call, got, want);
    }

    private static void newObject() {
        EndingIndex x = new EndingIndex();
        for (int s = 0; s < 6; s++) {
            due("1: length(" + s + ")", x.length(s), 0);
            due("1: letter(" + s + ", 0)", x.letter(s, 0), NONE);
            due("1: remove(" + s + ")", x.remove(s), NONE);
            due("1: rank(" + 16 * s + ")", x.rank(16 * s), NONE);
            due("1: add(" + s + ")", x.add(s), NONE);
        }
        due("1: endings()", x.endings(), 0);
        due("1: ending(0)", x.ending(0), NONE);
        due("1: count(1)", x.count(1), 0);
        due("1: place(1, 0)", x.place(1, 0), NONE);
        due("1: slots(1)", x.slots(1), 0);
        due("1: after(1)", x.after(1), 0);
        due("1: before(1)", x.before(1), 0);
        due("1: common(0)", x.common(0), NONE);
        due("1: common(-1)", x.common(-1), NONE);
        due("1: distinct()", x.distinct(), 0);
        due("1: repeated()", x.repeated(), 0);
        due("1: draft(0)", x.draft(0), 1);
    }

    private static void draft() {
        EndingIndex x = new EndingIndex();
        for (int l : new int[] {-1, 4, 5, LEAST, GREATEST}) {
            due("2: draft(" + l + ")", x.draft(l), BAD_ARG);
        }
        for (int n = 1; n <= 9; n++) {
            due("2: draft(" + n % 4 + ")", x.draft(n % 4), n);
        }
        for (int l = 0; l < 4; l++) {
            due("2: the tenth, draft(" + l + ")", x.draft(l), FULL);
        }
        due("2: a wrong letter is told before a full draft", x.draft(4), BAD_ARG);
        due("2: a wrong letter is told before a full draft", x.draft(-1), BAD_ARG);
        due("2: add(0)", x.add(0), 10);
        for (int i = 0; i < 9; i++) {
            due("2: letter(0, " + i + ")", x.letter(0, i), (i + 1) % 4);
        }
        due("2: draft(2) after add", x.draft(2), 1);
    }

    private static void scrap() {
        EndingIndex x = with("01");
        x.scrap();
        due("3: an empty draft stays empty", x.add(1), NONE);
        write(x, "333333333");
        x.scrap();
        due("3: add(1)", x.add(1), NONE);
        due("3: the texts stay", x.length(0), 2);
        due("3: endings()", x.endings(), 3);
        due("3: draft(2)", x.draft(2), 1);
        due("3: add(1)", x.add(1), 5);
        due("3: letter(1, 0)", x.letter(1, 0), 2);
        due("3: letter(1, 1)", x.letter(1, 1), NONE);
    }

    private static void add() {
        EndingIndex x = new EndingIndex();
        for (int s : NO_SLOTS) {
            due("4: add(" + s + ") with an empty draft", x.add(s), BAD_ARG);
        }
        due("4: add(5) with an empty draft", x.add(5), NONE);
        write(x, "3120");
        for (int s : NO_SLOTS) {
            due("4: add(" + s + ")", x.add(s), BAD_ARG);
        }
        due("4: add(5)", x.add(5), 5);
        due("4: length(5)", x.length(5), 4);
        due("4: a full slot is told before an empty draft", x.add(5), FULL);
        due("4: the draft is empty afterwards", x.add(4), NONE);
        write(x, "1");
        due("4: add(5) again", x.add(5), FULL);
        due("4: the refused draft is kept", x.draft(2), 2);
        due("4: add(0)", x.add(0), 8);
        due("4: letter(5, 0)", x.letter(5, 0), 3);
        due("4: letter(0, 0)", x.letter(0, 0), 1);
        due("4: letter(0, 1)", x.letter(0, 1), 2);
        EndingIndex full = new EndingIndex();
        for (int s = 0; s < 6; s++) {
            write(full, "012301230");
            due("4: the longest text, add(" + s + ")", full.add(s), 10 * (s + 1));
        }
        due("4: all slots full", full.add(0), FULL);
    }

    private static void remove() {
        EndingIndex x = with("01", "", "2", "010");
        for (int s : NO_SLOTS) {
            due("5: remove(" + s + ")", x.remove(s), BAD_ARG);
        }
        due("5: remove(1)", x.remove(1), NONE);
        x.draft(3);
        due("5: remove(0)", x.remove(0), 6);
        due("5: remove(0) again", x.remove(0), NONE);
        due("5: length(0)", x.length(0), 0);
        due("5: letter(0, 0)", x.letter(0, 0), NONE);
        due("5: rank(0)", x.rank(0), NONE);
        due("5: slots(1)", x.slots(1), 12);
        due("5: the others keep their order", x.ending(0), 33);
        due("5: the others keep their order", x.ending(1), 51);
        due("5: the others keep their order", x.ending(5), 32);
        due("5: the draft stays", x.draft(3), 2);
        due("5: add(0)", x.add(0), 9);
        due("5: letter(0, 1)", x.letter(0, 1), 3);
        due("5: remove(3)", x.remove(3), 5);
        due("5: remove(2)", x.remove(2), 3);
        due("5: remove(0)", x.remove(0), 0);
        due("5: endings()", x.endings(), 0);
    }

    private static void endings() {
        EndingIndex x = new EndingIndex();
        due("6: endings()", x.endings(), 0);
        x.draft(1);
        due("6: a draft has no endings", x.endings(), 0);
        x.add(3);
        due("6: the empty ending counts", x.endings(), 2);
        write(x, "000000000");
        x.add(0);
        due("6: endings()", x.endings(), 12);
        x.remove(3);
        due("6: endings()", x.endings(), 10);
    }

    private static void length() {
        EndingIndex x = with("0", "", "123", "", "", "321032103");
        int[] lengths = {1, 0, 3, 0, 0, 9};
        for (int s = 0; s < 6; s++) {
            due("7: length(" + s + ")", x.length(s), lengths[s]);
        }
        for (int s : NO_SLOTS) {
            due("7: length(" + s + ")", x.length(s), BAD_ARG);
        }
    }

    private static void letter() {
        EndingIndex x = with("0123", "", "", "", "", "332211003");
        for (int i = 0; i < 4; i++) {
            due("8: letter(0, " + i + ")", x.letter(0, i), i);
        }
        for (int i = 0; i < 9; i++) {
            due("8: letter(5, " + i + ")", x.letter(5, i), "332211003".charAt(i) - '0');
        }
        for (int i : new int[] {-1, 4, 9, 15, 80, LEAST, GREATEST}) {
            due("8: letter(0, " + i + ")", x.letter(0, i), NONE);
        }
        due("8: letter(5, 9)", x.letter(5, 9), NONE);
        due("8: letter(5, -80)", x.letter(5, -80), NONE);
        due("8: letter(1, 0)", x.letter(1, 0), NONE);
        for (int s : NO_SLOTS) {
            due("8: letter(" + s + ", 0)", x.letter(s, 0), NONE);
        }
    }

    private static void dueOrder(String what, EndingIndex x, int... numbers) {
        for (int r = 0; r < numbers.length; r++) {
            due("9: " + what + ": ending(" + r + ")", x.ending(r), numbers[r]);
            due("10: " + what + ": rank(" + numbers[r] + ")", x.rank(numbers[r]), r);
        }
        due("9: " + what + ": ending behind the last", x.ending(numbers.length), NONE);
    }

    private static void ending() {
        dueOrder("a begin comes first", with("000"), 3, 2, 1, 0);
        dueOrder("letter by letter, not by length", with("10", "011"), 2, 19, 1, 16, 18, 0, 17);
        dueOrder("the same: lesser slot first", with("20", "20", "20"), 2, 18, 34, 1, 17, 33, 0, 16, 32);
        EndingIndex late = new EndingIndex();
        write(late, "20");
        late.add(4);
        write(late, "20");
        late.add(1);
        dueOrder("the same: slots, not the order of coming", late, 18, 66, 17, 65, 16, 64);
        EndingIndex x = with("0", "13");
        for (int r : new int[] {-1, 5, 6, 60, 100, LEAST, GREATEST}) {
            due("9: ending(" + r + ")", x.ending(r), NONE);
        }
    }

    private static void rank() {
        EndingIndex x = with("23", "", "1", "", "", "321032103");
        due("10: the empty ending of slot 0", x.rank(2), 0);
        due("10: the empty ending of slot 2", x.rank(33), 1);
        due("10: the empty ending of slot 5", x.rank(89), 2);
        due("10: rank(80)", x.rank(80), 14);
        for (int number : new int[] {-1, -16, 3, 15, 16, 17, 31, 34, 48, 90, 95, 96, 112, LEAST, GREATEST}) {
            due("10: rank(" + number + ")", x.rank(number), NONE);
        }
    }

    private static void count() {
        EndingIndex x = with("010101010", "1010", "", "3");
        due("11: the empty pattern stands everywhere", x.count(1), 17);
        due("11: count of 0", x.count(pattern("0")), 7);
        due("11: count of 1", x.count(pattern("1")), 6);
        due("11: count of 2", x.count(pattern("2")), 0);
        due("11: count of 3", x.count(pattern("3")), 1);
        due("11: count of 33", x.count(pattern("33")), 0);
        due("11: count of 010", x.count(pattern("010")), 5);
        due("11: count of 010101", x.count(pattern("010101")), 2);
        due("11: the greatest pattern", x.count(8191), 0);
        due("11: the greatest pattern", with("333333333").count(8191), 4);
        due("11: zeros in front are letters", with("001").count(pattern("001")), 1);
        due("11: zeros in front are letters", with("1").count(pattern("001")), 0);
        for (int p : NO_PATTERNS) {
            due("11: count(" + p + ")", x.count(p), BAD_ARG);
        }
    }

    private static void place() {
        EndingIndex x = with("0102", "", "01");
        int p = pattern("0");
        due("12: place(0, 0)", x.place(p, 0), 32);
        due("12: place(0, 1)", x.place(p, 1), 0);
        due("12: place(0, 2)", x.place(p, 2), 2);
        for (int k : new int[] {3, 4, 60, GREATEST, -1, LEAST}) {
            due("12: place(0, " + k + ")", x.place(p, k), NONE);
        }
        due("12: the empty pattern, the first", x.place(1, 0), 4);
        due("12: the empty pattern, the last", x.place(1, 7), 3);
        due("12: the empty pattern, behind the last", x.place(1, 8), NONE);
        due("12: a pattern that stands nowhere", x.place(pattern("3"), 0), NONE);
        for (int q : NO_PATTERNS) {
            due("12: place(" + q + ", 0)", x.place(q, 0), BAD_ARG);
            due("12: place(" + q + ", -1), the pattern is tested first", x.place(q, -1), BAD_ARG);
        }
    }

    private static void slots() {
        EndingIndex x = with("0123", "12", "", "2", "", "331233120");
        due("13: the empty pattern stands in every text, and in no empty slot", x.slots(1), 43);
        due("13: slots of 12", x.slots(pattern("12")), 35);
        due("13: slots of 2", x.slots(pattern("2")), 43);
        due("13: slots of 0", x.slots(pattern("0")), 33);
        due("13: slots of 331233", x.slots(pattern("331233")), 32);
        due("13: slots of 22", x.slots(pattern("22")), 0);
        for (int p : NO_PATTERNS) {
            due("13: slots(" + p + ")", x.slots(p), BAD_ARG);
        }
    }

    private static void after() {
        EndingIndex x = with("0120", "03", "012", "", "", "321032103");
        due("14: the empty pattern: all letters in use", x.after(1), 15);
        due("14: after 0", x.after(pattern("0")), 10);
        due("14: after 2", x.after(pattern("2")), 3);
        due("14: after 12", x.after(pattern("12")), 1);
        due("14: nothing follows the end of a text", x.after(pattern("0120")), 0);
        due("14: nor does the next slot's text", x.after(pattern("03")), 4);
        due("14: a pattern that stands nowhere", x.after(pattern("22")), 0);
        due("14: six letters, a seventh behind them", x.after(pattern("321032")), 2);
        due("14: six letters at the end of a text", x.after(pattern("032103")), 0);
        for (int p : NO_PATTERNS) {
            due("14: after(" + p + ")", x.after(p), BAD_ARG);
        }
    }

    private static void before() {
        EndingIndex x = with("0120", "03", "312", "", "", "321032103");
        due("15: the empty pattern: all letters in use", x.before(1), 15);
        due("15: the empty pattern: the last letter too", with("01").before(1), 3);
        due("15: before 12", x.before(pattern("12")), 9);
        due("15: before 0", x.before(pattern("0")), 6);
        due("15: before 3", x.before(pattern("3")), 1);
        due("15: nothing is before the begin of a text", x.before(pattern("0120")), 0);
        due("15: a pattern that stands nowhere", x.before(pattern("22")), 0);
        due("15: six letters, one before them", x.before(pattern("032103")), 2);
        due("15: six letters at the begin of a text alone", with("321032").before(pattern("321032")), 0);
        for (int p : NO_PATTERNS) {
            due("15: before(" + p + ")", x.before(p), BAD_ARG);
        }
    }

    private static void dueCommon(EndingIndex x, int... shared) {
        for (int r = 0; r < shared.length; r++) {
            due("16: common(" + r + ")", x.common(r), shared[r]);
        }
        due("16: the last has no next", x.common(shared.length), NONE);
    }

    private static void common() {
        // By rank: nothing, 01, 0101, 1, 101.
        dueCommon(with("0101"), 0, 2, 0, 1);
        // By rank: nothing, nothing, 0, 01, 010, 0101, 1, 10, 101.
        EndingIndex x = with("0101", "010");
        dueCommon(x, 0, 0, 1, 2, 3, 0, 1, 2);
        for (int r : new int[] {8, 9, -1, -2, LEAST, GREATEST - 1, GREATEST}) {
            due("16: common(" + r + ")", x.common(r), NONE);
        }
        EndingIndex twins = with("012301230", "012301230");
        due("16: two the same have all in common", twins.common(twins.rank(0)), 9);
    }

    private static void distinct() {
        due("17: one letter", with("2").distinct(), 1);
        due("17: 000", with("000").distinct(), 3);
        due("17: 0123", with("0123").distinct(), 10);
        due("17: the same twice", with("0123", "0123").distinct(), 10);
        due("17: 0101", with("0101").distinct(), 7);
        due("17: 01 and 10", with("01", "10").distinct(), 4);
        due("17: lists do not go over two texts", with("0", "1").distinct(), 2);
        EndingIndex x = with("0123", "012");
        x.draft(3);
        due("17: the draft does not count", x.distinct(), 10);
        x.remove(0);
        due("17: after remove", x.distinct(), 6);
    }

    private static void repeated() {
        due("18: one text of different letters", with("0123").repeated(), 0);
        due("18: two texts without a common letter", with("01", "23").repeated(), 0);
        due("18: one letter", with("020").repeated(), 1);
        due("18: overlapping", with("0000").repeated(), 3);
        due("18: over two texts", with("30120", "10123").repeated(), 3);
        EndingIndex x = with("012301230", "", "", "", "", "012301230");
        due("18: the longest", x.repeated(), 9);
        x.remove(5);
        due("18: after remove", x.repeated(), 5);
        x.remove(0);
        due("18: no text", x.repeated(), 0);
    }

    private static void refusedCallsChangeNothing() {
        EndingIndex x = with("0120", "", "3");
        write(x, "21");
        x.draft(4);
        x.draft(-1);
        x.add(-1);
        x.add(6);
        x.add(0);
        x.remove(1);
        x.remove(-1);
        x.remove(6);
        x.count(0);
        x.place(2, 0);
        x.rank(96);
        x.common(GREATEST);
        due("refused: endings()", x.endings(), 7);
        due("refused: length(0)", x.length(0), 4);
        due("refused: length(1)", x.length(1), 0);
        due("refused: ending(6)", x.ending(6), 32);
        due("refused: add(1)", x.add(1), 10);
        due("refused: length(1)", x.length(1), 2);
        due("refused: letter(1, 0)", x.letter(1, 0), 2);
        due("refused: letter(1, 1)", x.letter(1, 1), 1);
    }

    private static void objectsAreApart() {
        EndingIndex one = with("01");
        EndingIndex other = new EndingIndex();
        one.draft(2);
        due("apart: endings()", other.endings(), 0);
        due("apart: draft(3)", other.draft(3), 1);
        due("apart: add(0)", other.add(0), 2);
        due("apart: letter(0, 0)", one.letter(0, 0), 0);
    }
}
