/** One method for each sentence of the promises that names a boundary case; the name begins with the promise's number. */
public final class EdgeTest extends Given {
    private static final Checks CHECKS = new Checks();

    public static void main(String[] args) {
        promises1To3();
        promises4And5();
        promises6To10();
        promises11To13();
        promises14And15();
        promises16To18();
        CHECKS.finish("EdgeTest");
    }

    private static void promises1To3() {
        p1AllSlotsAreEmpty();
        p1TheDraftIsEmpty();
        p2NoLetterAnswersBadArg();
        p2NineLettersAnswerFull();
        p2NoLetterIsTestedBeforeNineLetters();
        p2OtherwiseTheLength();
        p2AppendsBehindTheOthers();
        p3EmptiesAFullDraft();
        p3EmptiesAnEmptyDraft();
        p3LeavesTheTexts();
    }

    private static void promises4And5() {
        p4NoSlotAnswersBadArg();
        p4NoSlotIsTestedBeforeAnEmptyDraft();
        p4ASlotWithATextAnswersFull();
        p4AFullSlotIsTestedBeforeAnEmptyDraft();
        p4AnEmptyDraftAnswersNone();
        p4OtherwiseTheNumberOfAllEndings();
        p4TheDraftIsEmptyAfterwards();
        p4TheDraftBecomesTheText();
        p5NoSlotAnswersBadArg();
        p5AnEmptySlotAnswersNone();
        p5OtherwiseTheNumberOfAllEndings();
        p5TheSlotBecomesEmpty();
        p5TheOtherSlotsAndTheDraftStay();
    }

    private static void promises6To10() {
        p6NoTexts();
        p6AllFull();
        p6TheDraftHasNoEndings();
        p7AnEmptySlotHasLength0();
        p7TheShortestAndTheLongestText();
        p7NoSlotAnswersBadArg();
        p8TheFirstAndTheLastPlace();
        p8NoPlaceAnswersNone();
        p8NoPlaceInAnEmptySlot();
        p8NoSlotAnswersNone();
        p9NoRankAnswersNone();
        p9TheFirstAndTheLastRank();
        p10NoNumberAnswersNone();
        p10NumbersBetweenTwoSlots();
        p10TheLeastAndTheGreatestNumber();
    }

    private static void promises11To13() {
        p11NoPatternAnswersBadArg();
        p11NowhereIs0();
        p11TheMostPlaces();
        p12NoPatternAnswersBadArg();
        p12NoPatternIsTestedFirst();
        p12NoSuchPlaceAnswersNone();
        p12TheFirstIs0ByRank();
        p13NoPatternAnswersBadArg();
        p13NowhereIsTheEmptySet();
        p13OneSlotAndAllSlots();
        p13TheEmptyPatternStandsInNoEmptySlot();
    }

    private static void promises14And15() {
        p14NoPatternAnswersBadArg();
        p14NowhereIsTheEmptySet();
        p14OneLetterAndAllLetters();
        p14NothingIsBehindTheEnd();
        p14TheEmptyPattern();
        p14SixLetters();
        p15NoPatternAnswersBadArg();
        p15NowhereIsTheEmptySet();
        p15OneLetterAndAllLetters();
        p15NothingIsInFrontOfTheBegin();
        p15TheEmptyPattern();
        p15SixLetters();
    }

    private static void promises16To18() {
        p16NoSuchTwoAnswersNone();
        p16NothingAndAllInCommon();
        p17NoText();
        p17TheFewestAndTheMost();
        p17TheEmptyListDoesNotCount();
        p17TheSameListCountsOnce();
        p18NoneIs0();
        p18TheLeastAndTheGreatest();
        p18AtLeastTwoEndings();
    }

    private static void due(String call, int got, int want) {
        CHECKS.due(call, got, want);
    }

    // "All slots and the draft are empty."
    private static void p1AllSlotsAreEmpty() {
        EndingIndex x = new EndingIndex();
        for (int s = 0; s < 6; s++) {
            due("1: length(" + s + ")", x.length(s), 0);
            due("1: letter(" + s + ", 0)", x.letter(s, 0), NONE);
            due("1: remove(" + s + ")", x.remove(s), NONE);
        }
        due("1: endings()", x.endings(), 0);
        due("1: slots(1)", x.slots(1), 0);
    }

    private static void p1TheDraftIsEmpty() {
        for (int s = 0; s < 6; s++) {
            due("1: add(" + s + ")", new EndingIndex().add(s), NONE);
        }
        due("1: draft(3)", new EndingIndex().draft(3), 1);
    }

    // "l not 0 to 3 answers BAD_ARG"
    private static void p2NoLetterAnswersBadArg() {
        for (int l : NO_LETTERS) {
            EndingIndex x = new EndingIndex();
            due("2: draft(" + l + ")", x.draft(l), BAD_ARG);
            due("2: draft(" + l + ") leaves the draft empty", x.add(0), NONE);
        }
        for (int l = 0; l < 4; l++) {
            due("2: draft(" + l + ")", new EndingIndex().draft(l), 1);
        }
    }

    // "9 letters answers FULL"
    private static void p2NineLettersAnswerFull() {
        for (int l = 0; l < 4; l++) {
            EndingIndex x = new EndingIndex();
            write(x, "33221100");
            due("2: the ninth, draft(" + l + ")", x.draft(l), 9);
            due("2: the tenth, the same letter again", x.draft(l), FULL);
            due("2: the tenth, another letter", x.draft(3 - l), FULL);
            x.add(0);
            CHECKS.due("2: the draft stays", textOf(x, 0), "33221100" + l);
        }
    }

    // "Tested in this order"
    private static void p2NoLetterIsTestedBeforeNineLetters() {
        EndingIndex x = new EndingIndex();
        write(x, LONGEST);
        for (int l : NO_LETTERS) {
            due("2: a full draft, draft(" + l + ")", x.draft(l), BAD_ARG);
        }
    }

    // "Otherwise its length."
    private static void p2OtherwiseTheLength() {
        EndingIndex x = new EndingIndex();
        for (int n = 1; n <= 9; n++) {
            due("2: letter number " + n, x.draft(0), n);
        }
    }

    // "Appends letter l to the draft."
    private static void p2AppendsBehindTheOthers() {
        CHECKS.due("2: the letters in the order of coming", textOf(only(0, "321001233"), 0), "321001233");
    }

    // "Empties the draft."
    private static void p3EmptiesAFullDraft() {
        EndingIndex x = new EndingIndex();
        write(x, "333333333");
        x.scrap();
        due("3: nothing to add", x.add(0), NONE);
        due("3: there is room again", x.draft(1), 1);
        x.add(0);
        CHECKS.due("3: nothing of it is left", textOf(x, 0), "1");
    }

    private static void p3EmptiesAnEmptyDraft() {
        EndingIndex x = new EndingIndex();
        x.scrap();
        x.scrap();
        due("3: nothing to add", x.add(0), NONE);
        due("3: draft(0)", x.draft(0), 1);
    }

    private static void p3LeavesTheTexts() {
        EndingIndex x = sixTimes(LONGEST);
        write(x, "3");
        x.scrap();
        CHECKS.due("3: all texts and the order stay", seenOf(x), seenOf(sixTimes(LONGEST)));
    }

    // "s not 0 to 5 answers BAD_ARG"
    private static void p4NoSlotAnswersBadArg() {
        for (int s : NO_SLOTS) {
            EndingIndex x = new EndingIndex();
            x.draft(2);
            due("4: add(" + s + ")", x.add(s), BAD_ARG);
            due("4: add(" + s + ") leaves the draft", x.draft(2), 2);
            due("4: add(" + s + ") adds no ending", x.endings(), 0);
        }
        for (int s = 0; s < 6; s++) {
            EndingIndex x = new EndingIndex();
            x.draft(2);
            due("4: add(" + s + ")", x.add(s), 2);
        }
    }

    // "Tested in this order"
    private static void p4NoSlotIsTestedBeforeAnEmptyDraft() {
        EndingIndex full = sixTimes("0");
        for (int s : NO_SLOTS) {
            due("4: an empty draft, add(" + s + ")", new EndingIndex().add(s), BAD_ARG);
            due("4: an empty draft and full slots, add(" + s + ")", full.add(s), BAD_ARG);
        }
    }

    // "the slot has a text answers FULL"
    private static void p4ASlotWithATextAnswersFull() {
        for (int s = 0; s < 6; s++) {
            EndingIndex x = only(s, "1");
            write(x, "22");
            due("4: a slot with a text, add(" + s + ")", x.add(s), FULL);
            CHECKS.due("4: the text stays", textOf(x, s), "1");
            due("4: the draft stays", x.draft(2), 3);
        }
        EndingIndex full = sixTimes(LONGEST);
        full.draft(0);
        for (int s = 0; s < 6; s++) {
            due("4: all slots full, add(" + s + ")", full.add(s), FULL);
        }
    }

    private static void p4AFullSlotIsTestedBeforeAnEmptyDraft() {
        EndingIndex x = sixTimes("2");
        for (int s = 0; s < 6; s++) {
            due("4: a slot with a text and an empty draft, add(" + s + ")", x.add(s), FULL);
        }
    }

    // "the draft is empty answers NONE"
    private static void p4AnEmptyDraftAnswersNone() {
        EndingIndex x = with("0", "1", "2", "3", "0");
        due("4: an empty draft, add(5)", x.add(5), NONE);
        due("4: the slot stays empty", x.length(5), 0);
        due("4: no ending comes", x.endings(), 10);
    }

    // "Otherwise the number of all endings."
    private static void p4OtherwiseTheNumberOfAllEndings() {
        for (int n = 1; n <= 9; n++) {
            EndingIndex x = new EndingIndex();
            for (int s = 0; s < 6; s++) {
                write(x, LONGEST.substring(0, n));
                due("4: " + n + " letters, add(" + s + ")", x.add(s), (s + 1) * (n + 1));
            }
        }
    }

    // "and is empty afterwards"
    private static void p4TheDraftIsEmptyAfterwards() {
        EndingIndex x = new EndingIndex();
        write(x, LONGEST);
        x.add(0);
        due("4: nothing left to add", x.add(1), NONE);
        due("4: room again", x.draft(1), 1);
        x.add(1);
        CHECKS.due("4: nothing of the first draft is left", textOf(x, 1), "1");
    }

    // "The draft becomes the text in slot s"
    private static void p4TheDraftBecomesTheText() {
        for (int s = 0; s < 6; s++) {
            EndingIndex x = only(s, "310220133");
            CHECKS.due("4: the text in slot " + s, textOf(x, s), "310220133");
            for (int other = 0; other < 6; other++) {
                due("4: add(" + s + "), length(" + other + ")", x.length(other), other == s ? 9 : 0);
            }
        }
    }

    // "BAD_ARG if s is not 0 to 5"
    private static void p5NoSlotAnswersBadArg() {
        EndingIndex x = sixTimes("0");
        for (int s : NO_SLOTS) {
            due("5: no texts, remove(" + s + ")", new EndingIndex().remove(s), BAD_ARG);
            due("5: all slots full, remove(" + s + ")", x.remove(s), BAD_ARG);
        }
        due("5: all are left", x.endings(), 12);
    }

    // "NONE if it is empty"
    private static void p5AnEmptySlotAnswersNone() {
        for (int s = 0; s < 6; s++) {
            due("5: never used, remove(" + s + ")", new EndingIndex().remove(s), NONE);
            EndingIndex x = sixTimes("3");
            x.remove(s);
            due("5: removed before, remove(" + s + ")", x.remove(s), NONE);
            due("5: the others stay", x.endings(), 10);
        }
    }

    // "Otherwise the number of all endings."
    private static void p5OtherwiseTheNumberOfAllEndings() {
        EndingIndex x = sixTimes(LONGEST);
        for (int s = 0; s < 6; s++) {
            due("5: remove(" + s + ")", x.remove(s), 50 - 10 * s);
        }
    }

    // "Slot s becomes empty."
    private static void p5TheSlotBecomesEmpty() {
        for (int s = 0; s < 6; s++) {
            EndingIndex x = sixTimes(LONGEST);
            x.remove(s);
            due("5: length(" + s + ")", x.length(s), 0);
            due("5: letter(" + s + ", 0)", x.letter(s, 0), NONE);
            due("5: rank of its first ending", x.rank(16 * s), NONE);
            due("5: rank of its last ending", x.rank(16 * s + 9), NONE);
            due("5: slots(1)", x.slots(1), 63 - (1 << s));
            x.draft(3);
            due("5: there is room for a text", x.add(s), 52);
            CHECKS.due("5: nothing of the removed text is left", textOf(x, s), "3");
        }
    }

    private static void p5TheOtherSlotsAndTheDraftStay() {
        EndingIndex x = with("01", "10", "01", "0110", "1", "100110011");
        write(x, "23");
        x.remove(2);
        EndingIndex y = with("01", "10", "", "0110", "1", "100110011");
        write(y, "23");
        CHECKS.due("5: remove leaves what had been there without the text", seenOf(x), seenOf(y));
    }

    // "The number of all endings."
    private static void p6NoTexts() {
        due("6: a new object", new EndingIndex().endings(), 0);
        EndingIndex x = with("0");
        x.remove(0);
        due("6: the last text is gone", x.endings(), 0);
    }

    private static void p6AllFull() {
        due("6: the fewest", only(5, "3").endings(), 2);
        due("6: the most", sixTimes(LONGEST).endings(), 60);
        due("6: all the same ones count", sixTimes("000000000").endings(), 60);
    }

    private static void p6TheDraftHasNoEndings() {
        EndingIndex x = new EndingIndex();
        write(x, LONGEST);
        due("6: a full draft", x.endings(), 0);
    }

    // "0 if it is empty"
    private static void p7AnEmptySlotHasLength0() {
        EndingIndex x = new EndingIndex();
        write(x, LONGEST);
        for (int s = 0; s < 6; s++) {
            due("7: an empty slot, length(" + s + ")", x.length(s), 0);
        }
    }

    // "The length of the text in slot s"
    private static void p7TheShortestAndTheLongestText() {
        for (int s = 0; s < 6; s++) {
            due("7: the shortest, length(" + s + ")", only(s, "0").length(s), 1);
            due("7: the longest, length(" + s + ")", only(s, LONGEST).length(s), 9);
        }
    }

    // "BAD_ARG if s is not 0 to 5"
    private static void p7NoSlotAnswersBadArg() {
        EndingIndex full = sixTimes(LONGEST);
        for (int s : NO_SLOTS) {
            due("7: no texts, length(" + s + ")", new EndingIndex().length(s), BAD_ARG);
            due("7: all slots full, length(" + s + ")", full.length(s), BAD_ARG);
        }
    }

    // "The letter at place i of the text in slot s"
    private static void p8TheFirstAndTheLastPlace() {
        EndingIndex x = with("100000003", "2", "200000001", "0", "300000000", "000000002");
        int[] firsts = {1, 2, 2, 0, 3, 0};
        int[] lasts = {3, 2, 1, 0, 0, 2};
        for (int s = 0; s < 6; s++) {
            due("8: the first of slot " + s, x.letter(s, 0), firsts[s]);
            due("8: the last of slot " + s, x.letter(s, x.length(s) - 1), lasts[s]);
        }
    }

    // "NONE if there is none."
    private static void p8NoPlaceAnswersNone() {
        EndingIndex x = with(LONGEST, "3", LONGEST, "33", LONGEST, "333");
        for (int s = 0; s < 6; s++) {
            int length = s % 2 == 0 ? 9 : (s + 1) / 2;
            // 16 more or less is the same place of the next slot, where a slot's letters are held 16 apart.
            for (int i : new int[] {length, length + 1, 10, 15, 16, 32, 80, -1, -2, -15, -16, -80, 256, 1 << 28,
                LEAST, LEAST + 1, GREATEST - 1, GREATEST}) {
                due("8: letter(" + s + ", " + i + ")", x.letter(s, i), NONE);
            }
        }
    }

    private static void p8NoPlaceInAnEmptySlot() {
        EndingIndex x = sixTimes(LONGEST);
        for (int s = 0; s < 6; s++) {
            due("8: never used, letter(" + s + ", 0)", new EndingIndex().letter(s, 0), NONE);
            x.remove(s);
            for (int i = 0; i < 10; i++) {
                due("8: removed, letter(" + s + ", " + i + ")", x.letter(s, i), NONE);
            }
        }
    }

    private static void p8NoSlotAnswersNone() {
        EndingIndex full = sixTimes(LONGEST);
        for (int s : NO_SLOTS) {
            for (int i : new int[] {0, 8, -1, 9, LEAST, GREATEST}) {
                due("8: letter(" + s + ", " + i + ")", full.letter(s, i), NONE);
            }
        }
        due("8: letter(-1, 16)", full.letter(-1, 16), NONE);
        due("8: letter(6, -16)", full.letter(6, -16), NONE);
    }

    // "NONE if there is none."
    private static void p9NoRankAnswersNone() {
        EndingIndex[] objects = {new EndingIndex(), only(0, "1"), sixTimes(LONGEST)};
        int[] counts = {0, 2, 60};
        for (int j = 0; j < objects.length; j++) {
            for (int r : new int[] {-1, -2, counts[j], counts[j] + 1, 60, 61, 96, LEAST, LEAST + 1, GREATEST - 1,
                GREATEST}) {
                due("9: of " + counts[j] + ", ending(" + r + ")", objects[j].ending(r), NONE);
            }
        }
        EndingIndex x = sixTimes("0");
        x.remove(3);
        due("9: a rank that is gone, ending(10)", x.ending(10), NONE);
    }

    // "The number of the ending with rank r"
    private static void p9TheFirstAndTheLastRank() {
        due("9: the first of two", only(5, "1").ending(0), 81);
        due("9: the last of two", only(5, "1").ending(1), 80);
        EndingIndex x = sixTimes(LONGEST);
        due("9: the first of 60", x.ending(0), 9);
        // The greatest ending of 012301230 is 301230; the other one that begins with 3 is its begin 30.
        due("9: the last of 60", x.ending(59), 83);
    }

    // "NONE if there is none."
    private static void p10NoNumberAnswersNone() {
        EndingIndex full = sixTimes(LONGEST);
        for (int number : new int[] {-1, -7, -16, -96, 96, 97, 105, 112, 256, -256, LEAST, LEAST + 1, GREATEST - 1,
            GREATEST}) {
            due("10: no texts, rank(" + number + ")", new EndingIndex().rank(number), NONE);
            due("10: all full, rank(" + number + ")", full.rank(number), NONE);
        }
        for (int s = 0; s < 6; s++) {
            due("10: no texts, rank(" + 16 * s + ")", new EndingIndex().rank(16 * s), NONE);
        }
    }

    private static void p10NumbersBetweenTwoSlots() {
        EndingIndex full = sixTimes(LONGEST);
        EndingIndex small = sixTimes("0");
        for (int s = 0; s < 6; s++) {
            for (int i = 10; i < 16; i++) {
                due("10: all full, rank(" + (16 * s + i) + ")", full.rank(16 * s + i), NONE);
            }
            for (int i = 2; i < 16; i++) {
                due("10: one letter each, rank(" + (16 * s + i) + ")", small.rank(16 * s + i), NONE);
            }
        }
    }

    // "The rank of the ending with this number"
    private static void p10TheLeastAndTheGreatestNumber() {
        EndingIndex x = sixTimes("000000000");
        due("10: the least number", x.rank(0), 54);
        due("10: the greatest number", x.rank(89), 5);
        due("10: the first rank", x.rank(9), 0);
        due("10: the last rank", x.rank(80), 59);
    }

    // "BAD_ARG if p is none."
    private static void p11NoPatternAnswersBadArg() {
        EndingIndex full = sixTimes("000000000");
        for (int p : NO_PATTERNS) {
            due("11: no texts, count(" + p + ")", new EndingIndex().count(p), BAD_ARG);
            due("11: all full, count(" + p + ")", full.count(p), BAD_ARG);
        }
    }

    // "At how many endings the pattern stands"
    private static void p11NowhereIs0() {
        EndingIndex x = with("1", "1", "1");
        int least = 1;
        for (int n = 0; n <= 6; n++) {
            due("11: no texts, the least of " + n + " letters", new EndingIndex().count(least), 0);
            due("11: no texts, the greatest of " + n + " letters", new EndingIndex().count(2 * least - 1), 0);
            due("11: the least of " + n + " letters", x.count(least), n == 0 ? 6 : 0);
            due("11: the greatest of " + n + " letters", x.count(2 * least - 1), n == 0 ? 6 : 0);
            least *= 4;
        }
    }

    private static void p11TheMostPlaces() {
        EndingIndex zeros = sixTimes("000000000");
        EndingIndex threes = sixTimes("333333333");
        int least = 1;
        for (int n = 0; n <= 6; n++) {
            due("11: " + n + " zeros of nine, six times", zeros.count(least), 6 * (10 - n));
            due("11: " + n + " threes of nine, six times", threes.count(2 * least - 1), 6 * (10 - n));
            least *= 4;
        }
    }

    // "BAD_ARG if p is no pattern"
    private static void p12NoPatternAnswersBadArg() {
        EndingIndex full = sixTimes("000000000");
        for (int p : NO_PATTERNS) {
            due("12: no texts, place(" + p + ", 0)", new EndingIndex().place(p, 0), BAD_ARG);
            due("12: all full, place(" + p + ", 0)", full.place(p, 0), BAD_ARG);
        }
    }

    // "tested first"
    private static void p12NoPatternIsTestedFirst() {
        EndingIndex full = sixTimes("000000000");
        for (int p : NO_PATTERNS) {
            for (int k : new int[] {-1, 60, LEAST, GREATEST}) {
                due("12: place(" + p + ", " + k + ")", full.place(p, k), BAD_ARG);
            }
        }
    }

    // "NONE if there is none"
    private static void p12NoSuchPlaceAnswersNone() {
        EndingIndex x = with("333333333", "", "33");
        int[] patterns = {1, 7, 31, 127, 511, 2047, 8191};
        int[] counts = {13, 11, 9, 7, 6, 5, 4};
        for (int j = 0; j < patterns.length; j++) {
            int p = patterns[j];
            for (int k : new int[] {-1, -2, counts[j], counts[j] + 1, LEAST, LEAST + 1, GREATEST - 1, GREATEST}) {
                due("12: place(" + p + ", " + k + ")", x.place(p, k), NONE);
            }
            due("12: no texts, place(" + p + ", 0)", new EndingIndex().place(p, 0), NONE);
        }
        due("12: a pattern that stands nowhere, place(4, 0)", x.place(4, 0), NONE);
        due("12: a pattern that stands nowhere, place(8190, 0)", x.place(8190, 0), NONE);
    }

    // "the k-th (0 is the first, by rank)"
    private static void p12TheFirstIs0ByRank() {
        // By rank: 3, 3 of slot 2, 33, 33 of slot 2, 333.
        EndingIndex x = with("333", "", "33");
        int[] numbers = {2, 33, 1, 32, 0};
        for (int k = 0; k < numbers.length; k++) {
            due("12: place of 3, " + k, x.place(7, k), numbers[k]);
        }
        due("12: the last of 60", sixTimes("333333333").place(1, 59), 80);
        due("12: the last of 24", sixTimes("333333333").place(8191, 23), 80);
    }

    // "BAD_ARG if p is no pattern."
    private static void p13NoPatternAnswersBadArg() {
        EndingIndex full = sixTimes("000000000");
        for (int p : NO_PATTERNS) {
            due("13: no texts, slots(" + p + ")", new EndingIndex().slots(p), BAD_ARG);
            due("13: all full, slots(" + p + ")", full.slots(p), BAD_ARG);
        }
    }

    // "The set of the slots in whose texts the pattern stands, as the sum of 2 to the power s"
    private static void p13NowhereIsTheEmptySet() {
        due("13: no texts, the empty pattern", new EndingIndex().slots(1), 0);
        due("13: no texts, the greatest pattern", new EndingIndex().slots(8191), 0);
        due("13: a letter that is in no text", sixTimes("012012012").slots(7), 0);
        due("13: one letter too long", sixTimes("33333").slots(8191), 0);
    }

    private static void p13OneSlotAndAllSlots() {
        for (int s = 0; s < 6; s++) {
            due("13: slot " + s + " alone, the empty pattern", only(s, "0").slots(1), 1 << s);
            due("13: slot " + s + " alone, six letters", only(s, "333333").slots(8191), 1 << s);
        }
        due("13: all slots, the empty pattern", sixTimes("0").slots(1), 63);
        due("13: all slots, many times in each", sixTimes("333333333").slots(7), 63);
        due("13: at the last place", sixTimes("012012013").slots(7), 63);
    }

    private static void p13TheEmptyPatternStandsInNoEmptySlot() {
        EndingIndex x = sixTimes("0");
        x.remove(0);
        x.remove(5);
        due("13: two slots empty, the empty pattern", x.slots(1), 30);
    }

    // "BAD_ARG if p is no pattern."
    private static void p14NoPatternAnswersBadArg() {
        EndingIndex full = sixTimes("000000000");
        for (int p : NO_PATTERNS) {
            due("14: no texts, after(" + p + ")", new EndingIndex().after(p), BAD_ARG);
            due("14: all full, after(" + p + ")", full.after(p), BAD_ARG);
        }
    }

    // "The set of the letters l such that the pattern with l appended stands somewhere"
    private static void p14NowhereIsTheEmptySet() {
        due("14: no texts, the empty pattern", new EndingIndex().after(1), 0);
        due("14: no texts, the greatest pattern", new EndingIndex().after(8191), 0);
        due("14: a pattern that stands nowhere", sixTimes("012012012").after(7), 0);
    }

    private static void p14OneLetterAndAllLetters() {
        for (int l = 0; l < 4; l++) {
            due("14: behind 2, " + l + " alone", only(5, "2" + l).after(6), 1 << l);
            due("14: behind 22222, " + l + " alone", only(0, "22222" + l).after(pattern("22222")), 1 << l);
        }
        due("14: all letters", with("10", "11", "12", "13").after(5), 15);
        due("14: all letters, in one text", only(0, "010203003").after(4), 15);
    }

    private static void p14NothingIsBehindTheEnd() {
        due("14: at the end of a text alone", with("2", "02", "333333332", "3", "3", "3").after(6), 0);
        due("14: what a removed text left is not behind it", leftOver().after(5), 0);
    }

    // A text that ends where a removed one went on.
    private static EndingIndex leftOver() {
        EndingIndex x = only(0, "123123123");
        x.remove(0);
        write(x, "1");
        x.add(0);
        return x;
    }

    private static void p14TheEmptyPattern() {
        for (int l = 0; l < 4; l++) {
            due("14: the empty pattern, " + l + " alone", only(3, "" + l).after(1), 1 << l);
        }
        due("14: the empty pattern, all letters", with("0", "1", "2", "3").after(1), 15);
    }

    private static void p14SixLetters() {
        due("14: six letters, none behind", only(0, "333333").after(8191), 0);
        due("14: six letters, one behind", only(0, "3333330").after(8191), 1);
        due("14: six letters, all four behind", with("0000000", "0000001", "0000002", "0000003").after(4096), 15);
    }

    // "The same with l put in front of the pattern."
    private static void p15NoPatternAnswersBadArg() {
        EndingIndex full = sixTimes("000000000");
        for (int p : NO_PATTERNS) {
            due("15: no texts, before(" + p + ")", new EndingIndex().before(p), BAD_ARG);
            due("15: all full, before(" + p + ")", full.before(p), BAD_ARG);
        }
    }

    private static void p15NowhereIsTheEmptySet() {
        due("15: no texts, the empty pattern", new EndingIndex().before(1), 0);
        due("15: no texts, the greatest pattern", new EndingIndex().before(8191), 0);
        due("15: a pattern that stands nowhere", sixTimes("012012012").before(7), 0);
    }

    private static void p15OneLetterAndAllLetters() {
        for (int l = 0; l < 4; l++) {
            due("15: in front of 2, " + l, only(5, l + "2").before(6), 1 << l);
            due("15: in front of 12222, " + l, only(0, l + "12222").before(pattern("12222")), 1 << l);
        }
        due("15: all letters", with("01", "11", "21", "31").before(5), 15);
        due("15: all letters, in one text", only(0, "300102030").before(4), 15);
    }

    private static void p15NothingIsInFrontOfTheBegin() {
        due("15: at the begin of a text alone", with("333333333", "20", "2", "23", "211111111").before(6), 0);
        due("15: at the begin of a full slot behind a full one", with("000000000", "100000000").before(5), 0);
    }

    private static void p15TheEmptyPattern() {
        for (int l = 0; l < 4; l++) {
            due("15: the empty pattern, " + l + " alone", only(3, "" + l).before(1), 1 << l);
        }
        due("15: the empty pattern, all letters", with("0", "1", "2", "3").before(1), 15);
    }

    private static void p15SixLetters() {
        due("15: six letters, none in front", only(0, "3333330").before(pattern("333333")), 0);
        due("15: six letters, one in front", only(0, "0333333").before(8191), 1);
        due("15: six letters, all four in front", with("0000000", "1000000", "2000000", "3000000").before(4096), 15);
    }

    // "NONE if there are no such two."
    private static void p16NoSuchTwoAnswersNone() {
        EndingIndex[] objects = {new EndingIndex(), only(0, "1"), sixTimes(LONGEST)};
        int[] counts = {0, 2, 60};
        for (int j = 0; j < objects.length; j++) {
            // r + 1 is 0 for -1, and the least int for the greatest.
            for (int r : new int[] {-1, -2, counts[j] - 1, counts[j], counts[j] + 1, 60, 61, LEAST, LEAST + 1,
                GREATEST - 1, GREATEST}) {
                due("16: of " + counts[j] + ", common(" + r + ")", objects[j].common(r), NONE);
            }
        }
        due("16: the first two of two", objects[1].common(0), 0);
        due("16: the last two of 60", objects[2].common(58), 6);
        EndingIndex x = sixTimes("0");
        x.remove(3);
        due("16: a rank that is gone, common(9)", x.common(9), NONE);
    }

    // "How many letters the endings with the ranks r and r + 1 have in common at their begin"
    private static void p16NothingAndAllInCommon() {
        EndingIndex x = sixTimes("000000000");
        for (int r = 0; r < 59; r++) {
            due("16: nine zeros six times, common(" + r + ")", x.common(r), r / 6);
        }
        due("16: no letter, where the first ones differ", with("0", "1").common(2), 0);
        due("16: not what is alike behind a letter that differs", with("02", "12").common(2), 0);
        due("16: not over the end of a text", leftOver().common(0), 0);
        EndingIndex y = with("012012010", "012012013");
        due("16: all but the last", y.common(y.rank(0)), 8);
    }

    // "The number of different lists of one or more letters that are the begin of some ending."
    private static void p17NoText() {
        due("17: a new object", new EndingIndex().distinct(), 0);
        EndingIndex x = only(0, "0");
        x.remove(0);
        due("17: the last text is gone", x.distinct(), 0);
        write(x, LONGEST);
        due("17: a draft is no text", x.distinct(), 0);
    }

    private static void p17TheFewestAndTheMost() {
        due("17: one list", only(5, "3").distinct(), 1);
        due("17: one list six times", sixTimes("3").distinct(), 1);
        due("17: nine lists", sixTimes("333333333").distinct(), 9);
        // It has no list of two letters twice, so it has 4 + 8 + 7 + 6 + 5 + 4 + 3 + 2 + 1 lists.
        due("17: one text, the most", only(0, "001020311").distinct(), 40);
    }

    private static void p17TheEmptyListDoesNotCount() {
        due("17: two texts of one letter", with("0", "1").distinct(), 2);
        due("17: four texts of one letter", with("0", "1", "2", "3").distinct(), 4);
    }

    private static void p17TheSameListCountsOnce() {
        due("17: in two texts", with("0123", "", "", "", "", "0123").distinct(), 10);
        due("17: in one text", only(0, "0101").distinct(), 7);
        due("17: a begin and an end of others", with("012", "01", "12", "1").distinct(), 6);
        due("17: no list goes from one text into the next", with("333333333", "0").distinct(), 10);
    }

    // "0 if there is none"
    private static void p18NoneIs0() {
        due("18: a new object", new EndingIndex().repeated(), 0);
        due("18: one letter", only(0, "0").repeated(), 0);
        due("18: each letter once", with("0", "1", "2", "3").repeated(), 0);
        due("18: each letter once", only(5, "3210").repeated(), 0);
        EndingIndex x = with("0", "0");
        x.remove(1);
        due("18: the second text is gone", x.repeated(), 0);
        write(x, "0");
        due("18: a draft is no text", x.repeated(), 0);
    }

    // "The greatest number of letters of a list"
    private static void p18TheLeastAndTheGreatest() {
        due("18: one letter, in two texts", with("0", "", "", "", "", "0").repeated(), 1);
        due("18: one letter, in one text", only(0, "00").repeated(), 1);
        due("18: eight letters, in one text", only(0, "000000000").repeated(), 8);
        due("18: nine letters, in two texts", with(LONGEST, LONGEST).repeated(), 9);
        due("18: nine letters, in six texts", sixTimes(LONGEST).repeated(), 9);
        due("18: longer than a pattern may be", with("01230120", "30123012").repeated(), 7);
    }

    // "that is the begin of at least two endings"
    private static void p18AtLeastTwoEndings() {
        due("18: a list that is there once does not count", with("0123", "33").repeated(), 1);
        due("18: behind other letters", with("111110123", "20123").repeated(), 4);
        due("18: at the begin of one, at the end of the other", with("0123", "2201").repeated(), 2);
        due("18: twice is enough, six times the shorter", with("00", "00", "0", "0", "0", "0").repeated(), 2);
    }
}
