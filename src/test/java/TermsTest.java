import java.util.HashSet;
import java.util.Set;

/** One method for each sentence of "Terms" that the promises lean on, at the edges that it names. */
public final class TermsTest extends Given {
    private static final Checks CHECKS = new Checks();

    public static void main(String[] args) {
        thereAreSixSlots();
        aSlotIsEmptyOrHasOneToNineLetters();
        theLettersAreZeroToThree();
        theDraftHasAtMostNineLetters();
        theEndingsGoFromTheFirstPlaceToTheEmptyOne();
        theNumberIsSixteenTimesTheSlotAndThePlace();
        theOrderIsLetterByLetter();
        aBeginComesFirst();
        aBeginComesFirstFromAHigherSlotToo();
        aBeginComesFirstWhereARemovedTextWentOn();
        ofTwoTheSameTheLesserSlotIsFirst();
        ofTwoTheSameTheOrderOfComingIsNothing();
        theRanksGoFromZeroOn();
        aPatternHasAtMostSixLetters();
        oneIsTheEmptyPattern();
        patternsHaveAnOddNumberOfBinaryDigits();
        patternsAreBelow8192();
        patternsAreFromOneOn();
        aPatternIsReadFromTheFirstLetterOn();
        aPatternStandsAtEachEndingThatBeginsWithIt();
        theConstants();
        anObjectAnswersFor512Calls();
        CHECKS.finish("TermsTest");
    }

    private static void due(String call, int got, int want) {
        CHECKS.due(call, got, want);
    }

    private static void dueOrder(String what, EndingIndex x, int... numbers) {
        for (int r = 0; r < numbers.length; r++) {
            due(what + ": ending(" + r + ")", x.ending(r), numbers[r]);
            due(what + ": rank(" + numbers[r] + ")", x.rank(numbers[r]), r);
        }
        due(what + ": endings()", x.endings(), numbers.length);
    }

    // "There are six SLOTS, 0 to 5"
    private static void thereAreSixSlots() {
        EndingIndex x = new EndingIndex();
        for (int s = 0; s < 6; s++) {
            write(x, "0123".substring(s / 2));
            x.add(s);
        }
        String[] texts = {"0123", "0123", "123", "123", "23", "23"};
        for (int s = 0; s < 6; s++) {
            CHECKS.due("the text in slot " + s, textOf(x, s), texts[s]);
        }
        x.draft(0);
        due("there is no slot -1", x.add(-1), BAD_ARG);
        due("there is no slot 6", x.add(6), BAD_ARG);
    }

    // "each is empty or has a text of 1 to 9 letters"
    private static void aSlotIsEmptyOrHasOneToNineLetters() {
        for (int s = 0; s < 6; s++) {
            EndingIndex x = new EndingIndex();
            due("no text of no letters: add(" + s + ")", x.add(s), NONE);
            due("length(" + s + ") of an empty slot", x.length(s), 0);
            for (int n = 1; n <= 9; n++) {
                String text = LONGEST.substring(0, n);
                CHECKS.due("a text of " + n + " letters", textOf(only(s, text), s), text);
            }
        }
    }

    // "0 to 3 each"
    private static void theLettersAreZeroToThree() {
        for (int l = 0; l < 4; l++) {
            due("the letter " + l, only(2, "" + l).letter(2, 0), l);
        }
        EndingIndex x = new EndingIndex();
        due("there is no letter -1", x.draft(-1), BAD_ARG);
        due("there is no letter 4", x.draft(4), BAD_ARG);
    }

    // "There is a DRAFT of at most 9 letters."
    private static void theDraftHasAtMostNineLetters() {
        EndingIndex x = new EndingIndex();
        write(x, "32103210");
        due("the ninth letter", x.draft(2), 9);
        due("no tenth letter", x.draft(2), FULL);
        x.add(0);
        CHECKS.due("the draft of nine letters", textOf(x, 0), "321032102");
    }

    // "its parts from place i to its end, for i from 0 to its length (the last one is empty)"
    private static void theEndingsGoFromTheFirstPlaceToTheEmptyOne() {
        for (int n = 1; n <= 9; n++) {
            EndingIndex x = only(3, LONGEST.substring(0, n));
            due("endings() of " + n + " letters", x.endings(), n + 1);
            due("the empty ending comes first of all", x.ending(0), 48 + n);
            due("the whole text is an ending, and not the first", x.rank(48) > 0 ? 1 : 0, 1);
            due("no ending in front of the text", x.rank(47), NONE);
            due("no ending behind the empty one", x.rank(48 + n + 1), NONE);
        }
    }

    // "the ending's NUMBER is 16 s + i"
    private static void theNumberIsSixteenTimesTheSlotAndThePlace() {
        for (int s = 0; s < 6; s++) {
            EndingIndex x = only(s, "000000000");
            for (int i = 0; i <= 9; i++) {
                due("the number of the ending at place " + i + " of slot " + s, x.ending(9 - i), 16 * s + i);
            }
        }
    }

    // "letter by letter as in a dictionary"
    private static void theOrderIsLetterByLetter() {
        dueOrder("the first letter decides", with("0", "1", "2", "3"), 1, 17, 33, 49, 0, 16, 32, 48);
        dueOrder("the first letter decides, not the slot", with("3", "2", "1", "0"), 1, 17, 33, 49, 48, 32, 16, 0);
        dueOrder("the first letter decides, not the length", with("1", "0222"), 1, 20, 16, 0, 19, 18, 17);
        EndingIndex x = with("000000003", "000000002");
        due("the ninth letter decides", x.rank(0) - x.rank(16), 1);
    }

    // "where an ending that is the begin of another one comes first"
    private static void aBeginComesFirst() {
        dueOrder("all begins of one", with("222222222"), 9, 8, 7, 6, 5, 4, 3, 2, 1, 0);
        dueOrder("the empty one is a begin of all", with("0"), 1, 0);
        dueOrder("a begin, one letter shorter", with("0", "00"), 1, 18, 0, 17, 16);
    }

    private static void aBeginComesFirstFromAHigherSlotToo() {
        dueOrder("a begin in slot 5", with("30", "", "", "", "", "3"), 2, 81, 1, 80, 0);
        EndingIndex x = with("012301230", "", "", "", "", "01230123");
        due("a begin of eight letters in slot 5", x.rank(0) - x.rank(80), 1);
    }

    private static void aBeginComesFirstWhereARemovedTextWentOn() {
        EndingIndex first = with("13");
        first.remove(0);
        write(first, "1");
        first.add(0);
        write(first, "10");
        first.add(1);
        dueOrder("1, where 13 had been, and then 10", first, 1, 18, 17, 0, 16);
        EndingIndex last = with("10", "13");
        last.remove(1);
        write(last, "1");
        last.add(1);
        dueOrder("10, and then 1, where 13 had been", last, 2, 17, 1, 16, 0);
        EndingIndex same = with("1", "10");
        same.remove(1);
        write(same, "1");
        same.add(1);
        dueOrder("1, and then 1, where 10 had been", same, 1, 17, 0, 16);
    }

    // "of two the same the one in the slot with the lesser number"
    private static void ofTwoTheSameTheLesserSlotIsFirst() {
        dueOrder("six the same", sixTimes("1"), 1, 17, 33, 49, 65, 81, 0, 16, 32, 48, 64, 80);
        dueOrder("the same at other places", with("12", "2"), 2, 17, 0, 1, 16);
        dueOrder("the same at other places", with("2", "12"), 1, 18, 16, 0, 17);
    }

    private static void ofTwoTheSameTheOrderOfComingIsNothing() {
        EndingIndex x = new EndingIndex();
        for (int s = 5; s >= 0; s--) {
            write(x, "1");
            x.add(s);
        }
        dueOrder("six the same, the last slot first", x, 1, 17, 33, 49, 65, 81, 0, 16, 32, 48, 64, 80);
        x.remove(0);
        x.remove(3);
        dueOrder("some gone", x, 17, 33, 65, 81, 16, 32, 64, 80);
        write(x, "1");
        x.add(3);
        write(x, "1");
        x.add(0);
        dueOrder("and come again", x, 1, 17, 33, 49, 65, 81, 0, 16, 32, 48, 64, 80);
    }

    // "They are RANKED from 0 on in this order."
    private static void theRanksGoFromZeroOn() {
        EndingIndex x = sixTimes(LONGEST);
        Set<Integer> seen = new HashSet<>();
        for (int r = 0; r < 60; r++) {
            int number = x.ending(r);
            due("rank(ending(" + r + "))", x.rank(number), r);
            seen.add(number);
        }
        due("how many numbers there are at the ranks 0 to 59", seen.size(), 60);
        due("no rank -1", x.ending(-1), NONE);
        due("no rank 60", x.ending(60), NONE);
    }

    // "A PATTERN is a list of at most 6 letters"
    private static void aPatternHasAtMostSixLetters() {
        EndingIndex x = with("333333333", "000000000");
        for (int n = 0; n <= 6; n++) {
            int threes = n == 0 ? 20 : 10 - n;
            due("count of " + n + " threes", x.count(pattern("333333".substring(6 - n))), threes);
            due("count of " + n + " zeros", x.count(pattern("000000".substring(6 - n))), threes);
        }
        due("no pattern of seven zeros", x.count(pattern("0000000")), BAD_ARG);
        due("no pattern of seven threes", x.count(pattern("3333333")), BAD_ARG);
    }

    // "so 1 is the empty pattern"
    private static void oneIsTheEmptyPattern() {
        EndingIndex x = with("23", "", "", "", "0");
        due("the empty pattern stands at each ending", x.count(1), 5);
        for (int r = 0; r < 5; r++) {
            due("place(1, " + r + ") is ending(" + r + ")", x.place(1, r), x.ending(r));
        }
    }

    // "with an odd number of binary digits"
    private static void patternsHaveAnOddNumberOfBinaryDigits() {
        EndingIndex x = with("0");
        int least = 1;
        for (int n = 0; n <= 6; n++) {
            int greatest = 2 * least - 1;
            due("below the least pattern of " + n + " letters", x.slots(least - 1), BAD_ARG);
            due("the least pattern of " + n + " letters", x.slots(least), n < 2 ? 1 : 0);
            due("the greatest pattern of " + n + " letters", x.slots(greatest), n == 0 ? 1 : 0);
            due("above the greatest pattern of " + n + " letters", x.slots(greatest + 1), BAD_ARG);
            due("the greatest of an even number of digits", x.slots(2 * greatest + 1), BAD_ARG);
            least *= 4;
        }
    }

    // "below 8192"
    private static void patternsAreBelow8192() {
        EndingIndex x = with("333333");
        due("the greatest pattern", x.count(8191), 1);
        due("8192", x.count(8192), BAD_ARG);
        for (int digits = 14; digits <= 31; digits++) {
            int least = 1 << (digits - 1);
            due("the least number of " + digits + " binary digits", x.count(least), BAD_ARG);
            due("the greatest number of " + digits + " binary digits", x.count(least - 1 + least), BAD_ARG);
        }
    }

    // "patterns are the numbers from 1 on"
    private static void patternsAreFromOneOn() {
        EndingIndex x = with("333333");
        due("the least pattern", x.count(1), 7);
        due("0", x.count(0), BAD_ARG);
        due("-1", x.count(-1), BAD_ARG);
        due("the least int", x.count(LEAST), BAD_ARG);
        for (int p = -4; p >= -8192; p *= 2) {
            due("no pattern below 0: count(" + p + ")", x.count(p), BAD_ARG);
            due("no pattern below 0: count(" + (p + 1) + ")", x.count(p + 1), BAD_ARG);
        }
    }

    // "for each letter l, from the first on, make number * 4 + l of it"
    private static void aPatternIsReadFromTheFirstLetterOn() {
        EndingIndex x = with("0123", "", "3210");
        due("91 is 123", x.place(91, 0), 1);
        due("91 is not 321", x.slots(91), 1);
        due("321 is ((1 * 4 + 3) * 4 + 2) * 4 + 1", x.slots(121), 4);
        due("a zero in front is a letter: 01", x.place(17, 0), 0);
        due("a zero in front is a letter: 01 is not 1", x.slots(17), 1);
        due("a zero behind is a letter: 10", x.slots(20), 4);
    }

    // "It STANDS at each ending that begins with it."
    private static void aPatternStandsAtEachEndingThatBeginsWithIt() {
        EndingIndex x = with("10", "0", "010");
        due("at an ending that is the pattern itself, and at a longer one", x.count(pattern("0")), 4);
        due("not at an ending that is a begin of the pattern", x.count(pattern("00")), 0);
        due("not over the end of a text into the next slot's", with("12", "3").count(pattern("123")), 0);
        due("not at what a removed text left behind", afterShorterText().count(pattern("12")), 0);
        due("at the whole text", with("012301").count(pattern("012301")), 1);
        due("not at a text one letter shorter", with("01230").count(pattern("012301")), 0);
        due("at overlapping places", with("111111111").count(pattern("111")), 7);
    }

    private static EndingIndex afterShorterText() {
        EndingIndex x = with("123");
        x.remove(0);
        write(x, "1");
        x.add(0);
        return x;
    }

    // "The constants"
    private static void theConstants() {
        due("BAD_ARG", EndingIndex.BAD_ARG, -1);
        due("FULL", EndingIndex.FULL, -2);
        due("NONE", EndingIndex.NONE, -4);
    }

    // "An object is used for at most 512 calls after it has been made"
    private static void anObjectAnswersFor512Calls() {
        EndingIndex x = new EndingIndex();
        int calls = 0;
        while (calls + 4 < 512) {
            int s = calls % 6;
            due("call " + calls + ": draft", x.draft(1), 1);
            due("call " + calls + ": draft", x.draft(2), 2);
            due("call " + calls + ": add", x.add(s), 3);
            due("call " + calls + ": remove", x.remove(s), 0);
            calls += 4;
        }
        write(x, "312");
        due("call 512: add", x.add(5), 4);
    }
}
