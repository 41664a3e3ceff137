/**
 * Texts that come and go, and where a pattern stands in them, in the order of what follows.
 */
public final class EndingIndex {
    public static final int BAD_ARG = -1;
    public static final int FULL = -2;
    public static final int NONE = -4;

    private static final int SLOT_COUNT = 6;
    private static final int LETTER_KINDS = 4;
    private static final int MOST_LETTERS = 9;
    private static final int MOST_PATTERN_LETTERS = 6;

    // How far the numbers of the endings of two neighbouring slots lie apart.
    private static final int STRIDE = 16;
    private static final int NUMBERS = SLOT_COUNT * STRIDE;

    // A text has one ending more than it has letters.
    private static final int MOST_ENDINGS = SLOT_COUNT * (MOST_LETTERS + 1);

    // The letter at place i of slot s is at STRIDE * s + i, so that the number of an ending is
    // also the index of its first letter.
    private final int[] texts = new int[NUMBERS];

    // 0 says that the slot is empty, as no text is.
    private final int[] lengths = new int[SLOT_COUNT];

    private final int[] draftLetters = new int[MOST_LETTERS];
    private int draftLength = 0;

    // The numbers of all endings, by rank.
    private final int[] ranked = new int[MOST_ENDINGS];
    private int rankedCount = 0;

    public EndingIndex() {
    }

    public int draft(int l) {
        if (l < 0 || l >= LETTER_KINDS) {
            return BAD_ARG;
        }
        if (draftLength >= MOST_LETTERS) {
            return FULL;
        }
        draftLetters[draftLength] = l;
        draftLength++;
        return draftLength;
    }

    public void scrap() {
        draftLength = 0;
    }

    public int add(int s) {
        if (!isSlot(s)) {
            return BAD_ARG;
        }
        if (lengths[s] > 0) {
            return FULL;
        }
        if (draftLength == 0) {
            return NONE;
        }
        moveDraftTo(s);
        rankEndingsOf(s);
        return rankedCount;
    }

    public int remove(int s) {
        if (!isSlot(s)) {
            return BAD_ARG;
        }
        if (lengths[s] == 0) {
            return NONE;
        }
        lengths[s] = 0;
        unrankEndingsOf(s);
        return rankedCount;
    }

    public int endings() {
        return rankedCount;
    }

    public int length(int s) {
        return isSlot(s) ? lengths[s] : BAD_ARG;
    }

    public int letter(int s, int i) {
        if (!isSlot(s) || i < 0 || i >= lengths[s]) {
            return NONE;
        }
        return texts[STRIDE * s + i];
    }

    public int ending(int r) {
        return r >= 0 && r < rankedCount ? ranked[r] : NONE;
    }

    public int rank(int number) {
        for (int r = 0; r < rankedCount; r++) {
            if (ranked[r] == number) {
                return r;
            }
        }
        return NONE;
    }

    public int count(int p) {
        int size = patternSize(p);
        if (size < 0) {
            return BAD_ARG;
        }
        int found = 0;
        for (int r = 0; r < rankedCount; r++) {
            if (standsAt(p, size, ranked[r])) {
                found++;
            }
        }
        return found;
    }

    public int place(int p, int k) {
        int size = patternSize(p);
        if (size < 0) {
            return BAD_ARG;
        }
        int found = 0;
        for (int r = 0; r < rankedCount; r++) {
            if (standsAt(p, size, ranked[r])) {
                if (found == k) {
                    return ranked[r];
                }
                found++;
            }
        }
        return NONE;
    }

    public int slots(int p) {
        int size = patternSize(p);
        if (size < 0) {
            return BAD_ARG;
        }
        int set = 0;
        for (int r = 0; r < rankedCount; r++) {
            if (standsAt(p, size, ranked[r])) {
                set |= 1 << slotOf(ranked[r]);
            }
        }
        return set;
    }

    public int after(int p) {
        int size = patternSize(p);
        if (size < 0) {
            return BAD_ARG;
        }
        int set = 0;
        for (int r = 0; r < rankedCount; r++) {
            int number = ranked[r];
            if (standsAt(p, size, number) && endingLength(number) > size) {
                set |= 1 << texts[number + size];
            }
        }
        return set;
    }

    public int before(int p) {
        int size = patternSize(p);
        if (size < 0) {
            return BAD_ARG;
        }
        int set = 0;
        for (int r = 0; r < rankedCount; r++) {
            int number = ranked[r];
            if (standsAt(p, size, number) && placeOf(number) > 0) {
                set |= 1 << texts[number - 1];
            }
        }
        return set;
    }

    public int common(int r) {
        // Not r + 1 < rankedCount: r + 1 wraps around at the greatest int.
        if (r < 0 || r >= rankedCount - 1) {
            return NONE;
        }
        return commonLetters(ranked[r], ranked[r + 1]);
    }

    public int distinct() {
        // By rank, the begins that an ending shares with any earlier one are just those that it
        // shares with its neighbour, so all its longer begins are new.
        int different = 0;
        for (int r = 0; r < rankedCount; r++) {
            different += endingLength(ranked[r]);
            if (r > 0) {
                different -= commonLetters(ranked[r - 1], ranked[r]);
            }
        }
        return different;
    }

    public int repeated() {
        // Of all pairs of endings, some pair of neighbours by rank shares the most.
        int most = 0;
        for (int r = 1; r < rankedCount; r++) {
            int shared = commonLetters(ranked[r - 1], ranked[r]);
            if (shared > most) {
                most = shared;
            }
        }
        return most;
    }

    private boolean isSlot(int s) {
        return s >= 0 && s < SLOT_COUNT;
    }

    private int slotOf(int number) {
        return number / STRIDE;
    }

    private int placeOf(int number) {
        return number % STRIDE;
    }

    private int endingLength(int number) {
        // Not by slotOf and placeOf: from add on, this is the sixth call deep, the most there may be.
        return lengths[number / STRIDE] - number % STRIDE;
    }

    private void moveDraftTo(int s) {
        for (int i = 0; i < draftLength; i++) {
            texts[STRIDE * s + i] = draftLetters[i];
        }
        lengths[s] = draftLength;
        draftLength = 0;
    }

    private void rankEndingsOf(int s) {
        int last = lengths[s];
        for (int i = 0; i <= last; i++) {
            rankEnding(STRIDE * s + i);
        }
    }

    private void rankEnding(int number) {
        int r = rankedCount;
        while (r > 0 && comesBefore(number, ranked[r - 1])) {
            ranked[r] = ranked[r - 1];
            r--;
        }
        ranked[r] = number;
        rankedCount++;
    }

    private void unrankEndingsOf(int s) {
        int kept = 0;
        for (int r = 0; r < rankedCount; r++) {
            if (slotOf(ranked[r]) != s) {
                ranked[kept] = ranked[r];
                kept++;
            }
        }
        rankedCount = kept;
    }

    private boolean comesBefore(int a, int b) {
        int aLength = endingLength(a);
        int bLength = endingLength(b);
        int shared = commonLetters(a, b);
        if (shared < aLength && shared < bLength) {
            return texts[a + shared] < texts[b + shared];
        }
        if (aLength != bLength) {
            return aLength < bLength;
        }
        // Two the same are in different slots, and the lesser slot has the lesser numbers.
        return a < b;
    }

    private int commonLetters(int a, int b) {
        int aLength = endingLength(a);
        int bLength = endingLength(b);
        int most = aLength < bLength ? aLength : bLength;
        int shared = 0;
        while (shared < most && texts[a + shared] == texts[b + shared]) {
            shared++;
        }
        return shared;
    }

    // How many letters the pattern has; -1 if p is no pattern.
    private int patternSize(int p) {
        for (int size = 0; size <= MOST_PATTERN_LETTERS; size++) {
            // Only the 1 that the number was begun with is left above the letters, two bits each.
            if (p >> (2 * size) == 1) {
                return size;
            }
        }
        return -1;
    }

    private boolean standsAt(int p, int size, int number) {
        if (endingLength(number) < size) {
            return false;
        }
        int begin = 1;
        for (int j = 0; j < size; j++) {
            begin = begin * LETTER_KINDS + texts[number + j];
        }
        return begin == p;
    }
}
