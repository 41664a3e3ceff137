/**
 * What the tests hand to an EndingIndex: objects with texts in them, patterns, and the numbers at the edges. A test
 * extends it to have the names, as a class without a package can't be imported.
 */
abstract class Given {
    static final int BAD_ARG = -1;
    static final int FULL = -2;
    static final int NONE = -4;
    static final int LEAST = Integer.MIN_VALUE;
    static final int GREATEST = Integer.MAX_VALUE;

    static final String LONGEST = "012301230";

    // 1 << 28 and 1 << 29 are 0 when taken times 16, 32 is 0 when shifted by, 16 and 256 are 0 in their last digits.
    static final int[] NO_LETTERS = {-1, 4, 5, -4, 32, 256, -256, 1 << 30, LEAST, LEAST + 1, GREATEST - 1, GREATEST};
    static final int[] NO_SLOTS = {-1, 6, 7, -6, 16, 32, 256, -256, 1 << 28, 1 << 29, LEAST, LEAST + 1, GREATEST - 1,
        GREATEST};

    // Next to the least and the greatest pattern of each length, beyond the last, and below 1.
    static final int[] NO_PATTERNS = {LEAST, LEAST + 1, -8191, -4096, -4, -2, -1, 0, 2, 3, 8, 15, 32, 63, 128, 255, 512,
        1023, 2048, 4095, 8192, 8193, 16383, 16384, 16385, 32767, 32768, 1 << 16, 1 << 28, (1 << 28) + 1, 1 << 30,
        GREATEST - 1, GREATEST};

    static void write(EndingIndex x, String letters) {
        for (char c : letters.toCharArray()) {
            x.draft(c - '0');
        }
    }

    /** An object with these texts in the slots from 0 on; "" leaves a slot empty. */
    static EndingIndex with(String... texts) {
        EndingIndex x = new EndingIndex();
        for (int s = 0; s < texts.length; s++) {
            write(x, texts[s]);
            x.add(s);
        }
        return x;
    }

    /** An object with this text alone, in this slot. */
    static EndingIndex only(int s, String text) {
        EndingIndex x = new EndingIndex();
        write(x, text);
        x.add(s);
        return x;
    }

    /** An object with the same text in all six slots. */
    static EndingIndex sixTimes(String text) {
        return with(text, text, text, text, text, text);
    }

    static int pattern(String letters) {
        int p = 1;
        for (char c : letters.toCharArray()) {
            p = p * 4 + (c - '0');
        }
        return p;
    }

    /**
     * All that can be seen of the object, the draft too. The object is used up: the draft is seen only when it has
     * become a text.
     */
    static String seenOf(EndingIndex x) {
        StringBuilder seen = new StringBuilder();
        for (int s = 0; s < 6; s++) {
            seen.append("slot ").append(s).append(": ").append(textOf(x, s)).append('\n');
        }
        seen.append("order:");
        int endings = x.endings();
        for (int r = 0; r < endings; r++) {
            seen.append(' ').append(x.ending(r));
        }
        x.remove(0);
        x.add(0);
        return seen.append("\ndraft: ").append(textOf(x, 0)).toString();
    }

    static String textOf(EndingIndex x, int s) {
        StringBuilder text = new StringBuilder();
        int length = x.length(s);
        for (int i = 0; i < length; i++) {
            text.append(x.letter(s, i));
        }
        return text.toString();
    }
}
