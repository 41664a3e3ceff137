import java.util.ArrayList;
import java.util.Comparator;
import java.util.HashMap;
import java.util.List;
import java.util.Map;

/** The document's words, done with strings as directly as can be, to compare EndingIndex with. */
final class PlainModel {
    static final int BAD_ARG = -1;
    static final int FULL = -2;
    static final int NONE = -4;

    private record Ending(int number, String letters) {
    }

    private final String[] texts = {"", "", "", "", "", ""};
    private String draft = "";

    int draft(int l) {
        if (l < 0 || l > 3) {
            return BAD_ARG;
        }
        if (draft.length() == 9) {
            return FULL;
        }
        draft += l;
        return draft.length();
    }

    void scrap() {
        draft = "";
    }

    int add(int s) {
        if (s < 0 || s > 5) {
            return BAD_ARG;
        }
        if (!texts[s].isEmpty()) {
            return FULL;
        }
        if (draft.isEmpty()) {
            return NONE;
        }
        texts[s] = draft;
        draft = "";
        return endings();
    }

    int remove(int s) {
        if (s < 0 || s > 5) {
            return BAD_ARG;
        }
        if (texts[s].isEmpty()) {
            return NONE;
        }
        texts[s] = "";
        return endings();
    }

    int endings() {
        return inOrder().size();
    }

    int length(int s) {
        return s < 0 || s > 5 ? BAD_ARG : texts[s].length();
    }

    int letter(int s, int i) {
        if (s < 0 || s > 5 || i < 0 || i >= texts[s].length()) {
            return NONE;
        }
        return texts[s].charAt(i) - '0';
    }

    int ending(int r) {
        List<Ending> all = inOrder();
        return r < 0 || r >= all.size() ? NONE : all.get(r).number();
    }

    int rank(int number) {
        List<Ending> all = inOrder();
        for (int r = 0; r < all.size(); r++) {
            if (all.get(r).number() == number) {
                return r;
            }
        }
        return NONE;
    }

    int count(int p) {
        return isPattern(p) ? endingsWith(lettersOf(p)).size() : BAD_ARG;
    }

    int place(int p, int k) {
        if (!isPattern(p)) {
            return BAD_ARG;
        }
        List<Ending> found = endingsWith(lettersOf(p));
        return k < 0 || k >= found.size() ? NONE : found.get(k).number();
    }

    int slots(int p) {
        if (!isPattern(p)) {
            return BAD_ARG;
        }
        int sum = 0;
        for (int s = 0; s < 6; s++) {
            if (!texts[s].isEmpty() && texts[s].contains(lettersOf(p))) {
                sum += 1 << s;
            }
        }
        return sum;
    }

    int after(int p) {
        if (!isPattern(p)) {
            return BAD_ARG;
        }
        int sum = 0;
        for (int l = 0; l < 4; l++) {
            if (!endingsWith(lettersOf(p) + l).isEmpty()) {
                sum += 1 << l;
            }
        }
        return sum;
    }

    int before(int p) {
        if (!isPattern(p)) {
            return BAD_ARG;
        }
        int sum = 0;
        for (int l = 0; l < 4; l++) {
            if (!endingsWith(l + lettersOf(p)).isEmpty()) {
                sum += 1 << l;
            }
        }
        return sum;
    }

    int common(int r) {
        List<Ending> all = inOrder();
        if (r < 0 || r >= all.size() || r + 1 >= all.size()) {
            return NONE;
        }
        String one = all.get(r).letters();
        String other = all.get(r + 1).letters();
        int n = one.length();
        while (!other.startsWith(one.substring(0, n))) {
            n--;
        }
        return n;
    }

    int distinct() {
        return timesOfBegins().size();
    }

    int repeated() {
        int most = 0;
        for (Map.Entry<String, Integer> begin : timesOfBegins().entrySet()) {
            if (begin.getValue() >= 2) {
                most = Math.max(most, begin.getKey().length());
            }
        }
        return most;
    }

    static boolean isPattern(int p) {
        return p >= 1 && p < 8192 && Integer.toBinaryString(p).length() % 2 == 1;
    }

    private static String lettersOf(int p) {
        String letters = "";
        for (int rest = p; rest > 1; rest /= 4) {
            letters = rest % 4 + letters;
        }
        return letters;
    }

    private List<Ending> inOrder() {
        List<Ending> all = new ArrayList<>();
        for (int s = 0; s < 6; s++) {
            for (int i = 0; !texts[s].isEmpty() && i <= texts[s].length(); i++) {
                all.add(new Ending(16 * s + i, texts[s].substring(i)));
            }
        }
        all.sort(Comparator.comparing(Ending::letters).thenComparing(e -> e.number() / 16));
        return all;
    }

    private List<Ending> endingsWith(String begin) {
        List<Ending> found = new ArrayList<>();
        for (Ending e : inOrder()) {
            if (e.letters().startsWith(begin)) {
                found.add(e);
            }
        }
        return found;
    }

    private Map<String, Integer> timesOfBegins() {
        Map<String, Integer> times = new HashMap<>();
        for (Ending e : inOrder()) {
            for (int n = 1; n <= e.letters().length(); n++) {
                times.merge(e.letters().substring(0, n), 1, Integer::sum);
            }
        }
        return times;
    }
}
