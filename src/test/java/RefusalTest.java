import java.util.ArrayList;
import java.util.List;
import java.util.function.ToIntFunction;

/**
 * "No call ever throws. A refused call answers the code named and changes nothing." Each refused call is made on a new
 * object in each of the states below, and all that can be seen of the object is then compared with one that the call
 * was not made on. The calls that only ask are looked at in the same way.
 */
public final class RefusalTest extends Given {
    private static final int[] ANY_INTS = {LEAST, LEAST + 1, -(1 << 28), -8192, -256, -17, -16, -2, -1, 0, 1, 2, 3, 4, 5,
        6, 8, 9, 10, 15, 16, 31, 32, 59, 60, 61, 89, 90, 95, 96, 4095, 4096, 8191, 8192, 1 << 16, 1 << 28, 1 << 30,
        GREATEST - 1, GREATEST};

    private record State(String name, String draft, String... texts) {
        EndingIndex made() {
            EndingIndex x = with(texts);
            write(x, draft);
            return x;
        }

        boolean isFull(int s) {
            return s < texts.length && !texts[s].isEmpty();
        }
    }

    private record Call(String name, ToIntFunction<EndingIndex> made) {
    }

    private static final State[] STATES = {
        new State("new", ""),
        new State("a draft of one letter", "2"),
        new State("a full draft", "321032103"),
        new State("one text of one letter", "", "", "", "", "", "", "3"),
        new State("some texts and a draft", "21", "0120", "", "3", "", "012012012"),
        new State("some texts and a full draft", "111111111", "", "2", "", "2", "23", "111111111"),
        new State("all full", "", LONGEST, LONGEST, LONGEST, LONGEST, LONGEST, LONGEST),
        new State("all full and a draft of one letter", "0", "3", "30", "301", "3012", "000000000", "3"),
        new State("all full and a full draft", "333333333", LONGEST, "2", LONGEST, "21", "000000000", "333333333"),
    };

    private static final Checks CHECKS = new Checks();

    public static void main(String[] args) {
        for (State state : STATES) {
            refusedDrafts(state);
            refusedAdds(state);
            refusedRemoves(state);
            refusedQuestions(state);
            questionsChangeNothing(state);
            noCallThrows(state);
        }
        CHECKS.finish("RefusalTest");
    }

    private static void refused(State state, String name, int code, ToIntFunction<EndingIndex> call) {
        EndingIndex x = state.made();
        String what = state.name() + ": " + name;
        CHECKS.due(what, call.applyAsInt(x), code);
        CHECKS.due(what + " again", call.applyAsInt(x), code);
        CHECKS.due(what + " changed", seenOf(x), seenOf(state.made()));
    }

    private static void refusedDrafts(State state) {
        for (int l : NO_LETTERS) {
            refused(state, "draft(" + l + ")", BAD_ARG, x -> x.draft(l));
        }
        for (int l : new int[] {0, 1, 2, 3}) {
            if (state.draft().length() == 9) {
                refused(state, "draft(" + l + ")", FULL, x -> x.draft(l));
            }
        }
    }

    private static void refusedAdds(State state) {
        for (int s : NO_SLOTS) {
            refused(state, "add(" + s + ")", BAD_ARG, x -> x.add(s));
        }
        for (int s : new int[] {0, 1, 2, 3, 4, 5}) {
            if (state.isFull(s)) {
                refused(state, "add(" + s + ")", FULL, x -> x.add(s));
            } else if (state.draft().isEmpty()) {
                refused(state, "add(" + s + ")", NONE, x -> x.add(s));
            }
        }
    }

    private static void refusedRemoves(State state) {
        for (int s : NO_SLOTS) {
            refused(state, "remove(" + s + ")", BAD_ARG, x -> x.remove(s));
        }
        for (int s : new int[] {0, 1, 2, 3, 4, 5}) {
            if (!state.isFull(s)) {
                refused(state, "remove(" + s + ")", NONE, x -> x.remove(s));
            }
        }
    }

    private static void refusedQuestions(State state) {
        for (int s : NO_SLOTS) {
            refused(state, "length(" + s + ")", BAD_ARG, x -> x.length(s));
            refused(state, "letter(" + s + ", 0)", NONE, x -> x.letter(s, 0));
        }
        for (int p : NO_PATTERNS) {
            refused(state, "count(" + p + ")", BAD_ARG, x -> x.count(p));
            refused(state, "place(" + p + ", 0)", BAD_ARG, x -> x.place(p, 0));
            refused(state, "slots(" + p + ")", BAD_ARG, x -> x.slots(p));
            refused(state, "after(" + p + ")", BAD_ARG, x -> x.after(p));
            refused(state, "before(" + p + ")", BAD_ARG, x -> x.before(p));
        }
        for (int n : new int[] {LEAST, -1, 96, GREATEST}) {
            refused(state, "letter(0, " + n + ")", NONE, x -> x.letter(0, n));
            refused(state, "ending(" + n + ")", NONE, x -> x.ending(n));
            refused(state, "rank(" + n + ")", NONE, x -> x.rank(n));
            refused(state, "place(1, " + n + ")", NONE, x -> x.place(1, n));
            refused(state, "common(" + n + ")", NONE, x -> x.common(n));
        }
    }

    private static List<Call> questions(int n) {
        List<Call> calls = new ArrayList<>();
        calls.add(new Call("endings()", x -> x.endings()));
        calls.add(new Call("distinct()", x -> x.distinct()));
        calls.add(new Call("repeated()", x -> x.repeated()));
        calls.add(new Call("length(" + n + ")", x -> x.length(n)));
        calls.add(new Call("ending(" + n + ")", x -> x.ending(n)));
        calls.add(new Call("rank(" + n + ")", x -> x.rank(n)));
        calls.add(new Call("count(" + n + ")", x -> x.count(n)));
        calls.add(new Call("slots(" + n + ")", x -> x.slots(n)));
        calls.add(new Call("after(" + n + ")", x -> x.after(n)));
        calls.add(new Call("before(" + n + ")", x -> x.before(n)));
        calls.add(new Call("common(" + n + ")", x -> x.common(n)));
        for (int m : ANY_INTS) {
            calls.add(new Call("letter(" + n + ", " + m + ")", x -> x.letter(n, m)));
            calls.add(new Call("place(" + n + ", " + m + ")", x -> x.place(n, m)));
        }
        return calls;
    }

    private static void questionsChangeNothing(State state) {
        for (int n : ANY_INTS) {
            EndingIndex x = state.made();
            for (Call call : questions(n)) {
                call.made().applyAsInt(x);
            }
            CHECKS.due(state.name() + ": the questions of " + n + " changed", seenOf(x), seenOf(state.made()));
        }
    }

    private static void noCallThrows(State state) {
        for (int n : ANY_INTS) {
            List<Call> calls = questions(n);
            calls.add(new Call("draft(" + n + ")", x -> x.draft(n)));
            calls.add(new Call("add(" + n + ")", x -> x.add(n)));
            calls.add(new Call("remove(" + n + ")", x -> x.remove(n)));
            calls.add(new Call("scrap()", RefusalTest::scrapped));
            for (Call call : calls) {
                CHECKS.due(state.name() + ": " + call.name() + " threw", thrownBy(call, state.made()), "nothing");
            }
        }
    }

    private static int scrapped(EndingIndex x) {
        x.scrap();
        return 0;
    }

    private static String thrownBy(Call call, EndingIndex x) {
        try {
            call.made().applyAsInt(x);
            return "nothing";
        } catch (Throwable thrown) {
            return thrown.toString();
        }
    }
}
