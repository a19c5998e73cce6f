import java.util.ArrayList;
import java.util.List;
import java.util.function.Supplier;

// "No question changes anything. A refused call changes nothing." In many
// states, each question and each call that is refused there is made once on a
// new object, and then all that can be seen of the object is compared with
// what is seen without that call.
public final class NothingChangesTest {
    private static final int MIN = Integer.MIN_VALUE;
    private static final int MAX = Integer.MAX_VALUE;

    // What an object answers after its 512th call is free, so no object is
    // asked for more plans than this.
    private static final int PLANS_AT_ONCE = 256;

    private interface Call {
        int on(DisjunctiveTimes x);
    }

    private static final class Named {
        final String name;
        final Call call;
        final boolean refused;
        final int want;

        Named(String name, Call call, boolean refused, int want) {
            this.name = name;
            this.call = call;
            this.refused = refused;
            this.want = want;
        }
    }

    private static int compared = 0;
    private static int wrong = 0;

    private static void fault(String what) {
        wrong++;
        if (wrong <= 40) {
            System.out.println(what);
        }
    }

    private static int constrain(DisjunctiveTimes x, int... comparisons) {
        for (int at = 0; at < comparisons.length; at += 3) {
            x.alternative(comparisons[at], comparisons[at + 1], comparisons[at + 2]);
        }
        return x.add();
    }

    // Constraints that all differ, so that none can take another's place unseen
    private static void constrainDifferently(DisjunctiveTimes x, int size) {
        int n = x.events();
        for (int at = 0; at < size; at++) {
            switch (at % 3) {
                case 0: constrain(x, 0, 1, at - 1); break;
                case 1: constrain(x, n, n - 1, -at, 1, n, at); break;
                default: constrain(x, 0, n, 1, 1, 0, -at, n, 1, -at); break;
            }
        }
    }

    private static void draftDifferently(DisjunctiveTimes x, int count) {
        int n = x.events();
        int[][] comparisons = {{0, n, 2}, {n - 1, 0, -4}, {n, 1, -6}};
        for (int at = 0; at < count; at++) {
            x.alternative(comparisons[at][0], comparisons[at][1], comparisons[at][2]);
        }
    }

    private static DisjunctiveTimes solvable(int n, int size, int draft) {
        DisjunctiveTimes x = new DisjunctiveTimes(n);
        constrainDifferently(x, size);
        draftDifferently(x, draft);
        return x;
    }

    private static DisjunctiveTimes unsolvable(int n, int size, int draft) {
        DisjunctiveTimes x = new DisjunctiveTimes(n);
        constrainDifferently(x, size - 2);
        constrain(x, 1, 0, -2);
        constrain(x, 0, 1, 1);
        draftDifferently(x, draft);
        return x;
    }

    // Behind the end of the list and of the draft there is something left over.
    private static DisjunctiveTimes used(int n, int size, int draft) {
        DisjunctiveTimes x = new DisjunctiveTimes(n);
        constrainDifferently(x, 8);
        draftDifferently(x, 3);
        x.clear();
        while (x.size() > size) {
            x.remove(x.size() / 2);
        }
        draftDifferently(x, draft);
        return x;
    }

    private static String plansMet(Supplier<DisjunctiveTimes> state, int n) {
        StringBuilder met = new StringBuilder();
        for (int from = 0; from < 1 << (3 * n); from += PLANS_AT_ONCE) {
            DisjunctiveTimes x = state.get();
            for (int plan = from; plan < from + PLANS_AT_ONCE && plan < 1 << (3 * n); plan++) {
                met.append(x.meets(plan));
            }
        }
        return met.toString();
    }

    private static DisjunctiveTimes withoutAllBut(DisjunctiveTimes x, int kept) {
        for (int position = x.size() - 1; position >= 0; position--) {
            if (position != kept) {
                x.remove(position);
            }
        }
        return x;
    }

    private static DisjunctiveTimes draftAlone(DisjunctiveTimes x) {
        withoutAllBut(x, -1);
        x.add();
        return x;
    }

    // All that can be seen: how long list and draft are, what room there is,
    // and which plans each constraint, and the draft as one, is met by.
    private static List<String> seen(Supplier<DisjunctiveTimes> state, int n) {
        List<String> seen = new ArrayList<>();
        int size = state.get().size();
        seen.add("events " + state.get().events());
        seen.add("size " + size);
        seen.add("draft " + state.get().clear());
        seen.add("next in the draft " + state.get().alternative(0, 1, 0));
        seen.add("next three in the list " + state.get().apart(1, 0, 7));
        seen.add("add " + state.get().add());
        for (int position = 0; position < size; position++) {
            int kept = position;
            seen.add("constraint " + position + " " + plansMet(() -> withoutAllBut(state.get(), kept), n));
        }
        seen.add("draft " + plansMet(() -> draftAlone(state.get()), n));
        seen.add("list " + plansMet(state, n));
        return seen;
    }

    private static void ask(List<Named> calls, String name, Call call) {
        calls.add(new Named(name, call, false, 0));
    }

    private static void refuse(List<Named> calls, int want, String name, Call call) {
        calls.add(new Named(name, call, true, want));
    }

    private static List<Named> questions(int n, int size) {
        List<Named> calls = new ArrayList<>();
        ask(calls, "events()", x -> x.events());
        ask(calls, "size()", x -> x.size());
        ask(calls, "solvable()", x -> x.solvable());
        ask(calls, "shortest()", x -> x.shortest());
        ask(calls, "entailed()", x -> x.entailed());
        ask(calls, "excess()", x -> x.excess());
        for (int event = 0; event < n; event++) {
            int e = event;
            ask(calls, "earliest(" + e + ")", x -> x.earliest(e));
            ask(calls, "latest(" + e + ")", x -> x.latest(e));
        }
        for (int at = 0; at < (n + 1) * (n + 1); at++) {
            int i = at / (n + 1);
            int j = at % (n + 1);
            ask(calls, "widest(" + i + ", " + j + ")", x -> x.widest(i, j));
        }
        int plans = 1 << (3 * n);
        int[] numbers = {MIN, -1, 0, 1, plans / 2, plans - 2, plans - 1, plans, MAX};
        for (int number : numbers) {
            ask(calls, "next(" + number + ")", x -> x.next(number));
            ask(calls, "meets(" + number + ")", x -> x.meets(number));
        }
        for (int at = 0; at < size; at++) {
            int position = at;
            ask(calls, "redundant(" + position + ")", x -> x.redundant(position));
        }
        return calls;
    }

    private static List<Named> refusedChanges(int n, int size, int draft) {
        List<Named> calls = new ArrayList<>();
        int[] badEnds = {MIN, -1, n + 1, MAX};
        for (int bad : badEnds) {
            refuse(calls, -1, "alternative(" + bad + ", 0, 0)", x -> x.alternative(bad, 0, 0));
            refuse(calls, -1, "alternative(0, " + bad + ", 0)", x -> x.alternative(0, bad, 0));
        }
        refuse(calls, -2, "alternative(0, 0, 0)", x -> x.alternative(0, 0, 0));
        refuse(calls, -2, "alternative(n, n, 0)", x -> x.alternative(n, n, 0));
        int[] badBounds = {MIN, -11, 11, MAX};
        for (int bad : badBounds) {
            refuse(calls, -3, "alternative(0, 1, " + bad + ")", x -> x.alternative(0, 1, bad));
        }
        if (draft == 3) {
            refuse(calls, -4, "alternative(0, 1, -9)", x -> x.alternative(0, 1, -9));
            refuse(calls, -4, "alternative(1, n, 10)", x -> x.alternative(1, n, 10));
        }
        if (draft == 0) {
            refuse(calls, -1, "add()", x -> x.add());
        } else if (size == 8) {
            refuse(calls, -2, "add()", x -> x.add());
        }
        int[] badPairs = {MIN, -8, -1, n, 8 * n, 9 * n, 64, MAX};
        for (int bad : badPairs) {
            refuse(calls, -1, "apart(" + bad + ", 1, 1)", x -> x.apart(bad, 1, 1));
        }
        refuse(calls, -2, "apart(0, 1, 1)", x -> x.apart(0, 1, 1));
        refuse(calls, -2, "apart(9, 1, 1)", x -> x.apart(9, 1, 1));
        int[] badGaps = {MIN, -1, 8, MAX};
        for (int bad : badGaps) {
            refuse(calls, -3, "apart(1, " + bad + ", 1)", x -> x.apart(1, bad, 1));
            refuse(calls, -4, "apart(1, 1, " + bad + ")", x -> x.apart(1, 1, bad));
        }
        if (size > 5) {
            refuse(calls, -5, "apart(1, 7, 7)", x -> x.apart(1, 7, 7));
            refuse(calls, -5, "apart(8, 0, 0)", x -> x.apart(8, 0, 0));
        }
        int[] badPositions = {MIN, -1, size, size + 1, 8, 9, MAX};
        for (int bad : badPositions) {
            refuse(calls, -1, "remove(" + bad + ")", x -> x.remove(bad));
        }
        return calls;
    }

    private static List<Named> refusedQuestions(int n, int size, boolean solvable) {
        List<Named> calls = new ArrayList<>();
        int[] badEvents = {MIN, -1, n, n + 1, MAX};
        for (int bad : badEvents) {
            refuse(calls, -1, "earliest(" + bad + ")", x -> x.earliest(bad));
            refuse(calls, -1, "latest(" + bad + ")", x -> x.latest(bad));
        }
        int[] badEnds = {MIN, -1, n + 1, MAX};
        for (int bad : badEnds) {
            refuse(calls, -100, "widest(" + bad + ", 0)", x -> x.widest(bad, 0));
            refuse(calls, -100, "widest(n, " + bad + ")", x -> x.widest(n, bad));
        }
        int[] badNumbers = {MIN, -1, 1 << (3 * n), MAX};
        for (int bad : badNumbers) {
            refuse(calls, -1, "meets(" + bad + ")", x -> x.meets(bad));
        }
        int[] badPositions = {MIN, -1, size, size + 1, 8, 9, MAX};
        for (int bad : badPositions) {
            refuse(calls, -1, "redundant(" + bad + ")", x -> x.redundant(bad));
        }
        if (!solvable) {
            refuse(calls, -2, "earliest(0)", x -> x.earliest(0));
            refuse(calls, -2, "latest(0)", x -> x.latest(0));
            refuse(calls, -200, "widest(0, 1)", x -> x.widest(0, 1));
            refuse(calls, -1, "shortest()", x -> x.shortest());
        }
        return calls;
    }

    private static void compare(String name, List<String> before, List<String> after) {
        compared++;
        if (before.equals(after)) {
            return;
        }
        for (int at = 0; at < before.size() && at < after.size(); at++) {
            if (!before.get(at).equals(after.get(at))) {
                fault(name + " changed: " + before.get(at) + " to " + after.get(at));
                return;
            }
        }
        fault(name + " changed how much there is to see");
    }

    private static void changesNothing(String name, Supplier<DisjunctiveTimes> state, int n, int draft) {
        int size = state.get().size();
        List<String> before = seen(state, n);
        List<Named> calls = questions(n, size);
        calls.addAll(refusedChanges(n, size, draft));
        calls.addAll(refusedQuestions(n, size, state.get().solvable() == 1));
        for (Named named : calls) {
            int answer = named.call.on(state.get());
            if (named.refused && answer != named.want) {
                fault(name + named.name + " answered " + answer + ", due is " + named.want);
            }
            compare(name + named.name, before, seen(() -> {
                DisjunctiveTimes x = state.get();
                named.call.on(x);
                return x;
            }, n));
        }
        compare(name + "all of them", before, seen(() -> after(state.get(), calls), n));
        sameAnswersAgain(name, state, calls);
    }

    private static DisjunctiveTimes after(DisjunctiveTimes x, List<Named> calls) {
        for (Named named : calls) {
            named.call.on(x);
        }
        return x;
    }

    // The answer of each call does not hang on the others made before it.
    private static void sameAnswersAgain(String name, Supplier<DisjunctiveTimes> state, List<Named> calls) {
        DisjunctiveTimes x = state.get();
        after(x, calls);
        for (Named named : calls) {
            int first = named.call.on(state.get());
            int again = named.call.on(x);
            if (first != again) {
                fault(name + named.name + " answered " + again + " after others, at first " + first);
            }
        }
    }

    private static void allKinds(int n, int size, int draft) {
        String name = "n " + n + ", size " + size + ", draft " + draft + ": ";
        changesNothing(name, () -> solvable(n, size, draft), n, draft);
        changesNothing("used, " + name, () -> used(n, size, draft), n, draft);
        if (size >= 2) {
            changesNothing("unsolvable, " + name, () -> unsolvable(n, size, draft), n, draft);
        }
    }

    public static void main(String[] args) {
        for (int size = 0; size <= 8; size++) {
            for (int draft = 0; draft <= 3; draft++) {
                allKinds(2, size, draft);
            }
        }
        // More events take longer to look at, so they have the edges alone.
        for (int n = 3; n <= 4; n++) {
            allKinds(n, 0, 0);
            allKinds(n, 5, 3);
            allKinds(n, 8, 1);
        }
        System.out.println(wrong == 0
            ? "nothing changed in " + compared + " comparisons"
            : wrong + " calls changed something or are not as due");
        if (wrong != 0) {
            System.exit(1);
        }
    }
}
