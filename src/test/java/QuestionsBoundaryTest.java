import java.util.ArrayList;
import java.util.List;

// One test for each sentence of promises 9 to 18 that names a boundary case.
// Each is told by its sentence when it fails.
public final class QuestionsBoundaryTest {
    private static final int MIN = Integer.MIN_VALUE;
    private static final int MAX = Integer.MAX_VALUE;
    private static final int[] STEPS = {
        1, 2, 3, 4, 8, 16, 32, 64, 128, 256, 1 << 12, 1 << 16, 1 << 24, 1 << 29, 1 << 30, MIN,
    };

    private static String sentence = "";
    private static int sentences = 0;
    private static int wrong = 0;

    private static void fault(String what) {
        wrong++;
        System.out.println(sentence + " :: " + what);
    }

    private static void due(String call, int got, int want) {
        if (got != want) {
            fault(call + " answered " + got + ", due is " + want);
        }
    }

    // What one sentence's test throws must not hide the others.
    private static void sentence(String text, Runnable test) {
        sentence = text;
        sentences++;
        try {
            test.run();
        } catch (RuntimeException e) {
            fault("threw " + e);
        }
    }

    // Numbers outside a range: just beside it, far away, and those that would
    // fall into it again if higher bits were lost.
    private static List<Integer> outside(int least, int greatest) {
        List<Integer> found = new ArrayList<>();
        int[] bases = {least, greatest, 0, MIN, MAX};
        for (int base : bases) {
            for (int step : STEPS) {
                int[] values = {base, base + step, base - step};
                for (int value : values) {
                    if ((value < least || value > greatest) && !found.contains(value)) {
                        found.add(value);
                    }
                }
            }
        }
        return found;
    }

    private static int plans(int n) {
        return 1 << (3 * n);
    }

    private static int constrain(DisjunctiveTimes x, int... comparisons) {
        for (int at = 0; at < comparisons.length; at += 3) {
            x.alternative(comparisons[at], comparisons[at + 1], comparisons[at + 2]);
        }
        return x.add();
    }

    // The one solution is the plan of this number; the list has 2n constraints.
    private static DisjunctiveTimes only(int n, int number) {
        DisjunctiveTimes x = new DisjunctiveTimes(n);
        for (int event = 0; event < n; event++) {
            int time = (number >> (3 * (n - 1 - event))) & 7;
            constrain(x, event, n, time);
            constrain(x, n, event, -time);
        }
        return x;
    }

    // No solution, though each of the two constraints alone has many
    private static DisjunctiveTimes none(int n) {
        DisjunctiveTimes x = new DisjunctiveTimes(n);
        constrain(x, 0, 1, -1);
        constrain(x, 1, 0, 0);
        return x;
    }

    private static int[] somePlans(int n) {
        int last = plans(n) - 1;
        return new int[] {0, 1, 7, 8, 9, last / 2, last - 8, last - 7, last - 1, last};
    }

    private static int time(int n, int number, int event) {
        return event == n ? 0 : (number >> (3 * (n - 1 - event))) & 7;
    }

    private static void promise9() {
        sentence("P9 1 if there is a solution", () -> {
            for (int n = 2; n <= 4; n++) {
                due("empty list", new DisjunctiveTimes(n).solvable(), 1);
                for (int number : somePlans(n)) {
                    due("n " + n + " only plan " + number, only(n, number).solvable(), 1);
                }
            }
        });
        sentence("P9 otherwise 0", () -> {
            for (int n = 2; n <= 4; n++) {
                due("n " + n + " two that exclude each other", none(n).solvable(), 0);
                DisjunctiveTimes x = new DisjunctiveTimes(n);
                constrain(x, 0, 1, -8, 1, 0, -9, n, 0, -10);
                due("n " + n + " one that no plan meets", x.solvable(), 0);
                x.remove(0);
                due("n " + n + " without it", x.solvable(), 1);
            }
            // With 4 events, only() leaves no room in the list.
            for (int n = 2; n <= 3; n++) {
                for (int number : somePlans(n)) {
                    int time = time(n, number, 0);
                    DisjunctiveTimes x = only(n, number);
                    constrain(x, 0, n, time - 1, n, 0, -time - 1);
                    due("n " + n + " without plan " + number, x.solvable(), 0);
                }
            }
        });
    }

    private static void promises10And11() {
        sentence("P10 -1 if event is not good", () -> {
            for (int n = 2; n <= 4; n++) {
                for (int bad : outside(0, n - 1)) {
                    due("n " + n + " earliest(" + bad + ")", new DisjunctiveTimes(n).earliest(bad), -1);
                }
            }
        });
        sentence("P10 -2 if there is no solution", () -> {
            for (int n = 2; n <= 4; n++) {
                for (int event = 0; event < n; event++) {
                    due("n " + n + " earliest(" + event + ")", none(n).earliest(event), -2);
                }
            }
        });
        sentence("P10 the tests are made in the order named", () -> {
            for (int n = 2; n <= 4; n++) {
                for (int bad : outside(0, n - 1)) {
                    due("n " + n + " -1 before -2, earliest(" + bad + ")", none(n).earliest(bad), -1);
                }
            }
        });
        sentence("P10 the least time of the event in a solution", () -> {
            for (int n = 2; n <= 4; n++) {
                for (int event = 0; event < n; event++) {
                    due("n " + n + " empty list", new DisjunctiveTimes(n).earliest(event), 0);
                    for (int number : somePlans(n)) {
                        due("n " + n + " only plan " + number, only(n, number).earliest(event), time(n, number, event));
                    }
                    for (int time = 0; time <= 7; time++) {
                        DisjunctiveTimes x = new DisjunctiveTimes(n);
                        constrain(x, n, event, -time);
                        due("n " + n + " from " + time + " on", x.earliest(event), time);
                    }
                }
            }
        });
        sentence("P11 -1 if event is not good", () -> {
            for (int n = 2; n <= 4; n++) {
                for (int bad : outside(0, n - 1)) {
                    due("n " + n + " latest(" + bad + ")", new DisjunctiveTimes(n).latest(bad), -1);
                }
            }
        });
        sentence("P11 -2 if there is no solution", () -> {
            for (int n = 2; n <= 4; n++) {
                for (int event = 0; event < n; event++) {
                    due("n " + n + " latest(" + event + ")", none(n).latest(event), -2);
                }
            }
        });
        sentence("P11 the tests are made in the order named", () -> {
            for (int n = 2; n <= 4; n++) {
                for (int bad : outside(0, n - 1)) {
                    due("n " + n + " -1 before -2, latest(" + bad + ")", none(n).latest(bad), -1);
                }
            }
        });
        sentence("P11 the greatest time of the event in a solution", () -> {
            for (int n = 2; n <= 4; n++) {
                for (int event = 0; event < n; event++) {
                    due("n " + n + " empty list", new DisjunctiveTimes(n).latest(event), 7);
                    for (int number : somePlans(n)) {
                        due("n " + n + " only plan " + number, only(n, number).latest(event), time(n, number, event));
                    }
                    for (int time = 0; time <= 7; time++) {
                        DisjunctiveTimes x = new DisjunctiveTimes(n);
                        constrain(x, event, n, time);
                        due("n " + n + " up to " + time, x.latest(event), time);
                    }
                }
            }
        });
    }

    private static void promise12() {
        sentence("P12 -100 if i or j is not in 0 .. n", () -> {
            for (int n = 2; n <= 4; n++) {
                for (int bad : outside(0, n)) {
                    DisjunctiveTimes x = new DisjunctiveTimes(n);
                    due("n " + n + " widest(" + bad + ", 0)", x.widest(bad, 0), -100);
                    due("n " + n + " widest(" + bad + ", n)", x.widest(bad, n), -100);
                    due("n " + n + " widest(0, " + bad + ")", x.widest(0, bad), -100);
                    due("n " + n + " widest(n, " + bad + ")", x.widest(n, bad), -100);
                    due("n " + n + " both " + bad, x.widest(bad, bad), -100);
                }
            }
        });
        sentence("P12 -200 if there is no solution", () -> {
            for (int n = 2; n <= 4; n++) {
                for (int i = 0; i <= n; i++) {
                    for (int j = 0; j <= n; j++) {
                        due("n " + n + " widest(" + i + ", " + j + ")", none(n).widest(i, j), -200);
                    }
                }
            }
        });
        sentence("P12 the tests are made in the order named", () -> {
            for (int n = 2; n <= 4; n++) {
                for (int bad : outside(0, n)) {
                    DisjunctiveTimes x = none(n);
                    due("n " + n + " -100 before -200, i " + bad, x.widest(bad, 0), -100);
                    due("n " + n + " -100 before -200, j " + bad, x.widest(n, bad), -100);
                    due("n " + n + " -100 before -200, both " + bad, x.widest(bad, bad), -100);
                }
            }
        });
        sentence("P12 for events or the origin", () -> {
            for (int n = 2; n <= 4; n++) {
                for (int i = 0; i <= n; i++) {
                    for (int j = 0; j <= n; j++) {
                        String call = "n " + n + " widest(" + i + ", " + j + ")";
                        int want = i == j || i == n ? 0 : 7;
                        due(call + " empty list", new DisjunctiveTimes(n).widest(i, j), want);
                        for (int number : somePlans(n)) {
                            int difference = time(n, number, i) - time(n, number, j);
                            due(call + " only plan " + number, only(n, number).widest(i, j), difference);
                        }
                    }
                }
            }
        });
        sentence("P12 the greatest time(i) - time(j) in a solution", () -> {
            for (int n = 2; n <= 4; n++) {
                for (int i = 0; i <= n; i++) {
                    for (int j = 0; j <= n; j++) {
                        for (int k = -7; i != j && k <= 7; k++) {
                            DisjunctiveTimes x = new DisjunctiveTimes(n);
                            constrain(x, i, j, k);
                            // The origin is never after, no event ever before it.
                            int want = i == n ? Math.min(k, 0) : j == n && k < 0 ? -200 : k;
                            due("n " + n + " (" + i + ", " + j + ", " + k + ")", x.widest(i, j), want);
                        }
                    }
                }
            }
        });
    }

    private static void promise13() {
        sentence("P13 after is any int", () -> {
            for (int n = 2; n <= 4; n++) {
                int last = plans(n) - 1;
                for (int after : outside(0, MAX)) {
                    due("n " + n + " next(" + after + ")", new DisjunctiveTimes(n).next(after), 0);
                    due("n " + n + " only the last, next(" + after + ")", only(n, last).next(after), last);
                }
                for (int after : outside(MIN, last - 1)) {
                    due("n " + n + " next(" + after + ")", new DisjunctiveTimes(n).next(after), -1);
                    due("n " + n + " only the first, next(" + after + ")", only(n, 0).next(after), -1);
                }
            }
        });
        sentence("P13 the least number that is greater than after", () -> {
            for (int n = 2; n <= 4; n++) {
                int last = plans(n) - 1;
                for (int number : somePlans(n)) {
                    int want = number == last ? -1 : number + 1;
                    due("n " + n + " empty list, next(" + number + ")", new DisjunctiveTimes(n).next(number), want);
                    DisjunctiveTimes x = only(n, number);
                    due("n " + n + " only " + number + ", after one less", x.next(number - 1), number);
                    due("n " + n + " only " + number + ", after itself", x.next(number), -1);
                    due("n " + n + " only " + number + ", after one more", x.next(number + 1), -1);
                    due("n " + n + " only " + number + ", after -1", x.next(-1), number);
                }
            }
        });
        sentence("P13 -1 if there is none", () -> {
            for (int n = 2; n <= 4; n++) {
                int[] afters = {MIN, -2, -1, 0, 1, plans(n) - 2, plans(n) - 1, plans(n), MAX};
                for (int after : afters) {
                    due("n " + n + " no solution, next(" + after + ")", none(n).next(after), -1);
                }
            }
        });
    }

    private static void promise14() {
        sentence("P14 -1 if number is not in 0 .. 8^n - 1", () -> {
            for (int n = 2; n <= 4; n++) {
                for (int bad : outside(0, plans(n) - 1)) {
                    due("n " + n + " meets(" + bad + ")", new DisjunctiveTimes(n).meets(bad), -1);
                    due("n " + n + " no solution, meets(" + bad + ")", none(n).meets(bad), -1);
                }
            }
        });
        sentence("P14 1 if the plan with this number is a solution", () -> {
            for (int n = 2; n <= 4; n++) {
                for (int number : somePlans(n)) {
                    due("n " + n + " empty list, meets(" + number + ")", new DisjunctiveTimes(n).meets(number), 1);
                    due("n " + n + " only " + number, only(n, number).meets(number), 1);
                }
            }
        });
        sentence("P14 otherwise 0", () -> {
            for (int n = 2; n <= 4; n++) {
                for (int number : somePlans(n)) {
                    due("n " + n + " no solution, meets(" + number + ")", none(n).meets(number), 0);
                    for (int other : somePlans(n)) {
                        int want = other == number ? 1 : 0;
                        due("n " + n + " only " + number + ", meets(" + other + ")", only(n, number).meets(other), want);
                    }
                }
            }
        });
    }

    private static void promise15() {
        sentence("P15 -1 if there is no solution", () -> {
            for (int n = 2; n <= 4; n++) {
                due("n " + n, none(n).shortest(), -1);
            }
        });
        sentence("P15 the least, over all solutions, of the greatest time of an event", () -> {
            for (int n = 2; n <= 4; n++) {
                due("n " + n + " empty list", new DisjunctiveTimes(n).shortest(), 0);
                due("n " + n + " all at 0", only(n, 0).shortest(), 0);
                due("n " + n + " all at 7", only(n, plans(n) - 1).shortest(), 7);
                for (int event = 0; event < n; event++) {
                    for (int time = 0; time <= 7; time++) {
                        int number = time << (3 * (n - 1 - event));
                        due("n " + n + " only plan " + number, only(n, number).shortest(), time);
                        DisjunctiveTimes x = new DisjunctiveTimes(n);
                        constrain(x, n, event, -time);
                        due("n " + n + " event " + event + " from " + time + " on", x.shortest(), time);
                    }
                }
                // The least number has the greatest last time here, and the
                // greatest number too.
                DisjunctiveTimes x = new DisjunctiveTimes(n);
                constrain(x, n, n - 1, -7, n, 0, -3);
                due("n " + n + " a solution in the middle", x.shortest(), 3);
            }
        });
    }

    private static void promise16() {
        sentence("P16 -1 if the draft is empty", () -> {
            for (int n = 2; n <= 4; n++) {
                due("n " + n + " new", new DisjunctiveTimes(n).entailed(), -1);
                due("n " + n + " all at 0", only(n, 0).entailed(), -1);
                DisjunctiveTimes x = new DisjunctiveTimes(n);
                x.alternative(0, 1, 10);
                x.clear();
                due("n " + n + " cleared", x.entailed(), -1);
                constrain(x, 0, 1, 0);
                due("n " + n + " added", x.entailed(), -1);
            }
        });
        sentence("P16 -1 if the draft is empty, also if there is no solution", () -> {
            for (int n = 2; n <= 4; n++) {
                due("n " + n, none(n).entailed(), -1);
            }
        });
        sentence("P16 so also if there is no solution", () -> {
            for (int n = 2; n <= 4; n++) {
                DisjunctiveTimes x = none(n);
                for (int count = 1; count <= 3; count++) {
                    x.alternative(0, 1, -10);
                    due("n " + n + " draft of " + count + " that no plan meets", x.entailed(), 1);
                }
                DisjunctiveTimes y = none(n);
                y.alternative(0, 1, 10);
                due("n " + n + " draft that all plans meet", y.entailed(), 1);
            }
        });
        sentence("P16 1 if every solution meets the draft taken as a constraint", () -> {
            for (int n = 2; n <= 4; n++) {
                DisjunctiveTimes x = new DisjunctiveTimes(n);
                x.alternative(0, 1, 7);
                due("n " + n + " empty list, all plans meet it", x.entailed(), 1);
                // Each alternative alone leaves plans out; together they do not.
                DisjunctiveTimes y = new DisjunctiveTimes(n);
                y.alternative(0, n, 2);
                due("n " + n + " one of three", y.entailed(), 0);
                y.alternative(n, 0, -4);
                due("n " + n + " two of three", y.entailed(), 0);
                y.alternative(n, 0, -3);
                due("n " + n + " three of three", y.entailed(), 1);
                due("n " + n + " as a constraint", y.add(), 1);
                due("n " + n + " it leaves no plan out", y.redundant(0), 1);
            }
        });
        sentence("P16 otherwise 0, though only one solution does not meet it", () -> {
            for (int n = 2; n <= 4; n++) {
                for (int number : somePlans(n)) {
                    int time = time(n, number, 0);
                    DisjunctiveTimes x = only(n, number);
                    x.alternative(0, n, time);
                    due("n " + n + " only plan " + number + " meets it", x.entailed(), 1);
                    x.clear();
                    x.alternative(0, n, time - 1);
                    x.alternative(n, 0, -time - 1);
                    due("n " + n + " only plan " + number + " does not", x.entailed(), 0);
                }
                // Times of all events but two at 0, so 64 plans are left.
                DisjunctiveTimes first = new DisjunctiveTimes(n);
                for (int event = 2; event < n; event++) {
                    constrain(first, event, n, 0);
                }
                first.alternative(n, 0, -1);
                first.alternative(n, 1, -1);
                due("n " + n + " all but the first plan", first.entailed(), 0);
                DisjunctiveTimes last = new DisjunctiveTimes(n);
                for (int event = 2; event < n; event++) {
                    constrain(last, n, event, -7);
                }
                last.alternative(0, n, 6);
                last.alternative(1, n, 6);
                due("n " + n + " all but the last plan", last.entailed(), 0);
            }
        });
    }

    private static void promise17() {
        sentence("P17 -1 if there is none", () -> {
            for (int size = 0; size <= 8; size++) {
                for (int bad : outside(0, size - 1)) {
                    DisjunctiveTimes x = new DisjunctiveTimes(2);
                    for (int at = 0; at < size; at++) {
                        constrain(x, 0, 1, 7);
                    }
                    due("size " + size + " redundant(" + bad + ")", x.redundant(bad), -1);
                }
            }
        });
        sentence("P17 -1 if there is none, also if there is no solution", () -> {
            for (int n = 2; n <= 4; n++) {
                for (int bad : outside(0, 1)) {
                    due("n " + n + " redundant(" + bad + ")", none(n).redundant(bad), -1);
                }
            }
        });
        sentence("P17 -1 if there is none any more", () -> {
            DisjunctiveTimes x = new DisjunctiveTimes(3);
            constrain(x, 0, 1, 7);
            constrain(x, 1, 2, -1);
            due("redundant(1)", x.redundant(1), 0);
            x.remove(0);
            due("redundant(1) after remove", x.redundant(1), -1);
            due("redundant(0) after remove", x.redundant(0), 0);
            x.alternative(0, 1, 7);
            due("a draft is not at a position", x.redundant(1), -1);
            x.remove(0);
            due("redundant(0) of an empty list", x.redundant(0), -1);
        });
        sentence("P17 1 if the solutions would be just the same", () -> {
            for (int n = 2; n <= 4; n++) {
                DisjunctiveTimes alone = new DisjunctiveTimes(n);
                constrain(alone, 0, 1, 7);
                due("n " + n + " the only one, met by all plans", alone.redundant(0), 1);
                for (int size = 1; size <= 8; size++) {
                    for (int position = 0; position < size; position++) {
                        // All the same; and only one that leaves a plan out
                        DisjunctiveTimes x = new DisjunctiveTimes(n);
                        DisjunctiveTimes y = new DisjunctiveTimes(n);
                        for (int at = 0; at < size; at++) {
                            constrain(x, 0, 1, 0);
                            constrain(y, 0, 1, at == position ? 6 : 7);
                        }
                        String call = "n " + n + " size " + size + " redundant(" + position + ")";
                        due(call + " of twins", x.redundant(position), size == 1 ? 0 : 1);
                        for (int at = 0; at < size; at++) {
                            due(call + " of one that counts", y.redundant(at), at == position ? 0 : 1);
                        }
                    }
                }
            }
        });
        sentence("P17 otherwise 0, though only one solution would be new", () -> {
            for (int n = 2; n <= 4; n++) {
                for (int number : somePlans(n)) {
                    // Times are 0 .. 7 anyway, so there these bounds do nothing.
                    DisjunctiveTimes x = only(n, number);
                    for (int event = 0; event < n; event++) {
                        int time = time(n, number, event);
                        due("n " + n + " plan " + number + " upper", x.redundant(2 * event), time == 7 ? 1 : 0);
                        due("n " + n + " plan " + number + " lower", x.redundant(2 * event + 1), time == 0 ? 1 : 0);
                    }
                }
            }
            DisjunctiveTimes first = new DisjunctiveTimes(2);
            constrain(first, 2, 0, -1, 2, 1, -1);
            due("all but the first plan", first.redundant(0), 0);
            DisjunctiveTimes last = new DisjunctiveTimes(2);
            constrain(last, 0, 2, 6, 1, 2, 6);
            due("all but the last plan", last.redundant(0), 0);
        });
        sentence("P17 just the same: no solution with it and none without it", () -> {
            for (int n = 2; n <= 4; n++) {
                DisjunctiveTimes x = none(n);
                constrain(x, 0, n, 3);
                due("n " + n + " one beside two that exclude each other", x.redundant(2), 1);
                due("n " + n + " the first of the two", x.redundant(0), 0);
                due("n " + n + " the second of the two", x.redundant(1), 0);
                constrain(x, 0, 1, -8);
                due("n " + n + " first, where another is met by no plan", x.redundant(0), 1);
                due("n " + n + " second, where another is met by no plan", x.redundant(1), 1);
                due("n " + n + " the one met by no plan, beside the two", x.redundant(3), 1);
            }
        });
        sentence("P17 otherwise 0: no solution with it, but one without it", () -> {
            for (int n = 2; n <= 4; n++) {
                due("n " + n, none(n).redundant(0), 0);
                due("n " + n, none(n).redundant(1), 0);
                DisjunctiveTimes x = new DisjunctiveTimes(n);
                constrain(x, 0, 1, -8);
                due("n " + n + " one that no plan meets, alone", x.redundant(0), 0);
                constrain(x, 0, 1, 0);
                due("n " + n + " one that no plan meets", x.redundant(0), 0);
                due("n " + n + " the other", x.redundant(1), 1);
            }
        });
    }

    private static void promise18() {
        sentence("P18 0 if there is one now", () -> {
            for (int n = 2; n <= 4; n++) {
                due("n " + n + " empty list", new DisjunctiveTimes(n).excess(), 0);
                for (int number : somePlans(n)) {
                    due("n " + n + " only plan " + number, only(n, number).excess(), 0);
                }
            }
        });
        sentence("P18 the least number of constraints at the end of the list", () -> {
            for (int n = 2; n <= 4; n++) {
                for (int size = 1; size <= 8; size++) {
                    for (int bad = 0; bad < size; bad++) {
                        DisjunctiveTimes x = new DisjunctiveTimes(n);
                        for (int at = 0; at < size; at++) {
                            constrain(x, 0, 1, at == bad ? -8 : -7);
                        }
                        String name = "n " + n + " size " + size + ", no plan meets number " + bad;
                        due(name, x.excess(), size - bad);
                    }
                }
            }
        });
        sentence("P18 without which there would be a solution", () -> {
            for (int n = 2; n <= 4; n++) {
                for (int first = 0; first < 8; first++) {
                    for (int second = first + 1; second < 8; second++) {
                        // The two exclude each other; only the later must go.
                        DisjunctiveTimes x = new DisjunctiveTimes(n);
                        for (int at = 0; at < 8; at++) {
                            if (at == first) {
                                constrain(x, 0, 1, -1);
                            } else if (at == second) {
                                constrain(x, 1, 0, 0);
                            } else {
                                constrain(x, 0, 1, 10);
                            }
                        }
                        due("n " + n + " " + first + " against " + second, x.excess(), 8 - second);
                    }
                }
            }
        });
        sentence("P18 all of them", () -> {
            for (int n = 2; n <= 4; n++) {
                DisjunctiveTimes x = new DisjunctiveTimes(n);
                for (int size = 1; size <= 8; size++) {
                    constrain(x, 0, 1, -8);
                    due("n " + n + " size " + size, x.excess(), size);
                }
            }
        });
    }

    public static void main(String[] args) {
        promise9();
        promises10And11();
        promise12();
        promise13();
        promise14();
        promise15();
        promise16();
        promise17();
        promise18();
        System.out.println(wrong == 0 ? "all " + sentences + " sentences hold" : wrong + " answers are not as due");
        if (wrong != 0) {
            System.exit(1);
        }
    }
}
