import java.util.ArrayList;
import java.util.List;

// One test for each sentence of "Terms" and of promises 1 to 8 that names a
// boundary case. Each is told by its sentence when it fails.
public final class ChangesBoundaryTest {
    private static final int MIN = Integer.MIN_VALUE;
    private static final int MAX = Integer.MAX_VALUE;
    private static final int[] STEPS = {
        1, 2, 3, 4, 8, 16, 32, 64, 128, 256, 1 << 12, 1 << 16, 1 << 24, 1 << 29, 1 << 30, MIN,
    };

    private static String sentence = "";
    private static int sentences = 0;
    private static int wrong = 0;

    private static void fault(String what) {
        wrong++;
        System.out.println(sentence + " :: " + what);
    }

    private static void due(String call, int got, int want) {
        if (got != want) {
            fault(call + " answered " + got + ", due is " + want);
        }
    }

    // What one sentence's test throws must not hide the others.
    private static void sentence(String text, Runnable test) {
        sentence = text;
        sentences++;
        try {
            test.run();
        } catch (RuntimeException e) {
            fault("threw " + e);
        }
    }

    // Numbers outside a range: just beside it, far away, and those that would
    // fall into it again if higher bits were lost.
    private static List<Integer> outside(int least, int greatest) {
        List<Integer> found = new ArrayList<>();
        int[] bases = {least, greatest, 0, MIN, MAX};
        for (int base : bases) {
            for (int step : STEPS) {
                int[] values = {base, base + step, base - step};
                for (int value : values) {
                    if ((value < least || value > greatest) && !found.contains(value)) {
                        found.add(value);
                    }
                }
            }
        }
        return found;
    }

    private static int plans(int n) {
        return 1 << (3 * n);
    }

    private static int constrain(DisjunctiveTimes x, int... comparisons) {
        for (int at = 0; at < comparisons.length; at += 3) {
            x.alternative(comparisons[at], comparisons[at + 1], comparisons[at + 2]);
        }
        return x.add();
    }

    // A list and a draft of these lengths, of comparisons that are always met
    private static DisjunctiveTimes loose(int n, int size, int draft) {
        DisjunctiveTimes x = new DisjunctiveTimes(n);
        for (int at = 0; at < size; at++) {
            constrain(x, 0, 1, 7);
        }
        for (int at = 0; at < draft; at++) {
            x.alternative(1, 0, 7);
        }
        return x;
    }

    private static void terms() {
        sentence("An object is used for at most 512 calls", () -> {
            DisjunctiveTimes x = new DisjunctiveTimes(4);
            for (int round = 0; round < 102; round++) {
                due("alternative 1", x.alternative(4, 0, -1), 1);
                due("alternative 2", x.alternative(4, 0, -2), 2);
                due("alternative 3", x.alternative(4, 0, -3), 3);
                due("add()", x.add(), 1);
                due("remove(0)", x.remove(0), 0);
            }
            due("call 511, apart", x.apart(8 * 2 + 3, 7, 7), 3);
            due("call 512, next", x.next(-1), 7);
        });
        sentence("A PLAN gives every event a time 0 .. 7", () -> {
            for (int n = 2; n <= 4; n++) {
                for (int event = 0; event < n; event++) {
                    due("n " + n + " least time", new DisjunctiveTimes(n).earliest(event), 0);
                    due("n " + n + " greatest time", new DisjunctiveTimes(n).latest(event), 7);
                    DisjunctiveTimes x = new DisjunctiveTimes(n);
                    constrain(x, n, event, -7);
                    due("n " + n + " 7 or later", x.earliest(event), 7);
                    constrain(x, n, event, -8);
                    due("n " + n + " 8 or later", x.solvable(), 0);
                    DisjunctiveTimes y = new DisjunctiveTimes(n);
                    constrain(y, event, n, 0);
                    due("n " + n + " 0 or earlier", y.latest(event), 0);
                    constrain(y, event, n, -1);
                    due("n " + n + " -1 or earlier", y.solvable(), 0);
                }
            }
        });
        sentence("THE ORIGIN is numbered n; its time is 0 in every plan", () -> {
            for (int n = 2; n <= 4; n++) {
                DisjunctiveTimes x = new DisjunctiveTimes(n);
                constrain(x, n, n - 1, 0);
                due("n " + n + " no event is before the origin", x.redundant(0), 1);
                constrain(x, n, n - 1, -1);
                due("n " + n + " the last event is not the origin", x.next(-1), 1);
                due("n " + n + " widest(n, n)", x.widest(n, n), 0);
                due("n " + n + " widest(n, 0)", x.widest(n, 0), 0);
                due("n " + n + " widest(0, n)", x.widest(0, n), 7);
                due("n " + n + " there is nothing behind it", x.alternative(n + 1, 0, 0), -1);
            }
        });
        sentence("met by a plan if time(i) - time(j) <= k", () -> {
            for (int k = -10; k <= 10; k++) {
                for (int i = 0; i <= 2; i++) {
                    for (int j = 0; j <= 2; j++) {
                        if (i != j) {
                            everyPlanOfTwo(i, j, k);
                        }
                    }
                }
            }
        });
        sentence("A CONSTRAINT has one to three comparisons and is met if at least one of them is", () -> {
            for (int count = 1; count <= 3; count++) {
                for (int met = 0; met < count; met++) {
                    DisjunctiveTimes x = new DisjunctiveTimes(3);
                    for (int at = 0; at < count; at++) {
                        x.alternative(0, 1, at == met ? -6 : -8);
                    }
                    due("add of " + count, x.add(), 1);
                    due("met by number " + met + " of " + count, x.meets(06), 0);
                    due("met by number " + met + " of " + count, x.meets(060), 1);
                    due("not met of " + count, x.meets(050), 0);
                }
            }
        });
        sentence("at most 8 constraints at the positions 0 .. size()-1", () -> {
            DisjunctiveTimes x = new DisjunctiveTimes(2);
            for (int size = 0; size <= 8; size++) {
                due("size()", x.size(), size);
                for (int position = -1; position <= 9; position++) {
                    int want = position < 0 || position >= size ? -1 : size == 1 ? 0 : 1;
                    due("size " + size + " redundant(" + position + ")", x.redundant(position), want);
                }
                constrain(x, 0, 1, 0);
            }
            due("no ninth", x.size(), 8);
        });
        sentence("a DRAFT, a list of at most 3 comparisons, empty at first", () -> {
            for (int n = 2; n <= 4; n++) {
                due("add() at first", new DisjunctiveTimes(n).add(), -1);
                due("clear() at first", new DisjunctiveTimes(n).clear(), 0);
                due("entailed() at first", new DisjunctiveTimes(n).entailed(), -1);
                DisjunctiveTimes x = loose(n, 0, 3);
                x.alternative(0, 1, 0);
                due("clear() after four", x.clear(), 3);
            }
        });
        sentence("A SOLUTION is a plan that meets all constraints of the list", () -> {
            for (int bad = 0; bad < 8; bad++) {
                DisjunctiveTimes x = new DisjunctiveTimes(2);
                for (int at = 0; at < 8; at++) {
                    constrain(x, 0, 1, at == bad ? 1 : 2);
                }
                due("just number " + bad + " is not met", x.meets(020), 0);
                due("all are met", x.meets(021), 1);
            }
            DisjunctiveTimes free = new DisjunctiveTimes(3);
            for (int plan = 0; plan < 500; plan++) {
                due("empty list, meets(" + plan + ")", free.meets(plan), 1);
            }
        });
        sentence("The NUMBER of a plan .. so event 0 is the first digit", () -> {
            for (int n = 2; n <= 4; n++) {
                for (int event = 0; event < n; event++) {
                    DisjunctiveTimes x = new DisjunctiveTimes(n);
                    for (int other = 0; other < n; other++) {
                        int time = other == event ? 7 : 0;
                        constrain(x, other, n, time);
                        constrain(x, n, other, -time);
                    }
                    int number = 7 << (3 * (n - 1 - event));
                    due("n " + n + " event " + event + " at 7", x.next(-1), number);
                    due("n " + n + " event " + event + " at 7", x.meets(number), 1);
                    due("n " + n + " no other plan", x.next(number), -1);
                }
            }
        });
        sentence("an event is good if it is 0 .. n-1", () -> {
            for (int n = 2; n <= 4; n++) {
                due("n " + n + " earliest(0)", new DisjunctiveTimes(n).earliest(0), 0);
                due("n " + n + " earliest(n - 1)", new DisjunctiveTimes(n).earliest(n - 1), 0);
                due("n " + n + " earliest(n)", new DisjunctiveTimes(n).earliest(n), -1);
                due("n " + n + " latest(0)", new DisjunctiveTimes(n).latest(0), 7);
                due("n " + n + " latest(n - 1)", new DisjunctiveTimes(n).latest(n - 1), 7);
                due("n " + n + " latest(n)", new DisjunctiveTimes(n).latest(n), -1);
                due("n " + n + " apart(0, n - 1)", new DisjunctiveTimes(n).apart(n - 1, 0, 0), 3);
                due("n " + n + " apart(n - 1, 0)", new DisjunctiveTimes(n).apart(8 * (n - 1), 0, 0), 3);
                due("n " + n + " apart(0, n)", new DisjunctiveTimes(n).apart(n, 0, 0), -1);
                due("n " + n + " apart(n, 0)", new DisjunctiveTimes(n).apart(8 * n, 0, 0), -1);
            }
        });
    }

    private static void everyPlanOfTwo(int i, int j, int k) {
        DisjunctiveTimes x = new DisjunctiveTimes(2);
        constrain(x, i, j, k);
        for (int plan = 0; plan < 64; plan++) {
            int[] times = {plan / 8, plan % 8, 0};
            int want = times[i] - times[j] <= k ? 1 : 0;
            due("(" + i + ", " + j + ", " + k + ") meets(" + plan + ")", x.meets(plan), want);
        }
    }

    private static void hasEvents(int given, int n) {
        String name = "new(" + given + ") ";
        DisjunctiveTimes x = new DisjunctiveTimes(given);
        due(name + "events()", x.events(), n);
        due(name + "size()", x.size(), 0);
        due(name + "last plan", x.meets(plans(n) - 1), 1);
        due(name + "no plan behind it", x.meets(plans(n)), -1);
        due(name + "last event", x.latest(n - 1), 7);
        due(name + "no event behind it", x.latest(n), -1);
        due(name + "origin", x.alternative(n, 0, 0), 1);
        due(name + "nothing behind it", x.alternative(n + 1, 0, 0), -1);
    }

    private static void promises1And2() {
        sentence("P1 events below 2 becomes 2", () -> {
            for (int given : outside(2, MAX)) {
                hasEvents(given, 2);
            }
        });
        sentence("P1 events above 4 becomes 4", () -> {
            for (int given : outside(MIN, 4)) {
                hasEvents(given, 4);
            }
        });
        sentence("P1 events is n", () -> {
            for (int n = 2; n <= 4; n++) {
                hasEvents(n, n);
            }
        });
        sentence("P2 n", () -> {
            for (int n = 2; n <= 4; n++) {
                for (int size = 0; size <= 8; size++) {
                    due("with " + size + " constraints", loose(n, size, size % 4).events(), n);
                }
            }
        });
    }

    private static void promise3() {
        sentence("P3 -1 if i or j is not in 0 .. n", () -> {
            for (int n = 2; n <= 4; n++) {
                for (int bad : outside(0, n)) {
                    DisjunctiveTimes x = new DisjunctiveTimes(n);
                    due("n " + n + " i = " + bad, x.alternative(bad, 0, 0), -1);
                    due("n " + n + " i = " + bad, x.alternative(bad, n, 0), -1);
                    due("n " + n + " j = " + bad, x.alternative(0, bad, 0), -1);
                    due("n " + n + " j = " + bad, x.alternative(n, bad, 0), -1);
                    due("n " + n + " draft", x.clear(), 0);
                }
                for (int i = 0; i <= n; i++) {
                    for (int j = 0; j <= n; j++) {
                        int want = i == j ? -2 : 1;
                        due("n " + n + " " + i + " " + j, new DisjunctiveTimes(n).alternative(i, j, 0), want);
                    }
                }
            }
        });
        sentence("P3 -2 if i and j are the same", () -> {
            for (int n = 2; n <= 4; n++) {
                DisjunctiveTimes x = new DisjunctiveTimes(n);
                for (int i = 0; i <= n; i++) {
                    due("n " + n + " both " + i, x.alternative(i, i, 0), -2);
                }
                due("n " + n + " draft", x.clear(), 0);
            }
        });
        sentence("P3 -3 if k is not in -10 .. 10", () -> {
            for (int n = 2; n <= 4; n++) {
                for (int bad : outside(-10, 10)) {
                    DisjunctiveTimes x = new DisjunctiveTimes(n);
                    due("k = " + bad, x.alternative(0, 1, bad), -3);
                    due("k = " + bad, x.alternative(n, 0, bad), -3);
                    due("draft", x.clear(), 0);
                }
                for (int k = -10; k <= 10; k++) {
                    due("k = " + k, new DisjunctiveTimes(n).alternative(0, 1, k), 1);
                }
            }
        });
        sentence("P3 -4 if the draft has 3 comparisons", () -> {
            for (int size = 0; size <= 8; size++) {
                DisjunctiveTimes x = loose(2, size, 3);
                due("fourth", x.alternative(0, 1, 0), -4);
                due("fourth again", x.alternative(1, 2, -10), -4);
                due("draft", x.clear(), 3);
                due("first again", x.alternative(0, 1, 0), 1);
            }
        });
        sentence("P3 at the end of the draft; otherwise answers how many it has now", () -> {
            for (int size = 0; size <= 8; size++) {
                DisjunctiveTimes x = loose(4, size, 0);
                for (int count = 1; count <= 3; count++) {
                    due("the same comparison", x.alternative(0, 1, 0), count);
                }
            }
            for (int count = 1; count <= 3; count++) {
                // Comparison e is met if event e is at 7, and they are put in turn.
                DisjunctiveTimes x = new DisjunctiveTimes(3);
                for (int event = 0; event < count; event++) {
                    x.alternative(3, event, -7);
                }
                x.add();
                due("draft of " + count + ", the first is in it", x.meets(0700), 1);
                due("draft of " + count + ", the second", x.meets(0070), count >= 2 ? 1 : 0);
                due("draft of " + count + ", the third", x.meets(0007), count >= 3 ? 1 : 0);
                due("draft of " + count + ", nothing else", x.meets(0666), 0);
            }
        });
        sentence("P3 the tests are made in the order named", () -> {
            for (int n = 2; n <= 4; n++) {
                DisjunctiveTimes x = loose(n, 0, 0);
                DisjunctiveTimes full = loose(n, 0, 3);
                due("-1 before -2", x.alternative(n + 1, n + 1, 0), -1);
                due("-1 before -2", x.alternative(-1, -1, 0), -1);
                due("-1 before -3", x.alternative(n + 1, 0, 11), -1);
                due("-1 before -3", x.alternative(0, -1, -11), -1);
                due("-1 before -4", full.alternative(n + 1, 0, 0), -1);
                due("-1 before -4", full.alternative(0, -1, 0), -1);
                due("-2 before -3", x.alternative(0, 0, 11), -2);
                due("-2 before -3", x.alternative(n, n, -11), -2);
                due("-2 before -4", full.alternative(0, 0, 0), -2);
                due("-3 before -4", full.alternative(0, 1, 11), -3);
                due("-3 before -4", full.alternative(0, 1, -11), -3);
                due("all at once", full.alternative(-1, -1, 11), -1);
            }
        });
    }

    private static void promises4And5() {
        sentence("P4 the draft becomes empty; answers how many comparisons it had", () -> {
            for (int size = 0; size <= 8; size++) {
                for (int count = 0; count <= 3; count++) {
                    DisjunctiveTimes x = loose(3, size, count);
                    due("clear() of " + count, x.clear(), count);
                    due("entailed() when empty", x.entailed(), -1);
                    due("add() when empty", x.add(), -1);
                    due("clear() when empty", x.clear(), 0);
                    due("size()", x.size(), size);
                    due("first comparison again", x.alternative(0, 1, 0), 1);
                }
            }
        });
        sentence("P5 -1 if the draft is empty", () -> {
            for (int size = 0; size <= 7; size++) {
                DisjunctiveTimes x = loose(3, size, 0);
                due("add() to " + size, x.add(), -1);
                due("size()", x.size(), size);
                x.alternative(0, 1, 0);
                x.clear();
                due("add() of a cleared draft", x.add(), -1);
                due("size()", x.size(), size);
            }
        });
        sentence("P5 -2 if there are 8 constraints", () -> {
            for (int count = 1; count <= 3; count++) {
                DisjunctiveTimes x = loose(3, 8, count);
                due("ninth", x.add(), -2);
                due("ninth again", x.add(), -2);
                due("size()", x.size(), 8);
                due("draft", x.clear(), count);
                DisjunctiveTimes y = loose(3, 8, count);
                y.remove(4);
                due("room for one again", y.add(), 8);
                due("draft went over", y.clear(), 0);
            }
        });
        sentence("P5 the tests are made in the order named", () -> {
            due("-1 before -2", loose(2, 8, 0).add(), -1);
            due("-1 before -2", loose(4, 8, 0).add(), -1);
        });
        sentence("P5 the draft becomes empty; otherwise answers how many there are now", () -> {
            for (int size = 0; size <= 7; size++) {
                for (int count = 1; count <= 3; count++) {
                    DisjunctiveTimes x = loose(3, size, count);
                    due("add() to " + size, x.add(), size + 1);
                    due("size()", x.size(), size + 1);
                    due("draft", x.clear(), 0);
                }
            }
        });
        sentence("P5 puts the draft at the end of the list", () -> {
            for (int size = 0; size <= 7; size++) {
                DisjunctiveTimes x = loose(3, size, 0);
                constrain(x, 0, 1, -8);
                due("only the last is too much", x.excess(), 1);
                due("the last is needed", x.redundant(size), 0);
            }
        });
    }

    private static void promise6() {
        sentence("P6 -1 if i or j is not good (any other number is the case of -1)", () -> {
            for (int n = 2; n <= 4; n++) {
                for (int bad : outside(0, 9 * (n - 1))) {
                    due("n " + n + " pair " + bad, new DisjunctiveTimes(n).apart(bad, 1, 2), -1);
                }
                for (int pair = -80; pair < 80; pair++) {
                    boolean isPair = pair >= 0 && pair / 8 < n && pair % 8 < n;
                    int want = !isPair ? -1 : pair / 8 == pair % 8 ? -2 : 3;
                    DisjunctiveTimes x = new DisjunctiveTimes(n);
                    due("n " + n + " pair " + pair, x.apart(pair, 1, 2), want);
                    due("size()", x.size(), want < 0 ? 0 : 3);
                }
            }
        });
        sentence("P6 -2 if they are the same", () -> {
            for (int n = 2; n <= 4; n++) {
                for (int i = 0; i < n; i++) {
                    DisjunctiveTimes x = new DisjunctiveTimes(n);
                    due("n " + n + " pair " + 9 * i, x.apart(9 * i, 0, 7), -2);
                    due("size()", x.size(), 0);
                }
            }
        });
        sentence("P6 -3 if gap is not in 0 .. 7", () -> {
            for (int bad : outside(0, 7)) {
                DisjunctiveTimes x = new DisjunctiveTimes(3);
                due("gap " + bad, x.apart(1, bad, 7), -3);
                due("size()", x.size(), 0);
            }
            for (int gap = 0; gap <= 7; gap++) {
                due("gap " + gap, new DisjunctiveTimes(3).apart(1, gap, 7), 3);
            }
        });
        sentence("P6 -4 if span is not in 0 .. 7", () -> {
            for (int bad : outside(0, 7)) {
                DisjunctiveTimes x = new DisjunctiveTimes(3);
                due("span " + bad, x.apart(1, 0, bad), -4);
                due("size()", x.size(), 0);
            }
            for (int span = 0; span <= 7; span++) {
                due("span " + span, new DisjunctiveTimes(3).apart(1, 0, span), 3);
                due("span " + span + " below the gap", new DisjunctiveTimes(3).apart(1, 7, span), 3);
            }
        });
        sentence("P6 -5 if there would be more than 8 constraints; otherwise how many there are now", () -> {
            for (int size = 0; size <= 8; size++) {
                for (int count = 0; count <= 3; count++) {
                    DisjunctiveTimes x = loose(4, size, count);
                    due("apart to " + size, x.apart(1, 1, 2), size > 5 ? -5 : size + 3);
                    due("size()", x.size(), size > 5 ? size : size + 3);
                    due("draft", x.clear(), count);
                }
            }
        });
        sentence("P6 the tests are made in the order named", () -> {
            for (int n = 2; n <= 4; n++) {
                for (int size = 0; size <= 8; size++) {
                    // From size 6 on, each of these is the case of -5 as well.
                    DisjunctiveTimes x = loose(n, size, 0);
                    due("-1 before -2", x.apart(9 * n, 0, 0), -1);
                    due("-1 before -3", x.apart(n, 8, 0), -1);
                    due("-1 before -4", x.apart(8 * n, 0, -1), -1);
                    due("-1 before all", x.apart(-1, -1, 8), -1);
                    due("-1 before -5", x.apart(n, 0, 0), -1);
                    due("-2 before -3", x.apart(9, 8, 0), -2);
                    due("-2 before -4", x.apart(9, 0, 8), -2);
                    due("-2 before -3 and -4", x.apart(0, -1, -1), -2);
                    due("-2 before -5", x.apart(0, 0, 0), -2);
                    due("-3 before -4", x.apart(1, 8, 8), -3);
                    due("-3 before -4", x.apart(1, -1, -1), -3);
                    due("-3 before -5", x.apart(1, 8, 0), -3);
                    due("-4 before -5", x.apart(1, 0, 8), -4);
                    due("size()", x.size(), size);
                }
            }
        });
        sentence("P6 at least gap before, at most span apart", () -> {
            for (int gap = 0; gap <= 7; gap++) {
                for (int span = 0; span <= 7; span++) {
                    everyDistance(1, gap, span);
                    everyDistance(8, gap, span);
                }
            }
        });
        sentence("P6 puts three constraints at the end of the list", () -> {
            for (int size = 0; size <= 5; size++) {
                // Distances 3 .. 5, so that each of the three does something
                due("first", leftOfApart(size, 0).meets(020), 0);
                due("first", leftOfApart(size, 0).meets(002), 0);
                due("first", leftOfApart(size, 0).meets(030), 1);
                due("first", leftOfApart(size, 0).meets(003), 1);
                due("first", leftOfApart(size, 0).widest(0, 1), 7);
                due("first", leftOfApart(size, 0).widest(1, 0), 7);
                due("second", leftOfApart(size, 1).widest(0, 1), 5);
                due("second", leftOfApart(size, 1).widest(1, 0), 7);
                due("second", leftOfApart(size, 1).meets(0), 1);
                due("third", leftOfApart(size, 2).widest(0, 1), 7);
                due("third", leftOfApart(size, 2).widest(1, 0), 5);
                due("third", leftOfApart(size, 2).meets(0), 1);
            }
        });
    }

    private static void everyDistance(int pair, int gap, int span) {
        DisjunctiveTimes x = new DisjunctiveTimes(2);
        x.apart(pair, gap, span);
        for (int plan = 0; plan < 64; plan++) {
            int distance = Math.abs(plan / 8 - plan % 8);
            int want = distance >= gap && distance <= span ? 1 : 0;
            due("apart(" + pair + ", " + gap + ", " + span + ") meets(" + plan + ")", x.meets(plan), want);
        }
    }

    // A loose list, and of the three that apart puts behind it just one. The
    // list was full of longer constraints before, which must not shine through.
    private static DisjunctiveTimes leftOfApart(int size, int kept) {
        DisjunctiveTimes x = new DisjunctiveTimes(2);
        for (int at = 0; at < 8; at++) {
            constrain(x, 0, 1, 7, 1, 0, 7, 0, 2, 7);
        }
        for (int at = 8; at > size; at--) {
            x.remove(0);
        }
        x.apart(1, 3, 5);
        for (int at = 2; at >= 0; at--) {
            if (at != kept) {
                x.remove(size + at);
            }
        }
        return x;
    }

    // Constraint p is met by all but the plan of number p.
    private static DisjunctiveTimes markedList(int size) {
        DisjunctiveTimes x = new DisjunctiveTimes(2);
        for (int at = 0; at < size; at++) {
            constrain(x, 2, 0, -1, 1, 2, at - 1, 2, 1, -at - 1);
        }
        return x;
    }

    private static void promises7And8() {
        sentence("P7 -1 if there is none", () -> {
            for (int size = 0; size <= 8; size++) {
                for (int bad : outside(0, size - 1)) {
                    DisjunctiveTimes x = markedList(size);
                    due("size " + size + " remove(" + bad + ")", x.remove(bad), -1);
                    due("size()", x.size(), size);
                    due("first plan", x.next(-1), size);
                }
            }
        });
        sentence("P7 takes the constraint out; later ones move down by one; answers how many are left", () -> {
            for (int size = 1; size <= 8; size++) {
                for (int position = 0; position < size; position++) {
                    DisjunctiveTimes x = markedList(size);
                    String call = "size " + size + " remove(" + position + ") ";
                    due(call, x.remove(position), size - 1);
                    due(call + "size()", x.size(), size - 1);
                    for (int plan = 0; plan < 8; plan++) {
                        due(call + "meets(" + plan + ")", x.meets(plan), plan == position || plan >= size ? 1 : 0);
                    }
                    for (int at = 0; at < size - 1; at++) {
                        int mark = at < position ? at : at + 1;
                        DisjunctiveTimes y = markedList(size);
                        y.remove(position);
                        y.remove(at);
                        due(call + "mark at " + at, y.meets(mark), 1);
                    }
                }
            }
        });
        sentence("P7 the last one out", () -> {
            DisjunctiveTimes x = markedList(8);
            for (int left = 7; left >= 0; left--) {
                due("remove(0)", x.remove(0), left);
                due("last plan that is free again", x.meets(7 - left), 1);
                due("next plan behind it", x.next(7 - left), 8);
            }
            due("remove(0) of none", x.remove(0), -1);
            due("first again", constrain(x, 0, 1, -8), 1);
            due("it counts", x.solvable(), 0);
        });
        sentence("P8 how many constraints there are", () -> {
            for (int size = 0; size <= 8; size++) {
                for (int count = 0; count <= 3; count++) {
                    due("with " + count + " in the draft", loose(3, size, count).size(), size);
                }
            }
            DisjunctiveTimes x = new DisjunctiveTimes(3);
            x.apart(1, 0, 0);
            due("after apart", x.size(), 3);
            x.apart(1, 0, 0);
            due("after apart again", x.size(), 6);
            x.apart(1, 0, 0);
            due("after a refused one", x.size(), 6);
            x.remove(5);
            due("after remove", x.size(), 5);
            x.remove(5);
            due("after a refused remove", x.size(), 5);
        });
    }

    public static void main(String[] args) {
        terms();
        promises1And2();
        promise3();
        promises4And5();
        promise6();
        promises7And8();
        System.out.println(wrong == 0 ? "all " + sentences + " sentences hold" : wrong + " answers are not as due");
        if (wrong != 0) {
            System.exit(1);
        }
    }
}
