import java.util.ArrayList;
import java.util.HashSet;
import java.util.List;

// Long runs of calls, each answer compared with that of a second program that
// keeps lists and the set of all solutions. The runs are the same every time.
public final class ModelTest {
    private static final int RUNS = 400;
    private static final int CALLS = 512;
    private static final int METHODS = 17;
    private static final int[] FAR = {
        Integer.MIN_VALUE, Integer.MIN_VALUE + 1, -4097, -100, 100, 4096, 1 << 20,
        Integer.MAX_VALUE - 1, Integer.MAX_VALUE,
    };

    // A comparison is {i, j, k}; a constraint is a list of them.
    private static final class Model {
        final int n;
        final List<int[]> plans;
        List<List<int[]>> list = new ArrayList<>();
        List<int[]> draft = new ArrayList<>();

        Model(int events) {
            n = Math.max(2, Math.min(4, events));
            plans = plans();
        }

        // The origin has the last place of each plan.
        List<int[]> plans() {
            List<int[]> plans = new ArrayList<>();
            plans.add(new int[n + 1]);
            for (int event = 0; event < n; event++) {
                List<int[]> longer = new ArrayList<>();
                for (int[] plan : plans) {
                    for (int time = 0; time <= 7; time++) {
                        int[] copy = plan.clone();
                        copy[event] = time;
                        longer.add(copy);
                    }
                }
                plans = longer;
            }
            return plans;
        }

        int number(int[] plan) {
            int number = 0;
            for (int event = 0; event < n; event++) {
                number = number * 8 + plan[event];
            }
            return number;
        }

        static boolean met(List<int[]> constraint, int[] plan) {
            return constraint.stream().anyMatch(c -> plan[c[0]] - plan[c[1]] <= c[2]);
        }

        List<int[]> solutions(List<List<int[]>> constraints) {
            List<int[]> left = new ArrayList<>(plans);
            for (List<int[]> constraint : constraints) {
                left.removeIf(plan -> !met(constraint, plan));
            }
            return left;
        }

        HashSet<Integer> numbers(List<List<int[]>> constraints) {
            HashSet<Integer> numbers = new HashSet<>();
            for (int[] plan : solutions(constraints)) {
                numbers.add(number(plan));
            }
            return numbers;
        }

        boolean outside(int value, int least, int greatest) {
            return value < least || value > greatest;
        }

        int alternative(int i, int j, int k) {
            if (outside(i, 0, n) || outside(j, 0, n)) return -1;
            if (i == j) return -2;
            if (outside(k, -10, 10)) return -3;
            if (draft.size() == 3) return -4;
            draft.add(new int[] {i, j, k});
            return draft.size();
        }

        int clear() {
            int had = draft.size();
            draft = new ArrayList<>();
            return had;
        }

        int add() {
            if (draft.isEmpty()) return -1;
            if (list.size() == 8) return -2;
            list.add(draft);
            draft = new ArrayList<>();
            return list.size();
        }

        int apart(int pair, int gap, int span) {
            int i = -1;
            int j = -1;
            for (int a = 0; a < n; a++) {
                for (int b = 0; b < n; b++) {
                    if (pair == 8 * a + b) {
                        i = a;
                        j = b;
                    }
                }
            }
            if (i < 0) return -1;
            if (i == j) return -2;
            if (outside(gap, 0, 7)) return -3;
            if (outside(span, 0, 7)) return -4;
            if (list.size() > 5) return -5;
            list.add(List.of(new int[] {i, j, -gap}, new int[] {j, i, -gap}));
            list.add(List.of(new int[] {i, j, span}));
            list.add(List.of(new int[] {j, i, span}));
            return list.size();
        }

        int remove(int position) {
            if (outside(position, 0, list.size() - 1)) return -1;
            list.remove(position);
            return list.size();
        }

        int earliest(int event) {
            if (outside(event, 0, n - 1)) return -1;
            return solutions(list).stream().mapToInt(plan -> plan[event]).min().orElse(-2);
        }

        int latest(int event) {
            if (outside(event, 0, n - 1)) return -1;
            return solutions(list).stream().mapToInt(plan -> plan[event]).max().orElse(-2);
        }

        int widest(int i, int j) {
            if (outside(i, 0, n) || outside(j, 0, n)) return -100;
            return solutions(list).stream().mapToInt(plan -> plan[i] - plan[j]).max().orElse(-200);
        }

        int next(int after) {
            return solutions(list).stream().mapToInt(this::number).filter(x -> x > after).min().orElse(-1);
        }

        int meets(int number) {
            if (number < 0 || number >= Math.pow(8, n)) return -1;
            return numbers(list).contains(number) ? 1 : 0;
        }

        int shortest() {
            int least = 8;
            for (int[] plan : solutions(list)) {
                int greatest = 0;
                for (int time : plan) {
                    greatest = Math.max(greatest, time);
                }
                least = Math.min(least, greatest);
            }
            return least == 8 ? -1 : least;
        }

        int entailed() {
            if (draft.isEmpty()) return -1;
            return solutions(list).stream().allMatch(plan -> met(draft, plan)) ? 1 : 0;
        }

        int redundant(int position) {
            if (outside(position, 0, list.size() - 1)) return -1;
            List<List<int[]>> others = new ArrayList<>(list);
            others.remove(position);
            return numbers(others).equals(numbers(list)) ? 1 : 0;
        }

        int excess() {
            int taken = 0;
            while (solutions(list.subList(0, list.size() - taken)).isEmpty()) {
                taken++;
            }
            return taken;
        }
    }

    private static int wrong = 0;
    private static final int[] asked = new int[METHODS];
    private static long state = 20261115L;

    private static int below(int bound) {
        state = state * 6364136223846793005L + 1442695040888963407L;
        return (int) ((state >>> 33) % bound);
    }

    private static int between(int least, int greatest) {
        return least + below(greatest - least + 1);
    }

    // Mostly in the range, at times just beside it, seldom far away
    private static int near(int least, int greatest) {
        int kind = below(40);
        if (kind == 0) return FAR[below(FAR.length)];
        if (kind < 4) return between(least - 2, greatest + 2);
        return greatest < least ? least : between(least, greatest);
    }

    private static int pair(int n) {
        return below(12) == 0 ? near(-9, 40) : 8 * near(0, n - 1) + near(0, n - 1);
    }

    // Changes come oftener than each question, so that lists grow and shrink.
    private static int method() {
        int pick = below(100);
        if (pick < 34) return 1;
        if (pick < 36) return 2;
        if (pick < 50) return 3;
        if (pick < 54) return 4;
        if (pick < 61) return 5;
        return below(METHODS);
    }

    private static void due(int run, String call, int got, int want) {
        if (got != want) {
            wrong++;
            if (wrong <= 20) {
                System.out.println("run " + run + ": " + call + " answered " + got + ", due is " + want);
            }
        }
    }

    private static void call(int run, DisjunctiveTimes x, Model m) {
        int method = method();
        int n = m.n;
        int last = m.list.size() - 1;
        asked[method]++;
        int a;
        int b;
        int c;
        switch (method) {
            case 0: due(run, "events()", x.events(), n); break;
            case 1:
                a = near(0, n);
                b = near(0, n);
                c = below(2) == 0 ? near(-3, 4) : near(-10, 10);
                due(run, "alternative(" + a + ", " + b + ", " + c + ")", x.alternative(a, b, c), m.alternative(a, b, c));
                break;
            case 2: due(run, "clear()", x.clear(), m.clear()); break;
            case 3: due(run, "add()", x.add(), m.add()); break;
            case 4:
                a = pair(n);
                b = near(0, 7);
                c = near(0, 7);
                due(run, "apart(" + a + ", " + b + ", " + c + ")", x.apart(a, b, c), m.apart(a, b, c));
                break;
            case 5: a = near(0, last); due(run, "remove(" + a + ")", x.remove(a), m.remove(a)); break;
            case 6: due(run, "size()", x.size(), m.list.size()); break;
            case 7: due(run, "solvable()", x.solvable(), m.solutions(m.list).isEmpty() ? 0 : 1); break;
            case 8: a = near(0, n - 1); due(run, "earliest(" + a + ")", x.earliest(a), m.earliest(a)); break;
            case 9: a = near(0, n - 1); due(run, "latest(" + a + ")", x.latest(a), m.latest(a)); break;
            case 10:
                a = near(0, n);
                b = near(0, n);
                due(run, "widest(" + a + ", " + b + ")", x.widest(a, b), m.widest(a, b));
                break;
            case 11: a = near(-1, 1 << (3 * n)); due(run, "next(" + a + ")", x.next(a), m.next(a)); break;
            case 12: a = near(0, (1 << (3 * n)) - 1); due(run, "meets(" + a + ")", x.meets(a), m.meets(a)); break;
            case 13: due(run, "shortest()", x.shortest(), m.shortest()); break;
            case 14: due(run, "entailed()", x.entailed(), m.entailed()); break;
            case 15: a = near(0, last); due(run, "redundant(" + a + ")", x.redundant(a), m.redundant(a)); break;
            default: due(run, "excess()", x.excess(), m.excess()); break;
        }
    }

    public static void main(String[] args) {
        for (int run = 0; run < RUNS; run++) {
            int events = near(2, 4);
            DisjunctiveTimes x = new DisjunctiveTimes(events);
            Model m = new Model(events);
            for (int at = 0; at < CALLS; at++) {
                call(run, x, m);
            }
        }
        for (int method = 0; method < METHODS; method++) {
            if (asked[method] < RUNS) {
                wrong++;
                System.out.println("method " + method + " was asked only " + asked[method] + " times");
            }
        }
        System.out.println(wrong == 0 ? "all runs agree with the model" : wrong + " answers differ from the model");
        if (wrong != 0) {
            System.exit(1);
        }
    }
}
