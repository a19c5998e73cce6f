// Each promise by itself: ordinary inputs, the edges and wrong inputs.
public final class PromisesTest {
    private static final int MIN = Integer.MIN_VALUE;
    private static final int MAX = Integer.MAX_VALUE;

    private static int wrong = 0;

    private static void due(String call, int got, int want) {
        if (got != want) {
            wrong++;
            System.out.println(call + " answered " + got + ", due is " + want);
        }
    }

    // Adds a constraint; the comparisons are given three numbers each.
    private static int constrain(DisjunctiveTimes x, int... comparisons) {
        for (int at = 0; at < comparisons.length; at += 3) {
            x.alternative(comparisons[at], comparisons[at + 1], comparisons[at + 2]);
        }
        return x.add();
    }

    // Event 0 at 7 or later and at 3 or earlier: no plan does that.
    private static DisjunctiveTimes unsolvable(int events) {
        DisjunctiveTimes x = new DisjunctiveTimes(events);
        constrain(x, x.events(), 0, -7);
        constrain(x, 0, x.events(), 3);
        return x;
    }

    private static void newObject() {
        int[][] cases = {
            {MIN, 2}, {-1, 2}, {0, 2}, {1, 2}, {2, 2}, {3, 3}, {4, 4}, {5, 4}, {100, 4}, {MAX, 4},
        };
        for (int[] c : cases) {
            DisjunctiveTimes x = new DisjunctiveTimes(c[0]);
            due("P1/2 new " + c[0] + ": events()", x.events(), c[1]);
            due("P1 new " + c[0] + ": size()", x.size(), 0);
            due("P1 new " + c[0] + ": clear()", x.clear(), 0);
            due("P1 new " + c[0] + ": entailed()", x.entailed(), -1);
            due("P1 new " + c[0] + ": solvable()", x.solvable(), 1);
            due("P1 new " + c[0] + ": next(-1)", x.next(-1), 0);
            due("P1 new " + c[0] + ": excess()", x.excess(), 0);
        }
    }

    private static void twoObjectsShareNothing() {
        DisjunctiveTimes x = new DisjunctiveTimes(2);
        DisjunctiveTimes y = new DisjunctiveTimes(4);
        due("P1 first of two: constrain", constrain(x, 0, 1, -7), 1);
        due("P1 first of two: alternative", x.alternative(0, 1, 0), 1);
        due("P1 second of two: size()", y.size(), 0);
        due("P1 second of two: clear()", y.clear(), 0);
        due("P1 second of two: events()", y.events(), 4);
        due("P1 first of two: events()", x.events(), 2);
        due("P1 second of two: next(7)", y.next(7), 8);
        due("P1 first of two: next(-1)", x.next(-1), 7);
    }

    private static void alternative() {
        for (int n = 2; n <= 4; n++) {
            DisjunctiveTimes x = new DisjunctiveTimes(n);
            due("P3 i = -1", x.alternative(-1, 0, 0), -1);
            due("P3 i = n + 1", x.alternative(n + 1, 0, 0), -1);
            due("P3 j = -1", x.alternative(0, -1, 0), -1);
            due("P3 j = n + 1", x.alternative(0, n + 1, 0), -1);
            due("P3 i least", x.alternative(MIN, 0, 0), -1);
            due("P3 j greatest", x.alternative(0, MAX, 0), -1);
            due("P3 both wrong and the same", x.alternative(n + 1, n + 1, 99), -1);
            due("P3 same event", x.alternative(1, 1, 0), -2);
            due("P3 origin twice", x.alternative(n, n, 0), -2);
            due("P3 same and k wrong", x.alternative(0, 0, 11), -2);
            due("P3 k = 11", x.alternative(0, 1, 11), -3);
            due("P3 k = -11", x.alternative(0, 1, -11), -3);
            due("P3 k least", x.alternative(0, 1, MIN), -3);
            due("P3 k greatest", x.alternative(0, 1, MAX), -3);
            due("P3 refusals left the draft empty", x.entailed(), -1);
            due("P3 k = 10", x.alternative(0, n, 10), 1);
            due("P3 k = -10", x.alternative(n, 0, -10), 2);
            due("P3 third", x.alternative(n - 1, 0, 0), 3);
            due("P3 fourth", x.alternative(0, 1, 0), -4);
            due("P3 full, i wrong", x.alternative(-1, 1, 0), -1);
            due("P3 full, same", x.alternative(1, 1, 0), -2);
            due("P3 full, k wrong", x.alternative(0, 1, 11), -3);
            due("P3 refusals left the draft full", x.clear(), 3);
        }
    }

    private static void comparisonIsAtMost() {
        DisjunctiveTimes x = new DisjunctiveTimes(2);
        constrain(x, 0, 1, -2);
        due("P3 1,3 meets (0, 1, -2)", x.meets(8 * 1 + 3), 1);
        due("P3 1,4 meets (0, 1, -2)", x.meets(8 * 1 + 4), 1);
        due("P3 1,2 does not", x.meets(8 * 1 + 2), 0);
        due("P3 3,1 does not", x.meets(8 * 3 + 1), 0);
        DisjunctiveTimes never = new DisjunctiveTimes(2);
        constrain(never, 0, 1, -8);
        due("P3 -8 is out of reach", never.solvable(), 0);
        DisjunctiveTimes always = new DisjunctiveTimes(2);
        constrain(always, 0, 1, 7);
        due("P3 7 is always met", always.redundant(0), 1);
    }

    private static void clear() {
        DisjunctiveTimes x = new DisjunctiveTimes(3);
        for (int count = 0; count <= 3; count++) {
            for (int at = 0; at < count; at++) {
                x.alternative(0, 1, -at);
            }
            due("P4 clear of " + count, x.clear(), count);
            due("P4 clear again", x.clear(), 0);
            due("P4 empty now", x.entailed(), -1);
        }
        constrain(x, 0, 1, 0);
        x.alternative(0, 1, -7);
        due("P4 clear beside a list", x.clear(), 1);
        due("P4 list is kept", x.size(), 1);
        due("P4 cleared comparison is gone", x.alternative(1, 0, 7), 1);
        due("P4 new draft has just the new one", x.entailed(), 1);
    }

    private static void add() {
        DisjunctiveTimes x = new DisjunctiveTimes(2);
        due("P5 empty draft", x.add(), -1);
        due("P5 nothing added", x.size(), 0);
        for (int count = 1; count <= 8; count++) {
            x.alternative(0, 1, 8 - count);
            due("P5 add " + count, x.add(), count);
            due("P5 size " + count, x.size(), count);
            due("P5 draft is empty", x.clear(), 0);
        }
        due("P5 empty draft before full list", x.add(), -1);
        x.alternative(1, 0, -1);
        x.alternative(1, 0, -2);
        due("P5 full list", x.add(), -2);
        due("P5 full list again", x.add(), -2);
        due("P5 list unchanged", x.size(), 8);
        due("P5 meaning unchanged", x.widest(1, 0), 7);
        due("P5 draft is kept", x.clear(), 2);
    }

    private static void addKeepsEveryAlternative() {
        DisjunctiveTimes x = new DisjunctiveTimes(2);
        // Event 0 at 0, or event 0 at 7, or event 1 at least 2 before event 0
        due("P5 three alternatives", constrain(x, 0, 2, 0, 2, 0, -7, 1, 0, -2), 1);
        due("P5 first is met", x.meets(5), 1);
        due("P5 second is met", x.meets(8 * 7 + 6), 1);
        due("P5 third is met", x.meets(8 * 3 + 1), 1);
        due("P5 none is met", x.meets(8 * 3 + 2), 0);
        DisjunctiveTimes last = new DisjunctiveTimes(2);
        constrain(last, 0, 1, -10, 1, 0, -9, 2, 0, -6);
        due("P5 only the third can be met", last.next(-1), 8 * 6);
    }

    private static void apartAnswers() {
        for (int n = 2; n <= 4; n++) {
            for (int i = 0; i < 8; i++) {
                for (int j = 0; j < 8; j++) {
                    int want = i >= n || j >= n ? -1 : i == j ? -2 : 3;
                    DisjunctiveTimes x = new DisjunctiveTimes(n);
                    due("P6 n " + n + " apart(" + i + ", " + j + ")", x.apart(8 * i + j, 1, 2), want);
                    due("P6 size after", x.size(), want < 0 ? 0 : 3);
                }
            }
        }
        DisjunctiveTimes x = new DisjunctiveTimes(2);
        int[] noPairs = {MIN, -64, -9, -8, -7, -1, 2, 7, 10, 16, 64, 65, 128, 1 << 16, MIN + 1, MAX};
        for (int pair : noPairs) {
            due("P6 pair " + pair, x.apart(pair, 99, 99), -1);
        }
        due("P6 same before gap", x.apart(9, 8, 8), -2);
        due("P6 gap before span", x.apart(1, 8, 8), -3);
        due("P6 gap -1", x.apart(1, -1, 0), -3);
        due("P6 gap least", x.apart(1, MIN, 0), -3);
        due("P6 gap greatest", x.apart(1, MAX, 0), -3);
        due("P6 span 8", x.apart(1, 7, 8), -4);
        due("P6 span -1", x.apart(1, 0, -1), -4);
        due("P6 span least", x.apart(1, 0, MIN), -4);
        due("P6 span greatest", x.apart(1, 0, MAX), -4);
        due("P6 nothing was added", x.size(), 0);
    }

    private static void apartFillsTheList() {
        DisjunctiveTimes x = new DisjunctiveTimes(3);
        x.alternative(0, 1, -7);
        due("P6 first", x.apart(1, 0, 7), 3);
        due("P6 second", x.apart(8, 0, 7), 6);
        due("P6 no room for three", x.apart(1, 0, 7), -5);
        due("P6 size is 6", x.size(), 6);
        due("P6 span before room", x.apart(1, 0, 8), -4);
        due("P6 gap before room", x.apart(1, 8, 0), -3);
        due("P6 same before room", x.apart(0, 0, 0), -2);
        due("P6 pair before room", x.apart(3, 0, 0), -1);
        due("P6 draft is kept", x.add(), 7);
        due("P6 no room at 7", x.apart(1, 0, 7), -5);
        constrain(x, 0, 1, 10);
        due("P6 no room at 8", x.apart(1, 0, 7), -5);
        x.remove(0);
        x.remove(0);
        x.remove(0);
        due("P6 room at 5", x.apart(10, 2, 3), 8);
    }

    private static void apartMeaning() {
        for (int gap = 0; gap <= 7; gap++) {
            for (int span = 0; span <= 7; span++) {
                DisjunctiveTimes x = new DisjunctiveTimes(2);
                x.apart(gap % 2 == 0 ? 1 : 8, gap, span);
                for (int plan = 0; plan < 64; plan++) {
                    int distance = Math.abs(plan / 8 - plan % 8);
                    int want = distance >= gap && distance <= span ? 1 : 0;
                    due("P6 gap " + gap + " span " + span + " meets(" + plan + ")", x.meets(plan), want);
                }
            }
        }
    }

    private static void apartOrder() {
        // What is left when two of the three are taken out again
        DisjunctiveTimes first = new DisjunctiveTimes(2);
        first.apart(1, 3, 5);
        first.remove(1);
        first.remove(1);
        due("P6 first: 0,3", first.meets(3), 1);
        due("P6 first: 3,0", first.meets(24), 1);
        due("P6 first: 0,7", first.meets(7), 1);
        due("P6 first: 0,2", first.meets(2), 0);
        DisjunctiveTimes second = new DisjunctiveTimes(2);
        second.apart(1, 3, 5);
        second.remove(0);
        second.remove(1);
        due("P6 second: widest(0, 1)", second.widest(0, 1), 5);
        due("P6 second: widest(1, 0)", second.widest(1, 0), 7);
        DisjunctiveTimes third = new DisjunctiveTimes(2);
        third.apart(1, 3, 5);
        third.remove(0);
        third.remove(0);
        due("P6 third: widest(0, 1)", third.widest(0, 1), 7);
        due("P6 third: widest(1, 0)", third.widest(1, 0), 5);
    }

    private static void remove() {
        DisjunctiveTimes x = new DisjunctiveTimes(3);
        due("P7 empty list", x.remove(0), -1);
        constrain(x, 3, 0, -1, 3, 0, -2, 3, 0, -3);
        constrain(x, 3, 1, -2);
        constrain(x, 3, 2, -3, 3, 2, -4);
        due("P7 position -1", x.remove(-1), -1);
        due("P7 position 3", x.remove(3), -1);
        due("P7 least", x.remove(MIN), -1);
        due("P7 greatest", x.remove(MAX), -1);
        due("P7 nothing changed", x.next(-1), 0123);
        x.alternative(0, 1, 0);
        due("P7 middle", x.remove(1), 2);
        due("P7 middle is out", x.next(-1), 0103);
        due("P7 size", x.size(), 2);
        due("P7 freed position", x.remove(2), -1);
        due("P7 first", x.remove(0), 1);
        due("P7 later one moved down", x.next(-1), 0003);
        due("P7 last", x.remove(0), 0);
        due("P7 nothing is left", x.next(-1), 0);
        due("P7 draft is kept", x.clear(), 1);
        due("P7 empty again", x.remove(0), -1);
        constrain(x, 3, 0, -5);
        due("P7 old alternatives do not come back", x.next(-1), 0500);
    }

    private static void removeFromFull() {
        for (int position = 0; position < 8; position++) {
            DisjunctiveTimes x = new DisjunctiveTimes(2);
            for (int at = 0; at < 8; at++) {
                constrain(x, 0, 1, at - 4);
            }
            due("P7 from 8 at " + position, x.remove(position), 7);
            due("P7 what is left", x.widest(0, 1), position == 0 ? -3 : -4);
            due("P7 room for one", constrain(x, 0, 1, -6), 8);
            due("P7 new one counts", x.widest(0, 1), -6);
        }
    }

    private static void size() {
        DisjunctiveTimes x = new DisjunctiveTimes(4);
        due("P8 new", x.size(), 0);
        x.alternative(0, 1, 0);
        due("P8 draft does not count", x.size(), 0);
        x.add();
        due("P8 one", x.size(), 1);
        x.apart(1, 0, 7);
        due("P8 four", x.size(), 4);
        x.remove(3);
        due("P8 three", x.size(), 3);
    }

    private static void solvable() {
        DisjunctiveTimes x = new DisjunctiveTimes(2);
        due("P9 no constraint", x.solvable(), 1);
        constrain(x, 0, 1, -7);
        due("P9 one solution", x.solvable(), 1);
        constrain(x, 1, 0, 6);
        due("P9 none", x.solvable(), 0);
        x.remove(1);
        constrain(x, 1, 0, 6, 1, 0, 7);
        due("P9 by the other alternative", x.solvable(), 1);
        DisjunctiveTimes last = new DisjunctiveTimes(4);
        for (int event = 0; event < 4; event++) {
            constrain(last, 4, event, -7);
        }
        due("P9 the last plan only", last.solvable(), 1);
        due("P9 a draft does not count", last.alternative(0, 4, 0), 1);
        due("P9 still solvable", last.solvable(), 1);
    }

    private static void earliestAndLatest() {
        for (int n = 2; n <= 4; n++) {
            DisjunctiveTimes x = new DisjunctiveTimes(n);
            DisjunctiveTimes none = unsolvable(n);
            int[] noEvents = {MIN, -1, n, n + 1, MAX};
            for (int event : noEvents) {
                due("P10 earliest(" + event + ")", x.earliest(event), -1);
                due("P11 latest(" + event + ")", x.latest(event), -1);
                due("P10 unsolvable earliest(" + event + ")", none.earliest(event), -1);
                due("P11 unsolvable latest(" + event + ")", none.latest(event), -1);
            }
            for (int event = 0; event < n; event++) {
                due("P10 free", x.earliest(event), 0);
                due("P11 free", x.latest(event), 7);
                due("P10 no solution", none.earliest(event), -2);
                due("P11 no solution", none.latest(event), -2);
            }
        }
        DisjunctiveTimes x = new DisjunctiveTimes(3);
        constrain(x, 3, 0, -2);
        constrain(x, 0, 1, -1);
        constrain(x, 1, 2, -2);
        due("P10 chain 0", x.earliest(0), 2);
        due("P10 chain 1", x.earliest(1), 3);
        due("P10 chain 2", x.earliest(2), 5);
        due("P11 chain 0", x.latest(0), 4);
        due("P11 chain 1", x.latest(1), 5);
        due("P11 chain 2", x.latest(2), 7);
    }

    private static void widest() {
        for (int n = 2; n <= 4; n++) {
            DisjunctiveTimes x = new DisjunctiveTimes(n);
            DisjunctiveTimes none = unsolvable(n);
            int[] noEvents = {MIN, -1, n + 1, MAX};
            for (int event : noEvents) {
                due("P12 i " + event, x.widest(event, 0), -100);
                due("P12 j " + event, x.widest(0, event), -100);
                due("P12 both " + event, x.widest(event, event), -100);
                due("P12 unsolvable i " + event, none.widest(event, 0), -100);
                due("P12 unsolvable j " + event, none.widest(0, event), -100);
            }
            for (int i = 0; i <= n; i++) {
                for (int j = 0; j <= n; j++) {
                    due("P12 free " + i + " " + j, x.widest(i, j), i == j || i == n ? 0 : 7);
                    due("P12 no solution", none.widest(i, j), -200);
                }
            }
        }
        DisjunctiveTimes x = new DisjunctiveTimes(2);
        constrain(x, 0, 1, -3);
        constrain(x, 2, 0, -1);
        due("P12 widest(0, 1)", x.widest(0, 1), -3);
        due("P12 widest(1, 0)", x.widest(1, 0), 6);
        due("P12 widest(2, 0)", x.widest(2, 0), -1);
        due("P12 widest(2, 1)", x.widest(2, 1), -4);
        due("P12 widest(0, 2)", x.widest(0, 2), 4);
        due("P12 widest(1, 2)", x.widest(1, 2), 7);
        constrain(x, 0, 1, -7, 1, 2, 4);
        due("P12 exact", x.widest(2, 1), -4);
    }

    private static void next() {
        int[] counts = {64, 512, 4096};
        for (int n = 2; n <= 4; n++) {
            DisjunctiveTimes x = new DisjunctiveTimes(n);
            int count = counts[n - 2];
            due("P13 after least int", x.next(MIN), 0);
            due("P13 after -2", x.next(-2), 0);
            due("P13 after -1", x.next(-1), 0);
            due("P13 after 0", x.next(0), 1);
            due("P13 after the last but one", x.next(count - 2), count - 1);
            due("P13 after the last", x.next(count - 1), -1);
            due("P13 after 8^n", x.next(count), -1);
            due("P13 after greatest int", x.next(MAX), -1);
            due("P13 no solution", unsolvable(n).next(-1), -1);
            due("P13 no solution, least int", unsolvable(n).next(MIN), -1);
        }
        DisjunctiveTimes x = new DisjunctiveTimes(4);
        constrain(x, 4, 0, -1);
        constrain(x, 0, 4, 1);
        constrain(x, 0, 1, -1);
        constrain(x, 1, 2, -1);
        constrain(x, 2, 3, -3);
        due("P13 first", x.next(-1), 01236);
        due("P13 second", x.next(01236), 01237);
        due("P13 third", x.next(01237), 01247);
        due("P13 from between", x.next(01240), 01247);
        due("P13 fourth", x.next(01247), 01347);
        due("P13 no fifth", x.next(01347), -1);
    }

    private static void meets() {
        int[] counts = {64, 512, 4096};
        for (int n = 2; n <= 4; n++) {
            DisjunctiveTimes x = new DisjunctiveTimes(n);
            due("P14 least int", x.meets(MIN), -1);
            due("P14 -1", x.meets(-1), -1);
            due("P14 0", x.meets(0), 1);
            due("P14 last", x.meets(counts[n - 2] - 1), 1);
            due("P14 8^n", x.meets(counts[n - 2]), -1);
            due("P14 greatest int", x.meets(MAX), -1);
            due("P14 unsolvable", unsolvable(n).meets(0), 0);
            due("P14 unsolvable, wrong number", unsolvable(n).meets(-1), -1);
        }
        DisjunctiveTimes x = new DisjunctiveTimes(3);
        constrain(x, 0, 1, -1);
        constrain(x, 1, 2, -1);
        due("P14 rising", x.meets(0123), 1);
        due("P14 falling", x.meets(0321), 0);
        due("P14 one of two met", x.meets(0122), 0);
        due("P14 the other met", x.meets(0112), 0);
    }

    private static void shortest() {
        DisjunctiveTimes x = new DisjunctiveTimes(3);
        due("P15 free", x.shortest(), 0);
        constrain(x, 0, 1, -2);
        due("P15 two", x.shortest(), 2);
        constrain(x, 1, 2, -3);
        due("P15 five", x.shortest(), 5);
        constrain(x, 3, 0, -2);
        due("P15 seven", x.shortest(), 7);
        constrain(x, 0, 3, 1);
        due("P15 no solution", x.shortest(), -1);
        for (int event = 0; event < 4; event++) {
            DisjunctiveTimes y = new DisjunctiveTimes(4);
            constrain(y, 4, event, -6);
            due("P15 event " + event + " is the last", y.shortest(), 6);
        }
        // The solution with the least number is not the shortest one.
        DisjunctiveTimes z = new DisjunctiveTimes(2);
        constrain(z, 2, 1, -7, 2, 0, -4);
        due("P15 not the first solution", z.shortest(), 4);
    }

    private static void entailed() {
        DisjunctiveTimes x = new DisjunctiveTimes(3);
        due("P16 empty draft", x.entailed(), -1);
        due("P16 empty draft, no solution", unsolvable(3).entailed(), -1);
        constrain(x, 0, 1, -2);
        constrain(x, 1, 2, -2);
        x.alternative(0, 2, -5);
        due("P16 too strong", x.entailed(), 0);
        x.clear();
        x.alternative(0, 2, -4);
        due("P16 just so", x.entailed(), 1);
        x.clear();
        x.alternative(0, 3, 1);
        due("P16 one alternative", x.entailed(), 0);
        x.alternative(3, 0, -3);
        due("P16 two alternatives", x.entailed(), 0);
        x.alternative(3, 0, -2);
        due("P16 three alternatives together", x.entailed(), 1);
        due("P16 draft is kept", x.clear(), 3);
        due("P16 list is kept", x.size(), 2);
        DisjunctiveTimes none = unsolvable(2);
        none.alternative(0, 1, -10);
        due("P16 no solution entails all", none.entailed(), 1);
    }

    private static void redundant() {
        DisjunctiveTimes x = new DisjunctiveTimes(3);
        due("P17 empty list", x.redundant(0), -1);
        constrain(x, 0, 1, -2);
        constrain(x, 1, 2, -2);
        constrain(x, 0, 2, -4);
        due("P17 position -1", x.redundant(-1), -1);
        due("P17 position 3", x.redundant(3), -1);
        due("P17 least", x.redundant(MIN), -1);
        due("P17 greatest", x.redundant(MAX), -1);
        due("P17 needed 0", x.redundant(0), 0);
        due("P17 needed 1", x.redundant(1), 0);
        due("P17 follows", x.redundant(2), 1);
        due("P17 changes nothing", x.size(), 3);
        x.remove(0);
        due("P17 no longer follows", x.redundant(1), 0);
        constrain(x, 0, 2, -4);
        due("P17 twin 1", x.redundant(1), 1);
        due("P17 twin 2", x.redundant(2), 1);
        DisjunctiveTimes none = unsolvable(2);
        due("P17 unsolvable, each is needed", none.redundant(0), 0);
        due("P17 unsolvable, the other too", none.redundant(1), 0);
        constrain(none, 0, 1, -1);
        due("P17 unsolvable without it too", none.redundant(2), 1);
        due("P17 unsolvable, wrong position", none.redundant(3), -1);
    }

    private static void excess() {
        DisjunctiveTimes x = new DisjunctiveTimes(2);
        due("P18 empty list", x.excess(), 0);
        constrain(x, 0, 1, -3);
        due("P18 solvable", x.excess(), 0);
        constrain(x, 1, 0, -3);
        due("P18 last one", x.excess(), 1);
        constrain(x, 0, 1, 10);
        due("P18 last two", x.excess(), 2);
        due("P18 changes nothing", x.size(), 3);
        x.remove(0);
        due("P18 solvable again", x.excess(), 0);
        DisjunctiveTimes all = new DisjunctiveTimes(4);
        constrain(all, 0, 1, -8);
        for (int count = 2; count <= 8; count++) {
            due("P18 first one alone is too much", all.excess(), count - 1);
            constrain(all, 0, 1, 10);
        }
        due("P18 all eight", all.excess(), 8);
        // Taking the first out would do, but only the end counts.
        DisjunctiveTimes end = new DisjunctiveTimes(2);
        constrain(end, 0, 1, -8);
        constrain(end, 0, 1, 0);
        due("P18 from the end", end.excess(), 2);
    }

    // The first plan alone, or the last one alone, decides every answer.
    private static void onePlanOnly(int n, int time) {
        DisjunctiveTimes x = new DisjunctiveTimes(n);
        String plan = "n " + n + ", all at " + time + ": ";
        int number = time == 0 ? 0 : (1 << (3 * n)) - 1;
        for (int event = 0; event < n; event++) {
            if (time == 0) {
                constrain(x, event, n, 0);
            } else {
                constrain(x, n, event, -7);
            }
        }
        due("P9 " + plan + "solvable()", x.solvable(), 1);
        for (int event = 0; event < n; event++) {
            due("P10 " + plan + "earliest", x.earliest(event), time);
            due("P11 " + plan + "latest", x.latest(event), time);
            due("P12 " + plan + "widest from the origin", x.widest(event, n), time);
            due("P12 " + plan + "widest to the origin", x.widest(n, event), -time);
            due("P17 " + plan + "redundant", x.redundant(event), 0);
        }
        due("P13 " + plan + "next(-1)", x.next(-1), number);
        due("P13 " + plan + "next of itself", x.next(number), -1);
        due("P14 " + plan + "meets", x.meets(number), 1);
        due("P15 " + plan + "shortest()", x.shortest(), time);
        due("P18 " + plan + "excess()", x.excess(), 0);
        x.alternative(0, n, time - 1);
        x.alternative(n, 0, -time - 1);
        due("P16 " + plan + "entailed() is not so", x.entailed(), 0);
        x.alternative(0, 1, 0);
        due("P16 " + plan + "entailed() is so", x.entailed(), 1);
        x.clear();
        // Met by every plan but this one, so needed for it alone
        due("P17 " + plan + "one more", constrain(x, 0, n, time - 1, n, 0, -time - 1), n + 1);
        due("P17 " + plan + "the last is needed", x.redundant(n), 0);
        due("P18 " + plan + "the last is too much", x.excess(), 1);
        due("P9 " + plan + "no longer solvable", x.solvable(), 0);
    }

    private static void onePlanOnly() {
        for (int n = 2; n <= 4; n++) {
            onePlanOnly(n, 0);
            onePlanOnly(n, 7);
        }
    }

    private static void apartAfterRemove() {
        DisjunctiveTimes x = new DisjunctiveTimes(2);
        for (int count = 0; count < 3; count++) {
            constrain(x, 0, 1, 10, 1, 0, 10, 0, 2, 10);
        }
        x.remove(0);
        x.remove(0);
        x.remove(0);
        due("P6 into used places", x.apart(1, 7, 7), 3);
        due("P6 first solution", x.next(-1), 7);
        due("P6 second solution", x.next(7), 56);
        due("P6 no third", x.next(56), -1);
    }

    public static void main(String[] args) {
        newObject();
        twoObjectsShareNothing();
        alternative();
        comparisonIsAtMost();
        clear();
        add();
        addKeepsEveryAlternative();
        apartAnswers();
        apartFillsTheList();
        apartMeaning();
        apartOrder();
        apartAfterRemove();
        remove();
        removeFromFull();
        size();
        solvable();
        earliestAndLatest();
        widest();
        next();
        meets();
        shortest();
        entailed();
        redundant();
        excess();
        onePlanOnly();
        System.out.println(wrong == 0 ? "all promises hold" : wrong + " answers are not as due");
        if (wrong != 0) {
            System.exit(1);
        }
    }
}
