/** One method for each promise of the document, with answers worked out by hand. */
public final class PromiseTest {
    private static final int BAD = -1;
    private static final int NONE = -2;
    private static final int LOWEST = Integer.MIN_VALUE;
    private static final int HIGHEST = Integer.MAX_VALUE;

    private static int wrong = 0;

    public static void main(String[] args) {
        promise1NewObject();
        promise2Weigh();
        promise3WeighCouple();
        promise4Bar();
        promise5BarCouple();
        promise6Allowed();
        promise7Best();
        promise8Label();
        promise9BestCount();
        promise10Ranked();
        promise11BestThrough();
        promise12Total();
        promise13Through();
        promise14ThroughCouple();
        promise15Order();
        promise15RefusedCallsChangeNothing();
        promise15QuestionsChangeNothing();
        objectsAreApart();
        System.out.println(wrong == 0 ? "all answers are as due" : wrong + " answers are not as due");
        if (wrong != 0) {
            System.exit(1);
        }
    }

    private static void due(String call, long got, long want) {
        if (got != want) {
            wrong++;
            System.out.println(call + " answered " + got + ", due is " + want);
        }
    }

    private static void due(String call, boolean got, boolean want) {
        due(call, got ? 1L : 0L, want ? 1L : 0L);
    }

    private static void promise1NewObject() {
        int[] asked = {LOWEST, -1, 0, 1, 2, 3, 4, 5, 6, 7, 100, HIGHEST};
        int[] clamped = {1, 1, 1, 1, 2, 3, 4, 5, 6, 6, 6, 6};
        int[] powers = {1, 3, 9, 27, 81, 243, 729};
        for (int at = 0; at < asked.length; at++) {
            int n = clamped[at];
            String made = "1: new " + asked[at] + ": ";
            LabelChain x = new LabelChain(asked[at]);
            due(made + "allowed", x.allowed(), powers[n]);
            due(made + "best", x.best(), 2 * n - 1);
            due(made + "bestCount", x.bestCount(), powers[n]);
            due(made + "total", x.total(), powers[n]);
            due(made + "label(n-1)", x.label(n - 1), 0);
            due(made + "label(n)", x.label(n), BAD);
        }
    }

    private static void promise2Weigh() {
        LabelChain x = new LabelChain(3);
        due("2: least weight", x.weigh(0, 0, 0), true);
        due("2: least weight counts", x.bestThrough(0, 0), 4);
        due("2: greatest weight", x.weigh(2, 2, 9), true);
        due("2: greatest weight counts", x.best(), 13);
        due("2: set again", x.weigh(2, 2, 5), true);
        due("2: set again counts", x.best(), 9);
        due("2: other label is as before", x.bestThrough(2, 1), 5);
        int[][] bad = {{-1, 0, 1}, {3, 0, 1}, {LOWEST, 0, 1}, {HIGHEST, 0, 1}, {0, -1, 1}, {0, 3, 1},
            {1, -1, 1}, {0, LOWEST, 1}, {0, HIGHEST, 1}, {0, 0, -1}, {0, 0, 10}, {0, 0, LOWEST}, {0, 0, HIGHEST},
            {5, 5, 50}};
        for (int[] b : bad) {
            due("2: weigh(" + b[0] + ", " + b[1] + ", " + b[2] + ")", x.weigh(b[0], b[1], b[2]), false);
        }
        due("2: position 5 of 6", new LabelChain(6).weigh(5, 2, 9), true);
        due("2: position 6 of 6", new LabelChain(6).weigh(6, 0, 9), false);
        due("2: a barred label", x.bar(1, 1, true), true);
        due("2: a barred label can be weighed", x.weigh(1, 1, 8), true);
        due("2: it stays barred", x.bestThrough(1, 1), NONE);
        due("2: until it is allowed", x.bar(1, 1, false), true);
        due("2: then the weight counts", x.bestThrough(1, 1), 16);
    }

    private static void promise3WeighCouple() {
        LabelChain x = new LabelChain(2);
        due("3: greatest weight", x.weighCouple(0, 2, 9), true);
        due("3: counts for (0, 2)", x.throughCouple(0, 2), 9);
        due("3: does not count for (2, 0)", x.throughCouple(0, 6), 1);
        due("3: best", x.best(), 11);
        due("3: least weight", x.weighCouple(0, 2, 0), true);
        due("3: set again counts", x.throughCouple(0, 2), 0);
        due("3: best again", x.best(), 3);
        int[][] bad = {{-1, 0, 1}, {3, 0, 1}, {LOWEST, 0, 1}, {HIGHEST, 0, 1}, {0, -1, 1}, {0, 3, 1}, {1, -1, 1},
            {0, LOWEST, 1}, {0, HIGHEST, 1}, {0, 0, -1}, {0, 0, 10}, {0, 0, LOWEST}, {0, 0, HIGHEST}};
        for (int[] b : bad) {
            due("3: weighCouple(" + b[0] + ", " + b[1] + ", " + b[2] + ")", x.weighCouple(b[0], b[1], b[2]), false);
        }
        LabelChain all = new LabelChain(4);
        due("3: in every place", all.weighCouple(1, 1, 5), true);
        due("3: in every place counts", all.best(), 4 + 15);
        LabelChain one = new LabelChain(1);
        due("3: one position", one.weighCouple(2, 2, 9), true);
        due("3: one position has no couple", one.best(), 1);
    }

    private static void promise4Bar() {
        LabelChain x = new LabelChain(2);
        due("4: bar", x.bar(1, 2, true), true);
        due("4: barred", x.allowed(), 6);
        due("4: bar again", x.bar(1, 2, true), true);
        due("4: barred again", x.allowed(), 6);
        due("4: other position", x.through(0, 2), 2);
        due("4: allow", x.bar(1, 2, false), true);
        due("4: allowed", x.allowed(), 9);
        due("4: allow what is allowed", x.bar(0, 0, false), true);
        due("4: still allowed", x.allowed(), 9);
        int[][] bad = {{-1, 0}, {2, 0}, {LOWEST, 0}, {HIGHEST, 0}, {0, -1}, {0, 3}, {1, -1}, {0, LOWEST}, {0, HIGHEST}};
        for (int[] b : bad) {
            due("4: bar(" + b[0] + ", " + b[1] + ", true)", x.bar(b[0], b[1], true), false);
            due("4: bar(" + b[0] + ", " + b[1] + ", false)", x.bar(b[0], b[1], false), false);
        }
        due("4: after refusals", x.allowed(), 9);
        due("4: position 5 of 6", new LabelChain(6).bar(5, 2, true), true);
        due("4: position 6 of 6", new LabelChain(6).bar(6, 0, true), false);
    }

    private static void promise5BarCouple() {
        LabelChain x = new LabelChain(3);
        due("5: bar (0, 1)", x.barCouple(0, 1, true), true);
        due("5: barred in both places", x.allowed(), 27 - 3 - 3);
        due("5: barred at 0", x.throughCouple(0, 1), 0);
        due("5: barred at 1", x.throughCouple(1, 1), 0);
        due("5: (1, 0) is not barred", x.throughCouple(0, 3), 2);
        due("5: bar again", x.barCouple(0, 1, true), true);
        due("5: allow", x.barCouple(0, 1, false), true);
        due("5: allowed", x.allowed(), 27);
        int[][] bad = {{-1, 0}, {3, 0}, {LOWEST, 0}, {HIGHEST, 0}, {0, -1}, {0, 3}, {1, -1}, {0, LOWEST}, {0, HIGHEST}};
        for (int[] b : bad) {
            due("5: barCouple(" + b[0] + ", " + b[1] + ", true)", x.barCouple(b[0], b[1], true), false);
            due("5: barCouple(" + b[0] + ", " + b[1] + ", false)", x.barCouple(b[0], b[1], false), false);
        }
        due("5: after refusals", x.allowed(), 27);
        LabelChain one = new LabelChain(1);
        barAllCouples(one);
        due("5: one position has no couple", one.allowed(), 3);
    }

    private static void barAllCouples(LabelChain x) {
        for (int couple = 0; couple < 9; couple++) {
            due("5: bar couple " + couple, x.barCouple(couple / 3, couple % 3, true), true);
        }
    }

    private static void promise6Allowed() {
        LabelChain x = new LabelChain(6);
        due("6: all", x.allowed(), 729);
        x.weigh(0, 0, 0);
        due("6: a weight of 0 does not bar", x.allowed(), 729);
        x.barCouple(0, 0, true);
        x.barCouple(1, 1, true);
        x.barCouple(2, 2, true);
        due("6: neighbours differ", x.allowed(), 3 * 32);
        x.bar(0, 0, true);
        due("6: and the first is not 0", x.allowed(), 2 * 32);
        barAllCouples(x);
        due("6: none", x.allowed(), 0);
    }

    private static void promise7Best() {
        LabelChain x = new LabelChain(6);
        for (int i = 0; i < 6; i++) {
            x.weigh(i, 2, 9);
        }
        x.weighCouple(2, 2, 9);
        due("7: the greatest sum there can be", x.best(), 99);
        x.bar(5, 2, true);
        due("7: without the barred label", x.best(), 5 * 9 + 4 * 9 + 1 + 1);
        x.barCouple(2, 2, true);
        due("7: without the barred couple", x.best(), 3 * 9 + 3 + 5);
        barAllCouples(x);
        due("7: none", x.best(), NONE);
        LabelChain zero = new LabelChain(1);
        for (int a = 0; a < 3; a++) {
            zero.weigh(0, a, 0);
        }
        due("7: a sum of 0 is a sum", zero.best(), 0);
        LabelChain first = new LabelChain(2);
        first.weighCouple(0, 0, 2);
        due("7: the first labelling alone", first.best(), 4);
        LabelChain last = new LabelChain(2);
        last.weighCouple(2, 2, 2);
        due("7: the last labelling alone", last.best(), 4);
    }

    private static void promise8Label() {
        LabelChain x = new LabelChain(3);
        for (int i = 0; i < 3; i++) {
            due("8: the first of equals", x.label(i), 0);
        }
        x.weighCouple(0, 2, 3);
        x.weigh(2, 1, 3);
        x.bar(1, 1, true);
        due("8: best", x.best(), 1 + 1 + 3 + 3 + 1);
        due("8: label(0)", x.label(0), 0);
        due("8: label(1)", x.label(1), 2);
        due("8: label(2)", x.label(2), 1);
        due("8: label(-1)", x.label(-1), BAD);
        due("8: label(3)", x.label(3), BAD);
        due("8: label(lowest)", x.label(LOWEST), BAD);
        due("8: label(highest)", x.label(HIGHEST), BAD);

        LabelChain tie = new LabelChain(2);
        tie.weighCouple(0, 2, 5);
        tie.weighCouple(1, 0, 5);
        due("8: the lowest position decides, 0", tie.label(0), 0);
        due("8: the lowest position decides, 1", tie.label(1), 2);
        tie.bar(0, 0, true);
        due("8: the next one, 0", tie.label(0), 1);
        due("8: the next one, 1", tie.label(1), 0);
        barAllCouples(tie);
        due("8: none", tie.label(1), NONE);
    }

    private static void promise9BestCount() {
        LabelChain x = new LabelChain(2);
        due("9: all", x.bestCount(), 9);
        x.weigh(0, 1, 2);
        due("9: label 1 first", x.bestCount(), 3);
        x.weigh(0, 2, 2);
        due("9: label 1 or 2 first", x.bestCount(), 6);
        x.barCouple(2, 2, true);
        due("9: barred ones are not counted", x.bestCount(), 5);
        x.bar(0, 1, true);
        due("9: barred labels are not counted", x.bestCount(), 2);
        barAllCouples(x);
        due("9: none", x.bestCount(), 0);
    }

    private static void promise10Ranked() {
        LabelChain x = new LabelChain(2);
        x.weigh(0, 0, 9);
        x.weigh(0, 1, 5);
        x.weigh(1, 2, 3);
        int[] sums = {13, 11, 11, 9, 7, 7, 5, 3};
        for (int k = 0; k < 8; k++) {
            due("10: ranked(" + k + ")", x.ranked(k), sums[k]);
        }
        due("10: ranked(8)", x.ranked(8), BAD);
        due("10: ranked(-1)", x.ranked(-1), BAD);
        due("10: ranked(lowest)", x.ranked(LOWEST), BAD);
        due("10: ranked(highest)", x.ranked(HIGHEST), BAD);
        x.bar(0, 0, true);
        int[] fewer = {9, 7, 7, 5, 3, 3, NONE, NONE};
        for (int k = 0; k < 8; k++) {
            due("10: without label 0, ranked(" + k + ")", x.ranked(k), fewer[k]);
        }
        barAllCouples(x);
        due("10: none", x.ranked(0), NONE);
        due("10: none, last", x.ranked(7), NONE);

        LabelChain low = new LabelChain(1);
        for (int a = 0; a < 3; a++) {
            low.weigh(0, a, 0);
        }
        due("10: a sum of 0 is a sum", low.ranked(2), 0);
        due("10: no sum follows it", low.ranked(3), NONE);

        LabelChain different = new LabelChain(2);
        for (int a = 0; a < 3; a++) {
            different.weigh(0, a, 3 * a);
            different.weigh(1, a, a);
        }
        for (int k = 0; k < 8; k++) {
            due("10: all different, ranked(" + k + ")", different.ranked(k), 9 - k);
        }
    }

    private static void promise11BestThrough() {
        LabelChain x = new LabelChain(3);
        x.weigh(0, 0, 7);
        x.weighCouple(1, 2, 4);
        due("11: (0, 0)", x.bestThrough(0, 0), 7 + 1 + 1 + 1 + 4);
        due("11: (0, 1)", x.bestThrough(0, 1), 1 + 4 + 1 + 1 + 1);
        due("11: (0, 2)", x.bestThrough(0, 2), 1 + 1 + 1 + 4 + 1);
        due("11: (1, 0)", x.bestThrough(1, 0), 11);
        due("11: (2, 2)", x.bestThrough(2, 2), 14);
        due("11: (2, 1)", x.bestThrough(2, 1), 11);
        x.barCouple(1, 2, true);
        due("11: barred couple", x.bestThrough(2, 2), 11);
        x.bar(2, 2, true);
        due("11: barred label", x.bestThrough(2, 2), NONE);
        due("11: not barred label", x.bestThrough(2, 1), 11);
        int[][] bad = {{-1, 0}, {3, 0}, {LOWEST, 0}, {HIGHEST, 0}, {0, -1}, {0, 3}, {0, LOWEST}, {0, HIGHEST}};
        for (int[] b : bad) {
            due("11: bestThrough(" + b[0] + ", " + b[1] + ")", x.bestThrough(b[0], b[1]), BAD);
        }
        LabelChain zero = new LabelChain(1);
        zero.weigh(0, 1, 0);
        due("11: a sum of 0 is a sum", zero.bestThrough(0, 1), 0);
        LabelChain ends = new LabelChain(2);
        ends.weighCouple(0, 0, 2);
        ends.weighCouple(2, 2, 3);
        due("11: the first labelling alone", ends.bestThrough(1, 0), 4);
        due("11: the last labelling alone", ends.bestThrough(1, 2), 5);
    }

    private static void weighAllNine(LabelChain x) {
        for (int place = 0; place < 18; place++) {
            x.weigh(place / 3, place % 3, 9);
        }
        for (int couple = 0; couple < 9; couple++) {
            x.weighCouple(couple / 3, couple % 3, 9);
        }
    }

    private static void promise12Total() {
        LabelChain x = new LabelChain(2);
        x.weigh(0, 0, 2);
        x.weigh(1, 1, 3);
        x.weighCouple(0, 1, 5);
        due("12: total", x.total(), (2 + 30 + 2) + (1 + 3 + 1) + (1 + 3 + 1));
        x.weigh(0, 1, 0);
        due("12: a weight of 0", x.total(), 39);
        x.bar(0, 2, true);
        due("12: a barred label", x.total(), 34);
        x.barCouple(0, 1, true);
        due("12: a barred couple", x.total(), 4);
        barAllCouples(x);
        due("12: none", x.total(), 0);
        LabelChain most = new LabelChain(6);
        weighAllNine(most);
        due("12: the greatest there can be", most.total(), 729L * 31381059609L);
    }

    private static void promise13Through() {
        LabelChain x = new LabelChain(2);
        x.weigh(0, 0, 2);
        x.weigh(1, 1, 3);
        x.weighCouple(0, 1, 5);
        due("13: (0, 0)", x.through(0, 0), 34);
        due("13: (0, 1)", x.through(0, 1), 5);
        due("13: (1, 1)", x.through(1, 1), 36);
        due("13: (1, 2)", x.through(1, 2), 4);
        x.barCouple(0, 1, true);
        due("13: a barred couple", x.through(1, 1), 6);
        x.bar(1, 1, true);
        due("13: a barred label", x.through(1, 1), 0);
        due("13: a barred label elsewhere", x.through(0, 0), 4);
        int[][] bad = {{-1, 0}, {2, 0}, {LOWEST, 0}, {HIGHEST, 0}, {0, -1}, {0, 3}, {1, -1}, {0, LOWEST}, {0, HIGHEST}};
        for (int[] b : bad) {
            due("13: through(" + b[0] + ", " + b[1] + ")", x.through(b[0], b[1]), 0);
        }
        LabelChain most = new LabelChain(6);
        weighAllNine(most);
        due("13: the greatest there can be", most.through(5, 2), 243L * 31381059609L);
    }

    private static void promise14ThroughCouple() {
        LabelChain x = new LabelChain(3);
        x.weigh(0, 0, 2);
        x.weigh(1, 1, 3);
        x.weigh(2, 2, 4);
        x.weighCouple(0, 1, 5);
        due("14: (0, 1) at 0", x.throughCouple(0, 1), 2 * 5 * 3 * (1 + 1 + 4));
        due("14: (0, 0) at 0", x.throughCouple(0, 0), 2 * (1 + 5 + 4));
        due("14: (0, 0) at 1", x.throughCouple(1, 0), 2 + 1 + 1);
        due("14: (1, 0) at 0", x.throughCouple(0, 3), 1 * (1 + 5 + 4));
        due("14: (0, 1) at 1", x.throughCouple(1, 1), (2 + 1 + 1) * 5);
        due("14: (2, 2) at 1", x.throughCouple(1, 8), (2 + 1 + 1) * 4);
        x.bar(2, 2, true);
        due("14: a barred label", x.throughCouple(1, 8), 0);
        due("14: a barred label elsewhere", x.throughCouple(0, 1), 2 * 5 * 3 * (1 + 1));
        x.barCouple(0, 1, true);
        due("14: a barred couple", x.throughCouple(0, 1), 0);
        due("14: a barred couple elsewhere", x.throughCouple(0, 3), 1);
        int[][] bad = {{-1, 0}, {2, 0}, {3, 0}, {LOWEST, 0}, {HIGHEST, 0}, {0, -1}, {0, 9}, {0, LOWEST}, {0, HIGHEST}};
        for (int[] b : bad) {
            due("14: throughCouple(" + b[0] + ", " + b[1] + ")", x.throughCouple(b[0], b[1]), 0);
        }
        due("14: one position has no couple", new LabelChain(1).throughCouple(0, 0), 0);
        due("14: one position, -1", new LabelChain(1).throughCouple(-1, 0), 0);
        LabelChain most = new LabelChain(6);
        weighAllNine(most);
        due("14: the greatest there can be", most.throughCouple(4, 8), 81L * 31381059609L);
        due("14: behind the last couple", most.throughCouple(5, 8), 0);
    }

    private static void promise15Order() {
        LabelChain x = new LabelChain(2);
        barAllCouples(x);
        due("15: label(2)", x.label(2), BAD);
        due("15: label(-1)", x.label(-1), BAD);
        due("15: label(0)", x.label(0), NONE);
        due("15: ranked(8)", x.ranked(8), BAD);
        due("15: ranked(-1)", x.ranked(-1), BAD);
        due("15: ranked(7)", x.ranked(7), NONE);
        due("15: bestThrough(2, 0)", x.bestThrough(2, 0), BAD);
        due("15: bestThrough(-1, 0)", x.bestThrough(-1, 0), BAD);
        due("15: bestThrough(0, 3)", x.bestThrough(0, 3), BAD);
        due("15: bestThrough(0, -1)", x.bestThrough(0, -1), BAD);
        due("15: bestThrough(1, 2)", x.bestThrough(1, 2), NONE);
    }

    private static LabelChain someChain() {
        LabelChain x = new LabelChain(3);
        for (int place = 0; place < 9; place++) {
            x.weigh(place / 3, place % 3, 2 + place * 5 % 7);
            x.weighCouple(place / 3, place % 3, 2 + place * 4 % 7);
        }
        x.bar(1, 0, true);
        x.barCouple(2, 1, true);
        return x;
    }

    /** Compares every weight and bar of two chains of three positions, by the answers they bring about. */
    private static void same(String when, LabelChain x, LabelChain y) {
        due(when + ": allowed", x.allowed(), y.allowed());
        due(when + ": total", x.total(), y.total());
        for (int place = 0; place < 9; place++) {
            int i = place / 3;
            int a = place % 3;
            due(when + ": bestThrough " + place, x.bestThrough(i, a), y.bestThrough(i, a));
            due(when + ": through " + place, x.through(i, a), y.through(i, a));
            due(when + ": throughCouple 0 " + place, x.throughCouple(0, place), y.throughCouple(0, place));
            due(when + ": throughCouple 1 " + place, x.throughCouple(1, place), y.throughCouple(1, place));
        }
        for (int k = 0; k < 8; k++) {
            due(when + ": ranked " + k, x.ranked(k), y.ranked(k));
        }
    }

    private static void promise15RefusedCallsChangeNothing() {
        int[] outside = {LOWEST, -4, -3, -2, -1, 3, 4, 5, 6, HIGHEST};
        for (int out : outside) {
            for (int in = 0; in < 3; in++) {
                LabelChain x = someChain();
                due("15: weigh", x.weigh(out, in, 0) || x.weigh(in, out, 0), false);
                due("15: weighCouple", x.weighCouple(out, in, 0) || x.weighCouple(in, out, 0), false);
                due("15: bar", x.bar(out, in, true) || x.bar(in, out, true), false);
                due("15: bar false", x.bar(out, in, false) || x.bar(in, out, false), false);
                due("15: barCouple", x.barCouple(out, in, true) || x.barCouple(in, out, true), false);
                due("15: barCouple false", x.barCouple(out, in, false) || x.barCouple(in, out, false), false);
                same("15: after refusals with " + out + " and " + in, x, someChain());
            }
        }
        int[] weights = {LOWEST, -1, 10, HIGHEST};
        for (int weight : weights) {
            LabelChain x = someChain();
            for (int place = 0; place < 9; place++) {
                due("15: weigh " + weight, x.weigh(place / 3, place % 3, weight), false);
                due("15: weighCouple " + weight, x.weighCouple(place / 3, place % 3, weight), false);
            }
            same("15: after refused weights " + weight, x, someChain());
        }
    }

    private static void promise15QuestionsChangeNothing() {
        LabelChain x = someChain();
        int[] numbers = {LOWEST, -1, 0, 2, 3, 8, 9, HIGHEST};
        for (int number : numbers) {
            x.label(number);
            x.ranked(number);
            x.bestThrough(number, 1);
            x.bestThrough(1, number);
            x.through(number, 1);
            x.through(1, number);
            x.throughCouple(number, 1);
            x.throughCouple(1, number);
        }
        x.allowed();
        x.best();
        x.bestCount();
        x.total();
        same("15: after questions", x, someChain());
    }

    private static void objectsAreApart() {
        LabelChain x = someChain();
        LabelChain y = new LabelChain(6);
        weighAllNine(y);
        barAllCouples(y);
        same("1: after work on another object", x, someChain());
    }
}
