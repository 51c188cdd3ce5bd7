import java.util.ArrayList;
import java.util.List;

/**
 * One test for each sentence of the document that names a boundary case: too small, too large,
 * empty, full, a wrap-around, a refused call. The tables below main give each test its promise's
 * number (the part 'Terms' has the number 0) and its sentence, and a wrong answer is told under both.
 */
public final class BoundaryTest {
    private static final int BAD = -1;
    private static final int NONE = -2;
    private static final int LOWEST = Integer.MIN_VALUE;
    private static final int HIGHEST = Integer.MAX_VALUE;
    // Three times these wraps around to 2 and to 1, which are good places of an array.
    private static final int WRAPS_FROM_ABOVE = 1431655766;
    private static final int WRAPS_FROM_BELOW = -1431655765;
    private static final int[] POWERS = {1, 3, 9, 27, 81, 243, 729};
    private static final long GREATEST_PRODUCT = 31381059609L;

    private static String sentence = "";
    private static int tests = 0;
    private static int wrong = 0;

    public static void main(String[] args) {
        terms();
        promises1To5();
        promises6To9();
        promises10And11();
        promises12To14();
        promise15();
        System.out.println(tests + " tests, "
            + (wrong == 0 ? "all answers are as due" : wrong + " answers are not as due"));
        if (wrong != 0) {
            System.exit(1);
        }
    }

    private static void terms() {
        test(0, "n POSITIONS (1 to 6), numbered from 0", BoundaryTest::positionsFromZero);
        test(0, "3 LABELS, 0 to 2", BoundaryTest::threeLabels);
        test(0, "a weight from 0 to 9 for every position and label", BoundaryTest::labelWeights);
        test(0, "a weight from 0 to 9 for every ordered couple", BoundaryTest::coupleWeights);
        test(0, "no position has a label that it bars", BoundaryTest::barredLabelAnywhere);
        test(0, "no two neighbouring positions have a barred couple", BoundaryTest::barredCoupleAnywhere);
        test(0, "neighbouring positions (the earlier one first)", BoundaryTest::earlierFirst);
        test(0, "neighbouring positions: not last and first", BoundaryTest::noWrapAround);
        test(0, "of all its positions' labels and couples", BoundaryTest::everyWeightCountsOnce);
        test(0, "couples of neighbours: one position has none", BoundaryTest::onePositionHasNoCouple);
        test(0, "ORDERED by the lowest position where they differ", BoundaryTest::order);
    }

    private static void promises1To5() {
        test(1, "clamped into 1..6: too small", BoundaryTest::tooFewPositions);
        test(1, "clamped into 1..6: too large", BoundaryTest::tooManyPositions);
        test(1, "clamped into 1..6: 1 to 6 are kept", BoundaryTest::keptPositions);
        test(1, "All weights are 1", BoundaryTest::newWeights);
        test(1, "nothing is barred", BoundaryTest::newBars);
        test(2, "i outside 0..n-1: refused", BoundaryTest::weighPositionOutside);
        test(2, "a outside 0..2: refused", BoundaryTest::weighLabelOutside);
        test(2, "weight outside 0..9: refused", BoundaryTest::weighWeightOutside);
        test(2, "more than one number outside: refused", BoundaryTest::weighSeveralOutside);
        test(2, "Else true", BoundaryTest::weighInside);
        test(3, "a outside 0..2: refused", BoundaryTest::weighCoupleFirstOutside);
        test(3, "b outside 0..2: refused", BoundaryTest::weighCoupleSecondOutside);
        test(3, "weight outside 0..9: refused", BoundaryTest::weighCoupleWeightOutside);
        test(3, "more than one number outside: refused", BoundaryTest::weighCoupleSeveralOutside);
        test(3, "Else true", BoundaryTest::weighCoupleInside);
        test(4, "i outside 0..n-1: refused", BoundaryTest::barPositionOutside);
        test(4, "a outside 0..2: refused", BoundaryTest::barLabelOutside);
        test(4, "both numbers outside: refused", BoundaryTest::barBothOutside);
        test(4, "Else true, also for what is so already", BoundaryTest::barInside);
        test(5, "a outside 0..2: refused", BoundaryTest::barCoupleFirstOutside);
        test(5, "b outside 0..2: refused", BoundaryTest::barCoupleSecondOutside);
        test(5, "both numbers outside: refused", BoundaryTest::barCoupleBothOutside);
        test(5, "Else true, also for what is so already", BoundaryTest::barCoupleInside);
    }

    private static void promises6To9() {
        test(6, "the number of allowed labellings: none", BoundaryTest::allowedNone);
        test(6, "the number of allowed labellings: one alone", BoundaryTest::allowedOne);
        test(6, "the number of allowed labellings: all", BoundaryTest::allowedAll);
        test(7, "NONE if there is none", BoundaryTest::bestNone);
        test(7, "the greatest sum: 0, which is not NONE", BoundaryTest::bestZero);
        test(7, "the greatest sum: as great as can be", BoundaryTest::bestMost);
        test(7, "the greatest sum: of the first or last labelling", BoundaryTest::bestAtTheEnds);
        test(8, "the first with the greatest sum", BoundaryTest::labelOfFirst);
        test(8, "NONE if there is none", BoundaryTest::labelNone);
        test(8, "BAD for i outside 0..n-1", BoundaryTest::labelPositionOutside);
        test(9, "0 if there is none", BoundaryTest::bestCountNone);
        test(9, "the number with the greatest sum: one alone", BoundaryTest::bestCountOne);
        test(9, "the number with the greatest sum: all", BoundaryTest::bestCountAll);
    }

    private static void promises10And11() {
        test(10, "each as often as it comes", BoundaryTest::rankedEquals);
        test(10, "number k of this list, from 0", BoundaryTest::rankedFirstAndLast);
        test(10, "BAD for k outside 0..7", BoundaryTest::rankedOutside);
        test(10, "NONE if the list has no number k", BoundaryTest::rankedBehindTheList);
        test(10, "NONE if the list has no number k: not for a sum of 0", BoundaryTest::rankedZero);
        test(11, "NONE if there is none: no labelling at all", BoundaryTest::bestThroughNone);
        test(11, "NONE if there is none: the label is barred", BoundaryTest::bestThroughBarredLabel);
        test(11, "NONE if there is none: no neighbour is left", BoundaryTest::bestThroughDeadEnd);
        test(11, "NONE if there is none: not for a sum of 0", BoundaryTest::bestThroughZero);
        test(11, "the greatest sum: as great as can be", BoundaryTest::bestThroughMost);
        test(11, "BAD for i outside 0..n-1", BoundaryTest::bestThroughPositionOutside);
        test(11, "BAD for a outside 0..2", BoundaryTest::bestThroughLabelOutside);
    }

    private static void promises12To14() {
        test(12, "all allowed labellings: none", BoundaryTest::totalNone);
        test(12, "all allowed labellings: one alone", BoundaryTest::totalOne);
        test(12, "the sum of the products: products of 0", BoundaryTest::totalZero);
        test(12, "the sum of the products: as great as can be", BoundaryTest::totalMost);
        test(13, "0 for i outside 0..n-1", BoundaryTest::throughPositionOutside);
        test(13, "0 for a outside 0..2", BoundaryTest::throughLabelOutside);
        test(13, "the allowed labellings with a at i: none", BoundaryTest::throughNone);
        test(13, "the sum of the products: as great as can be", BoundaryTest::throughMost);
        test(14, "a at i and b at i + 1; couple is 3 * a + b", BoundaryTest::throughCoupleNumber);
        test(14, "0 for i outside 0..n-2", BoundaryTest::throughCouplePositionOutside);
        test(14, "0 for i outside 0..n-2: one position", BoundaryTest::throughCoupleOnePosition);
        test(14, "0 for couple outside 0..8", BoundaryTest::throughCoupleCoupleOutside);
        test(14, "the allowed labellings with the couple: none", BoundaryTest::throughCoupleNone);
        test(14, "the sum of the products: as great as can be", BoundaryTest::throughCoupleMost);
    }

    private static void promise15() {
        test(15, "label: BAD is tested before NONE", BoundaryTest::labelBadBeforeNone);
        test(15, "ranked: BAD is tested before NONE", BoundaryTest::rankedBadBeforeNone);
        test(15, "bestThrough: BAD is tested before NONE, i", BoundaryTest::bestThroughBadPositionBeforeNone);
        test(15, "bestThrough: BAD is tested before NONE, a", BoundaryTest::bestThroughBadLabelBeforeNone);
        test(15, "refused, changes nothing: weigh, i and a", BoundaryTest::refusedWeighPlace);
        test(15, "refused, changes nothing: weigh, weight", BoundaryTest::refusedWeighWeight);
        test(15, "refused, changes nothing: weighCouple, a and b", BoundaryTest::refusedWeighCoupleLabels);
        test(15, "refused, changes nothing: weighCouple, weight", BoundaryTest::refusedWeighCoupleWeight);
        test(15, "refused, changes nothing: bar", BoundaryTest::refusedBar);
        test(15, "refused, changes nothing: barCouple", BoundaryTest::refusedBarCouple);
        test(15, "refused, changes nothing: label", BoundaryTest::refusedLabel);
        test(15, "refused, changes nothing: ranked", BoundaryTest::refusedRanked);
        test(15, "refused, changes nothing: bestThrough", BoundaryTest::refusedBestThrough);
        test(15, "refused, changes nothing: through", BoundaryTest::refusedThrough);
        test(15, "refused, changes nothing: throughCouple", BoundaryTest::refusedThroughCouple);
        test(15, "no limit is reached within 512 calls", BoundaryTest::lastCall);
    }

    /** A call that throws is told as a wrong answer, so that the tests behind it still run. */
    private static void test(int promise, String words, Runnable body) {
        sentence = "promise " + promise + ", " + words;
        tests++;
        try {
            body.run();
        } catch (RuntimeException thrown) {
            wrong++;
            System.out.println(sentence + ": a call threw " + thrown);
        }
    }

    private static void due(String call, long got, long want) {
        if (got != want) {
            wrong++;
            System.out.println(sentence + ": " + call + " answered " + got + ", due is " + want);
        }
    }

    private static void due(String call, boolean got, boolean want) {
        due(call, got ? 1L : 0L, want ? 1L : 0L);
    }

    // ---- Numbers and chains that several tests use

    /** The nearest come first: a class that does not look at them may count long at the farthest. */
    private static int[] outside(int most) {
        return new int[] {-1, most + 1, -2, most + 2, -3, most + 3,
            WRAPS_FROM_BELOW, WRAPS_FROM_ABOVE, LOWEST + 1, HIGHEST - 1, LOWEST, HIGHEST};
    }

    private static void barCouples(LabelChain x, int from, int to) {
        for (int couple = from; couple <= to; couple++) {
            x.barCouple(couple / 3, couple % 3, true);
        }
    }

    private static LabelChain weighed(int n, int weight) {
        LabelChain x = new LabelChain(n);
        for (int place = 0; place < 3 * n; place++) {
            x.weigh(place / 3, place % 3, weight);
        }
        for (int couple = 0; couple < 9; couple++) {
            x.weighCouple(couple / 3, couple % 3, weight);
        }
        return x;
    }

    /** Leaves to every position the one label that is given for it. */
    private static LabelChain allowOnly(LabelChain x, int... labels) {
        for (int i = 0; i < labels.length; i++) {
            for (int a = 0; a < 3; a++) {
                x.bar(i, a, a != labels[i]);
            }
        }
        return x;
    }

    private static LabelChain onlyLabelling(int... labels) {
        return allowOnly(new LabelChain(labels.length), labels);
    }

    /** Chains of n positions, each in another way without an allowed labelling. */
    private static List<LabelChain> emptyChains(int n) {
        List<LabelChain> chains = new ArrayList<>();
        for (int i = 0; i < n; i++) {
            LabelChain x = new LabelChain(n);
            for (int a = 0; a < 3; a++) {
                x.bar(i, a, true);
            }
            chains.add(x);
        }
        if (n > 1) {
            LabelChain coupleless = new LabelChain(n);
            barCouples(coupleless, 0, 8);
            chains.add(coupleless);
            // Neither the bars of positions nor those of couples alone would do.
            LabelChain deadEnd = new LabelChain(n);
            deadEnd.bar(n - 2, 0, true);
            deadEnd.bar(n - 2, 1, true);
            barCouples(deadEnd, 6, 8);
            chains.add(deadEnd);
        }
        return chains;
    }

    /** Two positions whose nine sums are 1 to 9, in the order of the labellings. */
    private static LabelChain nineSums() {
        LabelChain x = new LabelChain(2);
        for (int a = 0; a < 3; a++) {
            x.weigh(0, a, 3 * a);
            x.weigh(1, a, a);
        }
        return x;
    }

    private static void firstLabelling(String when, LabelChain x, int... labels) {
        for (int i = 0; i < labels.length; i++) {
            due(when + ", label(" + i + ")", x.label(i), labels[i]);
        }
    }

    /** No weight is 0, 1 or 9, so that a weight that gets lost or is set by a refused call is seen. */
    private static LabelChain someChain(int n) {
        LabelChain x = new LabelChain(n);
        for (int place = 0; place < 3 * n; place++) {
            x.weigh(place / 3, place % 3, 2 + place * 5 % 7);
        }
        for (int couple = 0; couple < 9; couple++) {
            x.weighCouple(couple / 3, couple % 3, 2 + couple * 4 % 7);
        }
        return x;
    }

    private static LabelChain someBarredChain(int n) {
        LabelChain x = someChain(n);
        x.bar(n - 1, 1, true);
        x.barCouple(2, 1, true);
        x.barCouple(0, 0, true);
        return x;
    }

    private static List<Long> answers(LabelChain x, int n) {
        List<Long> all = new ArrayList<>(List.of((long) x.allowed(), (long) x.best(), (long) x.bestCount(), x.total()));
        for (int i = 0; i < n; i++) {
            all.add((long) x.label(i));
            for (int a = 0; a < 3; a++) {
                all.add((long) x.bestThrough(i, a));
                all.add(x.through(i, a));
            }
            for (int couple = 0; couple < 9; couple++) {
                all.add(x.throughCouple(i, couple));
            }
        }
        for (int k = 0; k < 8; k++) {
            all.add((long) x.ranked(k));
        }
        return all;
    }

    /** Compares with a barred chain that was left alone; then without bars, to see the weights behind them. */
    private static void unchanged(LabelChain x, int n) {
        sameAnswers(n + " positions", answers(x, n), answers(someBarredChain(n), n));
        for (int place = 0; place < 3 * n; place++) {
            x.bar(place / 3, place % 3, false);
        }
        for (int couple = 0; couple < 9; couple++) {
            x.barCouple(couple / 3, couple % 3, false);
        }
        sameAnswers(n + " positions without bars", answers(x, n), answers(someChain(n), n));
    }

    private static void sameAnswers(String when, List<Long> got, List<Long> want) {
        for (int at = 0; at < want.size(); at++) {
            due(when + ", question " + at, got.get(at), want.get(at));
        }
    }

    // ---- Terms

    private static void positionsFromZero() {
        for (int n = 1; n <= 6; n++) {
            LabelChain x = new LabelChain(n);
            due(n + ": first position", x.bar(0, 0, true), true);
            due(n + ": last position", x.bar(n - 1, 0, true), true);
            due(n + ": before the first", x.bar(-1, 0, true), false);
            due(n + ": behind the last", x.bar(n, 0, true), false);
            due(n + ": allowed", x.allowed(), n == 1 ? 2 : 4 * POWERS[n - 2]);
        }
    }

    private static void threeLabels() {
        LabelChain x = new LabelChain(1);
        for (int a = 0; a < 3; a++) {
            due("through(0, " + a + ")", x.through(0, a), 1);
        }
        due("total", x.total(), 3);
    }

    private static void labelWeights() {
        LabelChain x = new LabelChain(6);
        for (int place = 0; place < 18; place++) {
            for (int weight = 0; weight <= 9; weight++) {
                due("weigh " + place + ", " + weight, x.weigh(place / 3, place % 3, weight), true);
            }
            due("through " + place, x.through(place / 3, place % 3), 9 * 243);
            x.weigh(place / 3, place % 3, 1);
        }
    }

    private static void coupleWeights() {
        LabelChain x = new LabelChain(2);
        for (int couple = 0; couple < 9; couple++) {
            for (int weight = 0; weight <= 9; weight++) {
                due("weighCouple " + couple + ", " + weight, x.weighCouple(couple / 3, couple % 3, weight), true);
            }
            due("throughCouple " + couple, x.throughCouple(0, couple), 9);
            x.weighCouple(couple / 3, couple % 3, 1);
        }
    }

    private static void barredLabelAnywhere() {
        for (int place = 0; place < 18; place++) {
            LabelChain x = new LabelChain(6);
            x.bar(place / 3, place % 3, true);
            due("allowed without " + place, x.allowed(), 2 * 243);
        }
    }

    private static void barredCoupleAnywhere() {
        for (int i = 0; i < 5; i++) {
            int[] labels = {0, 0, 0, 0, 0, 0};
            labels[i] = 1;
            labels[i + 1] = 2;
            LabelChain x = onlyLabelling(labels);
            due("before the bar, at " + i, x.allowed(), 1);
            x.barCouple(1, 2, true);
            due("after the bar, at " + i, x.allowed(), 0);
        }
    }

    private static void earlierFirst() {
        LabelChain x = onlyLabelling(0, 1);
        x.barCouple(1, 0, true);
        due("0 1 with (1, 0) barred", x.allowed(), 1);
        x.barCouple(0, 1, true);
        due("0 1 with (0, 1) barred", x.allowed(), 0);
    }

    private static void noWrapAround() {
        LabelChain x = onlyLabelling(0, 1, 2);
        x.barCouple(0, 2, true);
        due("0 1 2 with (0, 2) barred", x.allowed(), 1);
        x.barCouple(2, 0, true);
        due("0 1 2 with (2, 0) barred", x.allowed(), 1);
        x.weighCouple(0, 2, 9);
        x.weighCouple(2, 0, 9);
        due("sum of 0 1 2", x.best(), 5);
        due("product of 0 1 2", x.total(), 1);
    }

    private static void everyWeightCountsOnce() {
        LabelChain x = allowOnly(weighed(6, 2), 0, 1, 2, 0, 1, 2);
        due("sum", x.best(), 22);
        due("product", x.total(), 2048);
        for (int i = 0; i < 6; i++) {
            x.weigh(i, i % 3, 5);
            due("sum with 5 at " + i, x.best(), 25);
            due("product with 5 at " + i, x.total(), 5 * 1024);
            x.weigh(i, i % 3, 2);
        }
        // (0, 1) and (1, 2) stand twice in it, (2, 0) once.
        int[] sums = {30, 30, 26};
        int[] products = {9 * 2048, 9 * 2048, 3 * 2048};
        for (int a = 0; a < 3; a++) {
            int b = (a + 1) % 3;
            x.weighCouple(a, b, 6);
            due("sum with 6 behind " + a, x.best(), sums[a]);
            due("product with 6 behind " + a, x.total(), products[a]);
            x.weighCouple(a, b, 2);
        }
    }

    private static void onePositionHasNoCouple() {
        LabelChain x = new LabelChain(1);
        for (int couple = 0; couple < 9; couple++) {
            x.weighCouple(couple / 3, couple % 3, 9);
        }
        due("best", x.best(), 1);
        due("total", x.total(), 3);
        barCouples(x, 0, 8);
        due("allowed", x.allowed(), 3);
    }

    private static void order() {
        LabelChain x = new LabelChain(6);
        firstLabelling("all equal", x, 0, 0, 0, 0, 0, 0);
        x.barCouple(0, 0, true);
        firstLabelling("(0, 0) barred", x, 0, 1, 0, 1, 0, 1);
        x.barCouple(0, 1, true);
        firstLabelling("(0, 1) barred", x, 0, 2, 0, 2, 0, 2);
        x.bar(0, 0, true);
        firstLabelling("0 barred at 0", x, 1, 0, 2, 0, 2, 0);
        x.bar(5, 0, true);
        firstLabelling("0 barred at 5", x, 1, 0, 2, 0, 2, 1);
        x.bar(0, 1, true);
        firstLabelling("1 barred at 0", x, 2, 0, 2, 0, 2, 1);
    }

    // ---- Promise 1

    private static void hasPositions(int positions, int n) {
        LabelChain x = new LabelChain(positions);
        String made = "new " + positions + ": ";
        due(made + "allowed", x.allowed(), POWERS[n]);
        due(made + "label(n-1)", x.label(n - 1), 0);
        due(made + "label(n)", x.label(n), BAD);
        due(made + "weigh(n-1)", x.weigh(n - 1, 0, 1), true);
        due(made + "weigh(n)", x.weigh(n, 0, 1), false);
    }

    private static void tooFewPositions() {
        for (int positions : new int[] {0, -1, -2, -6, WRAPS_FROM_BELOW, LOWEST + 1, LOWEST}) {
            hasPositions(positions, 1);
        }
    }

    // A number cut down to a byte or a short would have 3 positions.
    private static void tooManyPositions() {
        for (int positions : new int[] {7, 8, 12, 256 + 3, 65536 + 3, WRAPS_FROM_ABOVE, HIGHEST - 1, HIGHEST}) {
            hasPositions(positions, 6);
        }
    }

    private static void keptPositions() {
        for (int positions = 1; positions <= 6; positions++) {
            hasPositions(positions, positions);
        }
    }

    private static void newWeights() {
        for (int n = 1; n <= 6; n++) {
            LabelChain x = new LabelChain(n);
            for (int place = 0; place < 3 * n; place++) {
                due(n + ": bestThrough " + place, x.bestThrough(place / 3, place % 3), 2 * n - 1);
                due(n + ": through " + place, x.through(place / 3, place % 3), POWERS[n - 1]);
            }
            for (int place = 0; place < 9 * (n - 1); place++) {
                due(n + ": throughCouple " + place, x.throughCouple(place / 9, place % 9), POWERS[n - 2]);
            }
            due(n + ": bestCount", x.bestCount(), POWERS[n]);
        }
    }

    private static void newBars() {
        for (int n = 1; n <= 6; n++) {
            due("allowed of " + n, new LabelChain(n).allowed(), POWERS[n]);
        }
    }

    // ---- Promise 2

    private static void weighPositionOutside() {
        for (int n = 1; n <= 6; n++) {
            for (int i : outside(n - 1)) {
                for (int a = 0; a < 3; a++) {
                    due(n + ": weigh(" + i + ", " + a + ", 5)", new LabelChain(n).weigh(i, a, 5), false);
                }
            }
        }
    }

    private static void weighLabelOutside() {
        for (int a : outside(2)) {
            for (int i = 0; i < 6; i++) {
                due("weigh(" + i + ", " + a + ", 5)", new LabelChain(6).weigh(i, a, 5), false);
            }
        }
    }

    private static void weighWeightOutside() {
        for (int weight : outside(9)) {
            for (int place = 0; place < 18; place++) {
                due("weigh " + place + ", " + weight, new LabelChain(6).weigh(place / 3, place % 3, weight), false);
            }
        }
    }

    private static void weighSeveralOutside() {
        due("weigh(-1, 3, 5)", new LabelChain(3).weigh(-1, 3, 5), false);
        due("weigh(3, -3, 5)", new LabelChain(3).weigh(3, -3, 5), false);
        due("weigh(-1, 0, -1)", new LabelChain(3).weigh(-1, 0, -1), false);
        due("weigh(0, 3, 10)", new LabelChain(3).weigh(0, 3, 10), false);
        due("weigh(3, 3, 10)", new LabelChain(3).weigh(3, 3, 10), false);
    }

    private static void weighInside() {
        for (int n = 1; n <= 6; n++) {
            LabelChain x = new LabelChain(n);
            for (int place = 0; place < 3 * n; place++) {
                for (int weight = 0; weight <= 9; weight += 9) {
                    String call = n + ": weigh " + place + ", " + weight;
                    due(call, x.weigh(place / 3, place % 3, weight), true);
                    due(call + " again", x.weigh(place / 3, place % 3, weight), true);
                    due(call + " through", x.through(place / 3, place % 3), (long) weight * POWERS[n - 1]);
                    due(call + " total", x.total(), (long) (weight + 2) * POWERS[n - 1]);
                }
                x.weigh(place / 3, place % 3, 1);
            }
        }
    }

    // ---- Promise 3

    private static void weighCoupleFirstOutside() {
        for (int a : outside(2)) {
            for (int b = 0; b < 3; b++) {
                due("weighCouple(" + a + ", " + b + ", 5)", new LabelChain(6).weighCouple(a, b, 5), false);
            }
        }
    }

    private static void weighCoupleSecondOutside() {
        for (int b : outside(2)) {
            for (int a = 0; a < 3; a++) {
                due("weighCouple(" + a + ", " + b + ", 5)", new LabelChain(6).weighCouple(a, b, 5), false);
            }
        }
    }

    private static void weighCoupleWeightOutside() {
        for (int weight : outside(9)) {
            for (int couple = 0; couple < 9; couple++) {
                boolean got = new LabelChain(6).weighCouple(couple / 3, couple % 3, weight);
                due("weighCouple " + couple + ", " + weight, got, false);
            }
        }
    }

    private static void weighCoupleSeveralOutside() {
        due("weighCouple(-1, 3, 5)", new LabelChain(3).weighCouple(-1, 3, 5), false);
        due("weighCouple(3, -3, 5)", new LabelChain(3).weighCouple(3, -3, 5), false);
        due("weighCouple(-1, 0, 10)", new LabelChain(3).weighCouple(-1, 0, 10), false);
        due("weighCouple(0, 3, -1)", new LabelChain(3).weighCouple(0, 3, -1), false);
    }

    private static void weighCoupleInside() {
        for (int couple = 0; couple < 9; couple++) {
            LabelChain x = new LabelChain(2);
            for (int weight = 0; weight <= 9; weight += 9) {
                String call = "weighCouple " + couple + ", " + weight;
                due(call, x.weighCouple(couple / 3, couple % 3, weight), true);
                due(call + " again", x.weighCouple(couple / 3, couple % 3, weight), true);
                due(call + " throughCouple", x.throughCouple(0, couple), weight);
                due(call + " total", x.total(), weight + 8);
            }
            due("one position, " + couple, new LabelChain(1).weighCouple(couple / 3, couple % 3, 9), true);
        }
    }

    // ---- Promise 4

    private static void barPositionOutside() {
        for (int n = 1; n <= 6; n++) {
            for (int i : outside(n - 1)) {
                for (int a = 0; a < 3; a++) {
                    due(n + ": bar(" + i + ", " + a + ", true)", new LabelChain(n).bar(i, a, true), false);
                    due(n + ": bar(" + i + ", " + a + ", false)", new LabelChain(n).bar(i, a, false), false);
                }
            }
        }
    }

    private static void barLabelOutside() {
        for (int a : outside(2)) {
            for (int i = 0; i < 6; i++) {
                due("bar(" + i + ", " + a + ", true)", new LabelChain(6).bar(i, a, true), false);
                due("bar(" + i + ", " + a + ", false)", new LabelChain(6).bar(i, a, false), false);
            }
        }
    }

    private static void barBothOutside() {
        due("bar(-1, 3, true)", new LabelChain(3).bar(-1, 3, true), false);
        due("bar(3, -3, true)", new LabelChain(3).bar(3, -3, true), false);
        due("bar(-1, 3, false)", new LabelChain(3).bar(-1, 3, false), false);
        due("bar(3, -3, false)", new LabelChain(3).bar(3, -3, false), false);
    }

    private static void barInside() {
        for (int n = 1; n <= 6; n++) {
            LabelChain x = new LabelChain(n);
            for (int place = 0; place < 3 * n; place++) {
                String call = n + ": place " + place;
                due(call + " allow what is allowed", x.bar(place / 3, place % 3, false), true);
                due(call + " allowed before", x.allowed(), POWERS[n]);
                due(call + " bar", x.bar(place / 3, place % 3, true), true);
                due(call + " bar what is barred", x.bar(place / 3, place % 3, true), true);
                due(call + " barred", x.allowed(), 2 * POWERS[n - 1]);
                due(call + " through", x.through(place / 3, place % 3), 0);
                due(call + " allow", x.bar(place / 3, place % 3, false), true);
                due(call + " allowed after", x.allowed(), POWERS[n]);
            }
        }
    }

    // ---- Promise 5

    private static void barCoupleFirstOutside() {
        for (int a : outside(2)) {
            for (int b = 0; b < 3; b++) {
                due("barCouple(" + a + ", " + b + ", true)", new LabelChain(6).barCouple(a, b, true), false);
                due("barCouple(" + a + ", " + b + ", false)", new LabelChain(6).barCouple(a, b, false), false);
            }
        }
    }

    private static void barCoupleSecondOutside() {
        for (int b : outside(2)) {
            for (int a = 0; a < 3; a++) {
                due("barCouple(" + a + ", " + b + ", true)", new LabelChain(6).barCouple(a, b, true), false);
                due("barCouple(" + a + ", " + b + ", false)", new LabelChain(6).barCouple(a, b, false), false);
            }
        }
    }

    private static void barCoupleBothOutside() {
        due("barCouple(-1, 3, true)", new LabelChain(3).barCouple(-1, 3, true), false);
        due("barCouple(3, -3, true)", new LabelChain(3).barCouple(3, -3, true), false);
        due("barCouple(-1, 3, false)", new LabelChain(3).barCouple(-1, 3, false), false);
        due("barCouple(3, -3, false)", new LabelChain(3).barCouple(3, -3, false), false);
    }

    private static void barCoupleInside() {
        LabelChain x = new LabelChain(2);
        for (int couple = 0; couple < 9; couple++) {
            String call = "couple " + couple;
            due(call + " allow what is allowed", x.barCouple(couple / 3, couple % 3, false), true);
            due(call + " allowed before", x.allowed(), 9);
            due(call + " bar", x.barCouple(couple / 3, couple % 3, true), true);
            due(call + " bar what is barred", x.barCouple(couple / 3, couple % 3, true), true);
            due(call + " barred", x.allowed(), 8);
            due(call + " throughCouple", x.throughCouple(0, couple), 0);
            due(call + " allow", x.barCouple(couple / 3, couple % 3, false), true);
            due(call + " allowed after", x.allowed(), 9);
            due("one position, " + couple, new LabelChain(1).barCouple(couple / 3, couple % 3, true), true);
        }
    }

    // ---- Promise 6

    private static void allowedNone() {
        for (int n = 1; n <= 6; n++) {
            for (LabelChain x : emptyChains(n)) {
                due("allowed of " + n, x.allowed(), 0);
            }
        }
    }

    private static void allowedOne() {
        due("000000", onlyLabelling(0, 0, 0, 0, 0, 0).allowed(), 1);
        due("201201", onlyLabelling(2, 0, 1, 2, 0, 1).allowed(), 1);
        due("222222", onlyLabelling(2, 2, 2, 2, 2, 2).allowed(), 1);
    }

    private static void allowedAll() {
        for (int n = 1; n <= 6; n++) {
            due("weights of 0, " + n, weighed(n, 0).allowed(), POWERS[n]);
            due("weights of 9, " + n, weighed(n, 9).allowed(), POWERS[n]);
        }
    }

    // ---- Promise 7

    private static void bestNone() {
        for (int n = 1; n <= 6; n++) {
            for (LabelChain x : emptyChains(n)) {
                due("best of " + n, x.best(), NONE);
            }
        }
    }

    private static void bestZero() {
        for (int n = 1; n <= 6; n++) {
            due("best of " + n, weighed(n, 0).best(), 0);
        }
    }

    private static void bestMost() {
        for (int n = 1; n <= 6; n++) {
            due("best of " + n, weighed(n, 9).best(), 9 * (2 * n - 1));
        }
    }

    private static void bestAtTheEnds() {
        for (int a = 0; a < 3; a += 2) {
            LabelChain x = new LabelChain(6);
            x.weighCouple(a, a, 2);
            due("all labels " + a, x.best(), 16);
            x.barCouple(a, a, true);
            due("all labels " + a + " barred", x.best(), 11);
        }
    }

    // ---- Promise 8

    private static void labelOfFirst() {
        for (int first = 0; first < 9; first++) {
            LabelChain x = new LabelChain(2);
            for (int couple = first; couple < 9; couple++) {
                x.weighCouple(couple / 3, couple % 3, 2);
            }
            firstLabelling("greatest from " + first + " on", x, first / 3, first % 3);
            x.barCouple(first / 3, first % 3, true);
            int next = first == 8 ? 0 : first + 1;
            firstLabelling("greatest behind " + first, x, next / 3, next % 3);
        }
        firstLabelling("all sums 0", weighed(3, 0), 0, 0, 0);
    }

    private static void labelNone() {
        for (int n = 1; n <= 6; n++) {
            for (LabelChain x : emptyChains(n)) {
                for (int i = 0; i < n; i++) {
                    due(n + ": label(" + i + ")", x.label(i), NONE);
                }
            }
        }
    }

    private static void labelPositionOutside() {
        for (int n = 1; n <= 6; n++) {
            LabelChain x = new LabelChain(n);
            for (int i : outside(n - 1)) {
                due(n + ": label(" + i + ")", x.label(i), BAD);
            }
            due(n + ": label(0)", x.label(0), 0);
            due(n + ": label(n-1)", x.label(n - 1), 0);
        }
    }

    // ---- Promise 9

    private static void bestCountNone() {
        for (int n = 1; n <= 6; n++) {
            for (LabelChain x : emptyChains(n)) {
                due("bestCount of " + n, x.bestCount(), 0);
            }
        }
    }

    private static void bestCountOne() {
        for (int only = 0; only < 9; only++) {
            LabelChain x = new LabelChain(2);
            x.weighCouple(only / 3, only % 3, 2);
            due("bestCount with " + only, x.bestCount(), 1);
        }
    }

    private static void bestCountAll() {
        for (int n = 1; n <= 6; n++) {
            due("sums as great as can be, " + n, weighed(n, 9).bestCount(), POWERS[n]);
            due("sums of 0, " + n, weighed(n, 0).bestCount(), POWERS[n]);
        }
    }

    // ---- Promise 10

    private static void rankedEquals() {
        for (int many = 0; many <= 9; many++) {
            LabelChain x = new LabelChain(2);
            for (int couple = 0; couple < many; couple++) {
                x.weighCouple(couple / 3, couple % 3, 2);
            }
            for (int k = 0; k < 8; k++) {
                due(many + " sums of 4, ranked(" + k + ")", x.ranked(k), k < many ? 4 : 3);
            }
        }
    }

    private static void rankedFirstAndLast() {
        due("ranked(0)", nineSums().ranked(0), 9);
        due("ranked(1)", nineSums().ranked(1), 8);
        due("ranked(6)", nineSums().ranked(6), 3);
        due("ranked(7)", nineSums().ranked(7), 2);
    }

    private static void rankedOutside() {
        for (int k : outside(7)) {
            due("729 sums, ranked(" + k + ")", new LabelChain(6).ranked(k), BAD);
            due("9 sums, ranked(" + k + ")", nineSums().ranked(k), BAD);
            due("3 sums, ranked(" + k + ")", new LabelChain(1).ranked(k), BAD);
        }
    }

    private static void rankedBehindTheList() {
        LabelChain different = nineSums();
        LabelChain equal = new LabelChain(2);
        for (int barred = 0; barred <= 9; barred++) {
            int length = 9 - barred;
            for (int k = 0; k < 8; k++) {
                String call = length + " sums, ranked(" + k + ")";
                due(call, different.ranked(k), k < length ? 9 - k : NONE);
                due(call + " of equals", equal.ranked(k), k < length ? 3 : NONE);
            }
            // The lowest sums go first. Behind the last couple there is none to bar.
            if (barred < 9) {
                barCouples(different, barred, barred);
                barCouples(equal, barred, barred);
            }
        }
    }

    private static void rankedZero() {
        LabelChain x = weighed(1, 0);
        for (int k = 0; k < 8; k++) {
            due("3 sums of 0, ranked(" + k + ")", x.ranked(k), k < 3 ? 0 : NONE);
        }
    }

    // ---- Promise 11

    private static void bestThroughNone() {
        for (int n = 1; n <= 6; n++) {
            for (LabelChain x : emptyChains(n)) {
                for (int place = 0; place < 3 * n; place++) {
                    due(n + ": bestThrough " + place, x.bestThrough(place / 3, place % 3), NONE);
                }
            }
        }
    }

    private static void bestThroughBarredLabel() {
        for (int place = 0; place < 18; place++) {
            LabelChain x = new LabelChain(6);
            x.bar(place / 3, place % 3, true);
            for (int other = 0; other < 18; other++) {
                int got = x.bestThrough(other / 3, other % 3);
                due(place + " barred, bestThrough " + other, got, other == place ? NONE : 11);
            }
        }
    }

    private static void bestThroughDeadEnd() {
        LabelChain behind = new LabelChain(3);
        barCouples(behind, 6, 8);
        due("nothing behind 2, at 0", behind.bestThrough(0, 2), NONE);
        due("nothing behind 2, at 1", behind.bestThrough(1, 2), NONE);
        due("nothing behind 2, at 2", behind.bestThrough(2, 2), 5);
        LabelChain before = new LabelChain(3);
        for (int a = 0; a < 3; a++) {
            before.barCouple(a, 1, true);
        }
        due("nothing before 1, at 0", before.bestThrough(0, 1), 5);
        due("nothing before 1, at 1", before.bestThrough(1, 1), NONE);
        due("nothing before 1, at 2", before.bestThrough(2, 1), NONE);
    }

    private static void bestThroughZero() {
        LabelChain x = weighed(6, 0);
        for (int place = 0; place < 18; place++) {
            due("bestThrough " + place, x.bestThrough(place / 3, place % 3), 0);
        }
    }

    private static void bestThroughMost() {
        LabelChain x = weighed(6, 9);
        for (int place = 0; place < 18; place++) {
            due("bestThrough " + place, x.bestThrough(place / 3, place % 3), 99);
        }
    }

    private static void bestThroughPositionOutside() {
        for (int n = 1; n <= 6; n++) {
            LabelChain x = new LabelChain(n);
            for (int i : outside(n - 1)) {
                for (int a = 0; a < 3; a++) {
                    due(n + ": bestThrough(" + i + ", " + a + ")", x.bestThrough(i, a), BAD);
                }
            }
        }
    }

    private static void bestThroughLabelOutside() {
        LabelChain x = new LabelChain(6);
        for (int a : outside(2)) {
            for (int i = -1; i <= 6; i++) {
                due("bestThrough(" + i + ", " + a + ")", x.bestThrough(i, a), BAD);
            }
        }
    }

    // ---- Promise 12

    private static void totalNone() {
        for (int n = 1; n <= 6; n++) {
            for (LabelChain x : emptyChains(n)) {
                due("total of " + n, x.total(), 0);
            }
        }
    }

    private static void totalOne() {
        LabelChain x = onlyLabelling(2, 1);
        x.weigh(0, 2, 3);
        x.weigh(1, 1, 5);
        x.weighCouple(2, 1, 7);
        due("total", x.total(), 105);
        due("000000", onlyLabelling(0, 0, 0, 0, 0, 0).total(), 1);
        due("222222", onlyLabelling(2, 2, 2, 2, 2, 2).total(), 1);
    }

    private static void totalZero() {
        for (int place = 0; place < 18; place++) {
            LabelChain x = new LabelChain(6);
            x.weigh(place / 3, place % 3, 0);
            due("total without " + place, x.total(), 2 * 243);
        }
        due("all weights 0", weighed(6, 0).total(), 0);
    }

    private static void totalMost() {
        due("all", weighed(6, 9).total(), 729 * GREATEST_PRODUCT);
        due("the last alone", allowOnly(weighed(6, 9), 2, 2, 2, 2, 2, 2).total(), GREATEST_PRODUCT);
    }

    // ---- Promise 13

    private static void throughPositionOutside() {
        for (int n = 1; n <= 6; n++) {
            LabelChain x = new LabelChain(n);
            for (int i : outside(n - 1)) {
                for (int a = 0; a < 3; a++) {
                    due(n + ": through(" + i + ", " + a + ")", x.through(i, a), 0);
                }
            }
            due(n + ": through(0, 0)", x.through(0, 0), POWERS[n - 1]);
            due(n + ": through(n-1, 2)", x.through(n - 1, 2), POWERS[n - 1]);
        }
    }

    private static void throughLabelOutside() {
        LabelChain x = new LabelChain(6);
        for (int a : outside(2)) {
            for (int i = -1; i <= 6; i++) {
                due("through(" + i + ", " + a + ")", x.through(i, a), 0);
            }
        }
    }

    private static void throughNone() {
        for (int n = 1; n <= 6; n++) {
            for (LabelChain x : emptyChains(n)) {
                for (int place = 0; place < 3 * n; place++) {
                    due(n + ": through " + place, x.through(place / 3, place % 3), 0);
                }
            }
        }
        for (int place = 0; place < 18; place++) {
            LabelChain x = new LabelChain(6);
            x.bar(place / 3, place % 3, true);
            due("through barred " + place, x.through(place / 3, place % 3), 0);
        }
    }

    private static void throughMost() {
        LabelChain x = weighed(6, 9);
        for (int place = 0; place < 18; place++) {
            due("through " + place, x.through(place / 3, place % 3), 243 * GREATEST_PRODUCT);
        }
    }

    // ---- Promise 14

    private static void throughCoupleNumber() {
        for (int couple = 0; couple < 9; couple++) {
            LabelChain x = onlyLabelling(couple / 3, couple % 3);
            for (int asked = 0; asked < 9; asked++) {
                due(couple + " alone, throughCouple " + asked, x.throughCouple(0, asked), asked == couple ? 1 : 0);
            }
        }
    }

    private static void throughCouplePositionOutside() {
        for (int n = 1; n <= 6; n++) {
            LabelChain x = new LabelChain(n);
            for (int i : outside(n - 2)) {
                for (int couple = 0; couple < 9; couple++) {
                    due(n + ": throughCouple(" + i + ", " + couple + ")", x.throughCouple(i, couple), 0);
                }
            }
            for (int i = 0; i <= n - 2; i++) {
                due(n + ": throughCouple(" + i + ", 0)", x.throughCouple(i, 0), POWERS[n - 2]);
            }
        }
    }

    private static void throughCoupleOnePosition() {
        LabelChain x = new LabelChain(1);
        for (int couple = 0; couple < 9; couple++) {
            due("throughCouple(-1, " + couple + ")", x.throughCouple(-1, couple), 0);
            due("throughCouple(0, " + couple + ")", x.throughCouple(0, couple), 0);
            due("throughCouple(1, " + couple + ")", x.throughCouple(1, couple), 0);
        }
    }

    private static void throughCoupleCoupleOutside() {
        LabelChain x = new LabelChain(6);
        for (int couple : outside(8)) {
            for (int i = -1; i <= 6; i++) {
                due("throughCouple(" + i + ", " + couple + ")", x.throughCouple(i, couple), 0);
            }
        }
        due("throughCouple(4, 0)", x.throughCouple(4, 0), 81);
        due("throughCouple(4, 8)", x.throughCouple(4, 8), 81);
    }

    private static void throughCoupleNone() {
        for (int n = 2; n <= 6; n++) {
            for (LabelChain x : emptyChains(n)) {
                for (int place = 0; place < 9 * (n - 1); place++) {
                    due(n + ": throughCouple " + place, x.throughCouple(place / 9, place % 9), 0);
                }
            }
        }
    }

    private static void throughCoupleMost() {
        LabelChain x = weighed(6, 9);
        for (int place = 0; place < 45; place++) {
            due("throughCouple " + place, x.throughCouple(place / 9, place % 9), 81 * GREATEST_PRODUCT);
        }
    }

    // ---- Promise 15

    private static void labelBadBeforeNone() {
        for (int n = 1; n <= 6; n++) {
            for (LabelChain x : emptyChains(n)) {
                for (int i : outside(n - 1)) {
                    due(n + ": label(" + i + ")", x.label(i), BAD);
                }
            }
        }
    }

    private static void rankedBadBeforeNone() {
        for (int n = 1; n <= 6; n++) {
            for (LabelChain x : emptyChains(n)) {
                for (int k : outside(7)) {
                    due(n + ": ranked(" + k + ")", x.ranked(k), BAD);
                }
                due(n + ": ranked(0)", x.ranked(0), NONE);
                due(n + ": ranked(7)", x.ranked(7), NONE);
            }
        }
    }

    private static void bestThroughBadPositionBeforeNone() {
        for (int n = 1; n <= 6; n++) {
            for (LabelChain x : emptyChains(n)) {
                for (int i : outside(n - 1)) {
                    due(n + ": bestThrough(" + i + ", 1)", x.bestThrough(i, 1), BAD);
                }
            }
        }
    }

    private static void bestThroughBadLabelBeforeNone() {
        for (int n = 1; n <= 6; n++) {
            for (LabelChain x : emptyChains(n)) {
                for (int a : outside(2)) {
                    due(n + ": bestThrough(n-1, " + a + ")", x.bestThrough(n - 1, a), BAD);
                }
            }
        }
    }

    private static void refusedWeighPlace() {
        for (int n = 1; n <= 6; n++) {
            LabelChain x = someBarredChain(n);
            for (int i : outside(n - 1)) {
                for (int a = -1; a <= 3; a++) {
                    x.weigh(i, a, 9);
                }
            }
            for (int a : outside(2)) {
                for (int i = 0; i < n; i++) {
                    x.weigh(i, a, 9);
                }
            }
            unchanged(x, n);
        }
    }

    private static void refusedWeighWeight() {
        for (int n = 1; n <= 6; n++) {
            LabelChain x = someBarredChain(n);
            for (int weight : new int[] {-1, 10, LOWEST, HIGHEST}) {
                for (int place = 0; place < 3 * n; place++) {
                    x.weigh(place / 3, place % 3, weight);
                }
            }
            unchanged(x, n);
        }
    }

    private static void refusedWeighCoupleLabels() {
        for (int n = 1; n <= 6; n++) {
            LabelChain x = someBarredChain(n);
            for (int out : outside(2)) {
                for (int other = -1; other <= 3; other++) {
                    x.weighCouple(out, other, 9);
                    x.weighCouple(other, out, 9);
                }
            }
            unchanged(x, n);
        }
    }

    private static void refusedWeighCoupleWeight() {
        for (int n = 1; n <= 6; n++) {
            LabelChain x = someBarredChain(n);
            for (int weight : new int[] {-1, 10, LOWEST, HIGHEST}) {
                for (int couple = 0; couple < 9; couple++) {
                    x.weighCouple(couple / 3, couple % 3, weight);
                }
            }
            unchanged(x, n);
        }
    }

    private static void refusedBar() {
        for (int n = 1; n <= 6; n++) {
            for (int on = 0; on < 2; on++) {
                LabelChain x = someBarredChain(n);
                for (int i : outside(n - 1)) {
                    for (int a = -1; a <= 3; a++) {
                        x.bar(i, a, on == 1);
                    }
                }
                for (int a : outside(2)) {
                    for (int i = 0; i < n; i++) {
                        x.bar(i, a, on == 1);
                    }
                }
                unchanged(x, n);
            }
        }
    }

    private static void refusedBarCouple() {
        for (int n = 1; n <= 6; n++) {
            for (int on = 0; on < 2; on++) {
                LabelChain x = someBarredChain(n);
                for (int out : outside(2)) {
                    for (int other = -1; other <= 3; other++) {
                        x.barCouple(out, other, on == 1);
                        x.barCouple(other, out, on == 1);
                    }
                }
                unchanged(x, n);
            }
        }
    }

    private static void refusedLabel() {
        for (int n = 1; n <= 6; n++) {
            LabelChain x = someBarredChain(n);
            for (int i : outside(n - 1)) {
                x.label(i);
            }
            unchanged(x, n);
        }
    }

    private static void refusedRanked() {
        for (int n = 1; n <= 6; n++) {
            LabelChain x = someBarredChain(n);
            for (int k : outside(7)) {
                x.ranked(k);
            }
            unchanged(x, n);
        }
    }

    private static void refusedBestThrough() {
        for (int n = 1; n <= 6; n++) {
            LabelChain x = someBarredChain(n);
            for (int i : outside(n - 1)) {
                x.bestThrough(i, 1);
            }
            for (int a : outside(2)) {
                x.bestThrough(0, a);
            }
            unchanged(x, n);
        }
    }

    private static void refusedThrough() {
        for (int n = 1; n <= 6; n++) {
            LabelChain x = someBarredChain(n);
            for (int i : outside(n - 1)) {
                x.through(i, 1);
            }
            for (int a : outside(2)) {
                x.through(0, a);
            }
            unchanged(x, n);
        }
    }

    private static void refusedThroughCouple() {
        for (int n = 1; n <= 6; n++) {
            LabelChain x = someBarredChain(n);
            for (int i : outside(n - 2)) {
                x.throughCouple(i, 4);
            }
            for (int couple : outside(8)) {
                x.throughCouple(0, couple);
            }
            unchanged(x, n);
        }
    }

    private static void lastCall() {
        LabelChain x = new LabelChain(6);
        for (int call = 1; call <= 510; call += 2) {
            int weight = call / 2 % 10;
            due("call " + call, x.weigh(5, 2, weight), true);
            due("call " + (call + 1), x.through(5, 2), 243L * weight);
        }
        due("call 511", x.weigh(5, 2, 9), true);
        due("call 512", x.total(), 11 * 243);
    }
}
