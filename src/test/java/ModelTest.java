import java.util.ArrayList;
import java.util.Arrays;
import java.util.Collections;
import java.util.List;

/**
 * Long mixed runs, each compared call by call with a plain model of the document that lists every
 * labelling as an array. The runs come from a fixed series of numbers, so each time they are the same.
 */
public final class ModelTest {
    private static final int BAD = -1;
    private static final int NONE = -2;
    private static final int RUNS = 600;
    private static final int MOST_CALLS = 512;

    private static int wrong = 0;
    private static long series = 20261115L;

    private final int n;
    private final LabelChain chain;
    private final int[][] weight;
    private final int[][] coupleWeight = {{1, 1, 1}, {1, 1, 1}, {1, 1, 1}};
    private final boolean[][] barred;
    private final boolean[][] coupleBarred = new boolean[3][3];
    private final StringBuilder told = new StringBuilder();
    private int calls = 0;

    private List<int[]> labellings;

    private ModelTest(int positions) {
        n = Math.max(1, Math.min(6, positions));
        chain = new LabelChain(positions);
        weight = new int[n][3];
        barred = new boolean[n][3];
        for (int[] row : weight) {
            Arrays.fill(row, 1);
        }
        told.append("new ").append(positions);
    }

    public static void main(String[] args) {
        for (int run = 0; run < RUNS && wrong < 20; run++) {
            ModelTest test = new ModelTest(run % 8);
            // Some runs bar much and some little, so that both no and many labellings come.
            int barsInTen = run / 8 % 5;
            for (int round = 0; round < 3; round++) {
                for (int step = 0; step < 12 + 10 * round; step++) {
                    test.change(barsInTen);
                }
                test.askAll(round);
            }
            if (test.calls > MOST_CALLS) {
                throw new IllegalStateException("a run of " + test.calls + " calls says nothing");
            }
        }
        System.out.println(wrong == 0 ? "all answers are as due" : wrong + " answers are not as due");
        if (wrong != 0) {
            System.exit(1);
        }
    }

    private static int next(int bound) {
        series = series * 6364136223846793005L + 1442695040888963407L;
        return (int) ((series >>> 33) % bound);
    }

    /** Mostly a number from 0 to most, now and then one just outside. */
    private static int number(int most) {
        if (next(12) == 0) {
            return next(2) == 0 ? -1 : most + 1;
        }
        return next(most + 1);
    }

    private static boolean within(int value, int most) {
        return value >= 0 && value <= most;
    }

    private void due(String call, long got, long want) {
        calls++;
        if (got != want) {
            wrong++;
            System.out.println(told + "; " + call + " answered " + got + ", due is " + want);
        }
    }

    private void changed(String call, boolean got, boolean want) {
        due(call, got ? 1 : 0, want ? 1 : 0);
        told.append("; ").append(call);
    }

    private void change(int barsInTen) {
        boolean bars = next(10) < barsInTen;
        boolean couple = next(2) == 0;
        int first = number(couple ? 2 : n - 1);
        int second = number(2);
        boolean good = within(first, couple ? 2 : n - 1) && within(second, 2);
        if (bars) {
            boolean on = next(3) != 0;
            String call = "(" + first + ", " + second + ", " + on + ")";
            if (couple) {
                changed("barCouple" + call, chain.barCouple(first, second, on), good);
            } else {
                changed("bar" + call, chain.bar(first, second, on), good);
            }
            if (good) {
                (couple ? coupleBarred : barred)[first][second] = on;
            }
        } else {
            int w = number(9);
            good &= within(w, 9);
            String call = "(" + first + ", " + second + ", " + w + ")";
            if (couple) {
                changed("weighCouple" + call, chain.weighCouple(first, second, w), good);
            } else {
                changed("weigh" + call, chain.weigh(first, second, w), good);
            }
            if (good) {
                (couple ? coupleWeight : weight)[first][second] = w;
            }
        }
    }

    private void list(int[] labels, int filled) {
        if (filled == n) {
            labellings.add(labels.clone());
            return;
        }
        for (int a = 0; a < 3; a++) {
            boolean open = !barred[filled][a] && (filled == 0 || !coupleBarred[labels[filled - 1]][a]);
            if (open) {
                labels[filled] = a;
                list(labels, filled + 1);
            }
        }
    }

    private int sum(int[] labels) {
        int sum = weight[0][labels[0]];
        for (int i = 1; i < n; i++) {
            sum += coupleWeight[labels[i - 1]][labels[i]] + weight[i][labels[i]];
        }
        return sum;
    }

    private long product(int[] labels) {
        long product = weight[0][labels[0]];
        for (int i = 1; i < n; i++) {
            product *= (long) coupleWeight[labels[i - 1]][labels[i]] * weight[i][labels[i]];
        }
        return product;
    }

    private void askAll(int round) {
        labellings = new ArrayList<>();
        list(new int[n], 0);
        List<Integer> sums = new ArrayList<>();
        long total = 0;
        int[] first = null;
        for (int[] labels : labellings) {
            sums.add(sum(labels));
            total += product(labels);
            if (first == null || sum(labels) > sum(first)) {
                first = labels;
            }
        }
        sums.sort(Collections.reverseOrder());
        int best = sums.isEmpty() ? NONE : sums.get(0);
        due("allowed()", chain.allowed(), sums.size());
        due("best()", chain.best(), best);
        due("bestCount()", chain.bestCount(), Collections.frequency(sums, best));
        due("total()", chain.total(), total);
        for (int i = -1; i <= n; i++) {
            int want = !within(i, n - 1) ? BAD : first == null ? NONE : first[i];
            due("label(" + i + ")", chain.label(i), want);
        }
        for (int k = -1; k <= 8; k++) {
            int want = !within(k, 7) ? BAD : k >= sums.size() ? NONE : sums.get(k);
            due("ranked(" + k + ")", chain.ranked(k), want);
        }
        askThrough();
        askThroughCouple(round);
    }

    private void askThrough() {
        for (int i = -1; i <= n; i++) {
            for (int a = -1; a <= 3; a++) {
                boolean good = within(i, n - 1) && within(a, 2);
                int best = good ? NONE : BAD;
                long total = 0;
                for (int[] labels : labellings) {
                    if (good && labels[i] == a) {
                        best = Math.max(best, sum(labels));
                        total += product(labels);
                    }
                }
                due("bestThrough(" + i + ", " + a + ")", chain.bestThrough(i, a), best);
                due("through(" + i + ", " + a + ")", chain.through(i, a), total);
            }
        }
    }

    // All couples in every round would pass 512 calls in a long chain, so each round asks every second one.
    private void askThroughCouple(int round) {
        for (int i = -1; i < n; i++) {
            for (int couple = -1; couple <= 9; couple++) {
                if ((i + couple + round) % 2 != 0) {
                    continue;
                }
                long total = 0;
                for (int[] labels : labellings) {
                    boolean good = within(i, n - 2) && within(couple, 8);
                    if (good && labels[i] == couple / 3 && labels[i + 1] == couple % 3) {
                        total += product(labels);
                    }
                }
                due("throughCouple(" + i + ", " + couple + ")", chain.throughCouple(i, couple), total);
            }
        }
    }
}
