/**
 * Labellings of a short sequence under weights for labels and for neighbouring labels.
 *
 * There are at most 3^6 = 729 labellings, so every question is answered by going through all of
 * them. A labelling is held as a number in base 3 whose highest digit is the label at position 0:
 * counting up then goes through the labellings in the document's order.
 */
public final class LabelChain {
    public static final int BAD = -1;
    public static final int NONE = -2;

    private static final int MOST_POSITIONS = 6;
    private static final int LABELS = 3;
    private static final int COUPLES = 9;
    private static final int POSITION_LABELS = 18;
    private static final int MOST_WEIGHT = 9;
    private static final int MOST_RANK = 7;
    // Six labels and five couples, each of weight 9, have the sum 99.
    private static final int ABOVE_ALL_SUMS = 100;

    // The place of label a at position i is 3 * i + a, that of the couple (a, b) is 3 * a + b.
    private final int[] labelWeights = new int[POSITION_LABELS];
    private final boolean[] labelBars = new boolean[POSITION_LABELS];
    private final int[] coupleWeights = new int[COUPLES];
    private final boolean[] coupleBars = new boolean[COUPLES];
    private final int positions;
    private final int labellings;

    public LabelChain(int positions) {
        this.positions = clampedPositions(positions);
        this.labellings = numberOfLabellings(this.positions);
        for (int place = 0; place < POSITION_LABELS; place++) {
            labelWeights[place] = 1;
        }
        for (int couple = 0; couple < COUPLES; couple++) {
            coupleWeights[couple] = 1;
        }
    }

    public boolean weigh(int i, int a, int weight) {
        if (!isPosition(i) || !isLabel(a) || !isWeight(weight)) {
            return false;
        }
        labelWeights[LABELS * i + a] = weight;
        return true;
    }

    public boolean weighCouple(int a, int b, int weight) {
        if (!isLabel(a) || !isLabel(b) || !isWeight(weight)) {
            return false;
        }
        coupleWeights[LABELS * a + b] = weight;
        return true;
    }

    public boolean bar(int i, int a, boolean barred) {
        if (!isPosition(i) || !isLabel(a)) {
            return false;
        }
        labelBars[LABELS * i + a] = barred;
        return true;
    }

    public boolean barCouple(int a, int b, boolean barred) {
        if (!isLabel(a) || !isLabel(b)) {
            return false;
        }
        coupleBars[LABELS * a + b] = barred;
        return true;
    }

    public int allowed() {
        int count = 0;
        for (int labelling = 0; labelling < labellings; labelling++) {
            if (isAllowed(labelling)) {
                count++;
            }
        }
        return count;
    }

    public int best() {
        return greatestSumBelow(ABOVE_ALL_SUMS);
    }

    public int label(int i) {
        if (!isPosition(i)) {
            return BAD;
        }
        int sum = best();
        for (int labelling = 0; labelling < labellings; labelling++) {
            if (isAllowed(labelling) && sumOf(labelling) == sum) {
                return labelAt(labelling, i);
            }
        }
        return NONE;
    }

    public int bestCount() {
        int sum = best();
        return countWithSum(sum);
    }

    public int ranked(int k) {
        if (k < 0 || k > MOST_RANK) {
            return BAD;
        }
        int left = k;
        int sum = best();
        // Each different sum takes up at least one place of the list, so k steps down are enough.
        for (int step = 0; step < k && sum != NONE; step++) {
            int count = countWithSum(sum);
            if (left < count) {
                return sum;
            }
            left -= count;
            sum = greatestSumBelow(sum);
        }
        return sum;
    }

    public int bestThrough(int i, int a) {
        if (!isPosition(i) || !isLabel(a)) {
            return BAD;
        }
        int greatest = NONE;
        for (int labelling = 0; labelling < labellings; labelling++) {
            if (labelAt(labelling, i) == a && isAllowed(labelling)) {
                int sum = sumOf(labelling);
                if (sum > greatest) {
                    greatest = sum;
                }
            }
        }
        return greatest;
    }

    public long total() {
        long sum = 0;
        for (int labelling = 0; labelling < labellings; labelling++) {
            if (isAllowed(labelling)) {
                sum += productOf(labelling);
            }
        }
        return sum;
    }

    public long through(int i, int a) {
        if (!isPosition(i) || !isLabel(a)) {
            return 0;
        }
        long sum = 0;
        for (int labelling = 0; labelling < labellings; labelling++) {
            if (labelAt(labelling, i) == a && isAllowed(labelling)) {
                sum += productOf(labelling);
            }
        }
        return sum;
    }

    public long throughCouple(int i, int couple) {
        if (i < 0 || i >= positions - 1 || couple < 0 || couple >= COUPLES) {
            return 0;
        }
        long sum = 0;
        for (int labelling = 0; labelling < labellings; labelling++) {
            if (coupleAt(labelling, i) == couple && isAllowed(labelling)) {
                sum += productOf(labelling);
            }
        }
        return sum;
    }

    private static int clampedPositions(int wanted) {
        if (wanted < 1) {
            return 1;
        }
        return wanted > MOST_POSITIONS ? MOST_POSITIONS : wanted;
    }

    private static int numberOfLabellings(int length) {
        int number = 1;
        for (int i = 0; i < length; i++) {
            number *= LABELS;
        }
        return number;
    }

    private boolean isPosition(int i) {
        return i >= 0 && i < positions;
    }

    private static boolean isLabel(int a) {
        return a >= 0 && a < LABELS;
    }

    private static boolean isWeight(int weight) {
        return weight >= 0 && weight <= MOST_WEIGHT;
    }

    private int labelAt(int labelling, int i) {
        int rest = labelling;
        for (int later = positions - 1; later > i; later--) {
            rest /= LABELS;
        }
        return rest % LABELS;
    }

    private int coupleAt(int labelling, int i) {
        return LABELS * labelAt(labelling, i) + labelAt(labelling, i + 1);
    }

    private boolean isAllowed(int labelling) {
        for (int i = 0; i < positions; i++) {
            if (labelBars[LABELS * i + labelAt(labelling, i)]) {
                return false;
            }
        }
        for (int i = 0; i < positions - 1; i++) {
            if (coupleBars[coupleAt(labelling, i)]) {
                return false;
            }
        }
        return true;
    }

    private int sumOf(int labelling) {
        int sum = 0;
        for (int i = 0; i < positions; i++) {
            sum += labelWeights[LABELS * i + labelAt(labelling, i)];
        }
        for (int i = 0; i < positions - 1; i++) {
            sum += coupleWeights[coupleAt(labelling, i)];
        }
        return sum;
    }

    // At most 9^11, which an int does not hold.
    private long productOf(int labelling) {
        long product = 1;
        for (int i = 0; i < positions; i++) {
            product *= labelWeights[LABELS * i + labelAt(labelling, i)];
        }
        for (int i = 0; i < positions - 1; i++) {
            product *= coupleWeights[coupleAt(labelling, i)];
        }
        return product;
    }

    // NONE lies below every sum, so it serves as the start.
    private int greatestSumBelow(int limit) {
        int greatest = NONE;
        for (int labelling = 0; labelling < labellings; labelling++) {
            if (isAllowed(labelling)) {
                int sum = sumOf(labelling);
                if (sum < limit && sum > greatest) {
                    greatest = sum;
                }
            }
        }
        return greatest;
    }

    private int countWithSum(int sum) {
        int count = 0;
        for (int labelling = 0; labelling < labellings; labelling++) {
            if (isAllowed(labelling) && sumOf(labelling) == sum) {
                count++;
            }
        }
        return count;
    }
}
