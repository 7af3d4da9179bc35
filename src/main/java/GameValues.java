/** Compares positions of games in which two sides move in turn and whoever can't move has lost. */
public final class GameValues {
    public static final int BAD = -1;
    public static final int FULL = -2;
    public static final int EQUAL = 0;
    public static final int GREATER = 1;
    public static final int LESS = 2;
    public static final int CONFUSED = 3;

    private static final int LEFT = 0;
    private static final int RIGHT = 1;

    private static final int MOST_POSITIONS = 10;

    // A sum of p, q and r turned over has the index p * P_STEP + q * Q_STEP + r * R_STEP.
    // Position 0 adds no moves, so smaller sums stand in the same table.
    private static final int P_STEP = 100;
    private static final int Q_STEP = 10;
    private static final int R_STEP = 1;
    private static final int SUMS = 1000;

    private final int[] leftMoves = new int[MOST_POSITIONS];
    private final int[] rightMoves = new int[MOST_POSITIONS];
    private final int[] depths = new int[MOST_POSITIONS];

    // For each sum: whether the side wins when it moves first.
    private final boolean[] leftWins = new boolean[SUMS];
    private final boolean[] rightWins = new boolean[SUMS];

    private int count;

    public GameValues() {
        // Position 0 has no moves and nobody wins it by moving first: what new arrays hold.
        count = 1;
    }

    public int add(int left, int right) {
        int there = (1 << count) - 1;
        if (((left | right) & ~there) != 0) {
            return BAD;
        }
        if (count >= MOST_POSITIONS) {
            return FULL;
        }
        int added = count;
        leftMoves[added] = left;
        rightMoves[added] = right;
        depths[added] = depthAbove(left | right);
        count = added + 1;
        decideSums();
        return added;
    }

    public int drop() {
        if (count <= 1) {
            return BAD;
        }
        // The dropped position's table entries may stay: add decides them anew.
        count = count - 1;
        return count;
    }

    public int positions() {
        return count;
    }

    public int moves(int p, int side) {
        if (!isThere(p) || !isSide(side)) {
            return BAD;
        }
        return side == LEFT ? leftMoves[p] : rightMoves[p];
    }

    public int compare(int p, int q) {
        if (!isThere(p) || !isThere(q)) {
            return BAD;
        }
        return standing(p, 0, q);
    }

    public boolean wins(int p, int side) {
        if (!isThere(p) || !isSide(side)) {
            return false;
        }
        return firstWins(p, 0, side);
    }

    public boolean winsSum(int p, int q, int side) {
        if (!isThere(p) || !isThere(q) || !isSide(side)) {
            return false;
        }
        return firstWins(p, q, side);
    }

    public int compareSum(int p, int q, int r) {
        if (!isThere(p) || !isThere(q) || !isThere(r)) {
            return BAD;
        }
        return standing(p, q, r);
    }

    public int dominated(int p, int side) {
        if (!isThere(p) || !isSide(side)) {
            return BAD;
        }
        int options = side == LEFT ? leftMoves[p] : rightMoves[p];
        int found = 0;
        for (int x = 0; x < count; x++) {
            if (contains(options, x) && isDominated(x, options, side)) {
                found = found | (1 << x);
            }
        }
        return found;
    }

    public int first(int p) {
        if (!isThere(p)) {
            return BAD;
        }
        return leastEqual(p);
    }

    public int values() {
        int groups = 0;
        for (int p = 0; p < count; p++) {
            if (leastEqual(p) == p) {
                groups++;
            }
        }
        return groups;
    }

    public int depth(int p) {
        if (!isThere(p)) {
            return BAD;
        }
        return depths[p];
    }

    public int above(int p) {
        if (!isThere(p)) {
            return BAD;
        }
        int found = 0;
        for (int q = 0; q < count; q++) {
            if (isAtLeast(q, p)) {
                found = found | (1 << q);
            }
        }
        return found;
    }

    public boolean opposite(int p, int q) {
        if (!isThere(p) || !isThere(q)) {
            return false;
        }
        // Turning q over twice gives q back, so the sum of p and q itself decides.
        return standing(p, q, 0) == EQUAL;
    }

    private boolean isThere(int p) {
        return p >= 0 && p < count;
    }

    private static boolean isSide(int side) {
        return side == LEFT || side == RIGHT;
    }

    private static boolean contains(int set, int p) {
        return ((set >> p) & 1) != 0;
    }

    private static int sumIndex(int p, int q, int r) {
        return p * P_STEP + q * Q_STEP + r * R_STEP;
    }

    private int depthAbove(int options) {
        int deepest = 0;
        for (int x = 0; x < count; x++) {
            if (contains(options, x) && depths[x] + 1 > deepest) {
                deepest = depths[x] + 1;
            }
        }
        return deepest;
    }

    // Every move goes to a position with a smaller number, so in this order
    // each sum comes after all the sums that it can be moved to.
    private void decideSums() {
        for (int p = 0; p < count; p++) {
            for (int q = 0; q < count; q++) {
                for (int r = 0; r < count; r++) {
                    decideSum(p, q, r);
                }
            }
        }
    }

    private void decideSum(int p, int q, int r) {
        int sum = sumIndex(p, q, r);
        int withoutP = sumIndex(0, q, r);
        int withoutQ = sumIndex(p, 0, r);
        int withoutR = sumIndex(p, q, 0);
        // r is turned over: Left has Right's moves there, and Right has Left's.
        leftWins[sum] = canLeaveLost(leftMoves[p], withoutP, P_STEP, rightWins)
                || canLeaveLost(leftMoves[q], withoutQ, Q_STEP, rightWins)
                || canLeaveLost(rightMoves[r], withoutR, R_STEP, rightWins);
        rightWins[sum] = canLeaveLost(rightMoves[p], withoutP, P_STEP, leftWins)
                || canLeaveLost(rightMoves[q], withoutQ, Q_STEP, leftWins)
                || canLeaveLost(leftMoves[r], withoutR, R_STEP, leftWins);
    }

    /** Whether one of the moves leaves a sum that the other side, then moving first, does not win. */
    private boolean canLeaveLost(int options, int rest, int step, boolean[] otherWins) {
        for (int x = 0; x < count; x++) {
            if (contains(options, x) && !otherWins[rest + x * step]) {
                return true;
            }
        }
        return false;
    }

    private boolean firstWins(int p, int q, int side) {
        int sum = sumIndex(p, q, 0);
        return side == LEFT ? leftWins[sum] : rightWins[sum];
    }

    private boolean isAtLeast(int p, int q) {
        int sum = sumIndex(p, 0, q);
        return !rightWins[sum];
    }

    /** How the sum of p and q stands to r. */
    private int standing(int p, int q, int r) {
        int sum = sumIndex(p, q, r);
        boolean atLeast = !rightWins[sum];
        // The same sum, all turned over, decides whether r is at least p and q: the sides change places.
        boolean atMost = !leftWins[sum];
        if (atLeast) {
            return atMost ? EQUAL : GREATER;
        }
        return atMost ? LESS : CONFUSED;
    }

    private int leastEqual(int p) {
        for (int q = 0; q < p; q++) {
            if (standing(p, 0, q) == EQUAL) {
                return q;
            }
        }
        return p;
    }

    private boolean isDominated(int x, int options, int side) {
        for (int y = 0; y < count; y++) {
            if (y != x && contains(options, y) && isNoBetter(x, y, side)) {
                return true;
            }
        }
        return false;
    }

    /** Whether a move to x is, for the side, worse than one to y, or equal to it and numbered after it. */
    private boolean isNoBetter(int x, int y, int side) {
        int howXStands = standing(x, 0, y);
        if (howXStands == EQUAL) {
            return y < x;
        }
        return howXStands == (side == LEFT ? LESS : GREATER);
    }
}
