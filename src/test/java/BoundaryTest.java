import java.util.function.Supplier;

/**
 * One test for each sentence of the document that names a boundary case: too small, too large, empty, full, a
 * wrap-around, a refused call. No object is asked more than the 512 calls that are promised.
 */
public final class BoundaryTest {
    private static final int MIN = Integer.MIN_VALUE;
    private static final int MAX = Integer.MAX_VALUE;
    private static final int BAD = -1;
    private static final int FULL = -2;
    private static final int EQUAL = 0;
    private static final int GREATER = 1;
    private static final int LESS = 2;
    private static final int CONFUSED = 3;
    private static final int ALL_TEN = 1023;

    // 2 is the nearest; 32 and 33 look like 0 and 1 to a shift, and 256 and 1 << 16 to a narrow type.
    private static final int[] NO_SIDES = {-1, 2, 3, 32, 33, 256, 257, 1 << 16, MIN, MIN + 1, MAX};

    private static String sentence = "";
    private static int tests = 0;
    private static int wrong = 0;

    private static void due(String call, int got, int want) {
        if (got != want) {
            wrong++;
            System.out.println(sentence + "\n    " + call + " answered " + got + ", due is " + want);
        }
    }

    private static void due(String call, boolean got, boolean want) {
        due(call, got ? 1 : 0, want ? 1 : 0);
    }

    private static void test(String words, Runnable body) {
        sentence = words;
        tests++;
        try {
            body.run();
        } catch (RuntimeException thrown) {
            wrong++;
            System.out.println(words + "\n    a call threw " + thrown);
        }
    }

    // ---- objects to ask

    /** Positions 1 and up, each with the moves of its pair of sets. */
    private static GameValues with(int... sets) {
        GameValues x = new GameValues();
        for (int i = 0; i < sets.length; i += 2) {
            due("add(" + sets[i] + ", " + sets[i + 1] + ")", x.add(sets[i], sets[i + 1]), i / 2 + 1);
        }
        return x;
    }

    /** The numbers 0 to 9, each in the place of its own number. */
    private static GameValues tenNumbers() {
        return with(1, 0, 2, 0, 4, 0, 8, 0, 16, 0, 32, 0, 64, 0, 128, 0, 256, 0);
    }

    /** Zero, star, one, minus one, up, down, plus-minus one, zero again, one again, star again: ten. */
    private static GameValues tenKinds() {
        return with(1, 1, 1, 0, 0, 1, 1, 2, 2, 1, 4, 8, 2, 2, 9, 0, 129, 129);
    }

    /** Position 0 and stars, all but the first few dropped again: what is left behind would win and equal much. */
    private static GameValues starsLeft(int count) {
        GameValues x = with(1, 1, 1, 1, 1, 1, 1, 1, 1, 1, 1, 1, 1, 1, 1, 1, 1, 1);
        for (int left = 9; left >= count; left--) {
            due("drop()", x.drop(), left);
        }
        return x;
    }

    private static GameValues zerosLeft(int count) {
        GameValues x = with(0, 0, 0, 0, 0, 0, 0, 0, 0, 0, 0, 0, 0, 0, 0, 0, 0, 0);
        for (int left = 9; left >= count; left--) {
            due("drop()", x.drop(), left);
        }
        return x;
    }

    /**
     * Numbers of positions that are not there: next to the last one, next to ten, such that a shift or a product with
     * 10, 100 or 1000 wraps around to a small number, and the ends of int.
     */
    private static int[] notThere(int count) {
        return new int[] {
            count, count + 1, 10, 11, 31, 32, 33, 64, 100, 256, 1000, 1 << 16, 1 << 30, 42949673, 429496730, 4294968,
            MAX - 1, MAX, -1, -2, -9, -10, -31, -32, -100, -256, MIN, MIN + 1,
        };
    }

    private static void sameTo(GameValues x, GameValues y, int p, int q, int count) {
        due("compare(" + p + ", " + q + ")", x.compare(p, q), y.compare(p, q));
        due("opposite(" + p + ", " + q + ")", x.opposite(p, q), y.opposite(p, q));
        for (int side = 0; side < 2; side++) {
            String sum = "winsSum(" + p + ", " + q + ", " + side + ")";
            due(sum, x.winsSum(p, q, side), y.winsSum(p, q, side));
        }
        for (int r = 0; r < count; r++) {
            due("compareSum(" + p + ", " + q + ", " + r + ")", x.compareSum(p, q, r), y.compareSum(p, q, r));
        }
    }

    /** Every question answered by one object as by the other; new ones for each p keep below 512 calls. */
    private static void same(Supplier<GameValues> one, Supplier<GameValues> other) {
        int count = other.get().positions();
        for (int p = 0; p < count; p++) {
            GameValues x = one.get();
            GameValues y = other.get();
            due("positions()", x.positions(), count);
            due("values()", x.values(), y.values());
            due("first(" + p + ")", x.first(p), y.first(p));
            due("depth(" + p + ")", x.depth(p), y.depth(p));
            due("above(" + p + ")", x.above(p), y.above(p));
            for (int side = 0; side < 2; side++) {
                due("moves(" + p + ", " + side + ")", x.moves(p, side), y.moves(p, side));
                due("wins(" + p + ", " + side + ")", x.wins(p, side), y.wins(p, side));
                due("dominated(" + p + ", " + side + ")", x.dominated(p, side), y.dominated(p, side));
            }
            for (int q = 0; q < count; q++) {
                sameTo(x, y, p, q, count);
            }
        }
    }

    // ---- What it is

    private static void calls512Questions() {
        GameValues x = tenKinds();
        for (int call = 10; call <= 512; call++) {
            if (call % 3 == 0) {
                due("call " + call + ", compare(5, 4)", x.compare(5, 4), LESS);
            } else if (call % 3 == 1) {
                due("call " + call + ", winsSum(6, 9, 1)", x.winsSum(6, 9, 1), true);
            } else {
                due("call " + call + ", values()", x.values(), 7);
            }
        }
    }

    private static void calls512AddsAndDrops() {
        GameValues x = new GameValues();
        int calls = 0;
        while (calls + 18 <= 510) {
            for (int p = 1; p < 10; p++) {
                due("add after " + calls + " calls", x.add(1 << (p - 1), 0), p);
                calls++;
            }
            for (int left = 9; left >= 1; left--) {
                due("drop after " + calls + " calls", x.drop(), left);
                calls++;
            }
        }
        while (calls < 510) {
            due("drop after " + calls + " calls", x.drop(), BAD);
            calls++;
        }
        due("call 511, add(1, 1)", x.add(1, 1), 1);
        due("call 512, compareSum(1, 1, 1)", x.compareSum(1, 1, 1), CONFUSED);
    }

    private static void calls512Refused() {
        GameValues x = tenKinds();
        for (int call = 10; call <= 511; call++) {
            due("call " + call + ", a refused add", x.add(call % 2 == 0 ? 0 : 1024, 0), call % 2 == 0 ? FULL : BAD);
        }
        due("call 512, drop()", x.drop(), 9);
    }

    // ---- Terms

    private static void cantMoveHasLost() {
        GameValues x = with(0, 0, 1, 0, 0, 1);
        due("wins(1, 0) of empty sets", x.wins(1, 0), false);
        due("wins(1, 1) of empty sets", x.wins(1, 1), false);
        due("wins(2, 1) without a move of Right", x.wins(2, 1), false);
        due("wins(2, 0)", x.wins(2, 0), true);
        due("wins(3, 0) without a move of Left", x.wins(3, 0), false);
        due("wins(3, 1)", x.wins(3, 1), true);
    }

    private static void numbered0To9() {
        GameValues x = new GameValues();
        for (int p = 1; p <= 9; p++) {
            due("add(0, 0)", x.add(0, 0), p);
            due("depth of it", x.depth(p), 0);
            due("depth of the next one", x.depth(p + 1), BAD);
        }
    }

    private static void movedToFromLaterOnly() {
        GameValues x = new GameValues();
        for (int p = 1; p <= 9; p++) {
            due("add to itself, Left", x.add(1 << p, 0), BAD);
            due("add to itself, Right", x.add(0, 1 << p), BAD);
            due("add to the one before", x.add(1 << (p - 1), 1 << (p - 1)), p);
        }
    }

    private static void position0IsAlwaysThere() {
        GameValues x = starsLeft(1);
        due("drop()", x.drop(), BAD);
        due("positions()", x.positions(), 1);
        due("compare(0, 0)", x.compare(0, 0), EQUAL);
        due("depth(0)", x.depth(0), 0);
        due("add(1, 1)", x.add(1, 1), 1);
    }

    private static void nobodyMovesFrom0() {
        GameValues x = tenKinds();
        due("moves(0, 0)", x.moves(0, 0), 0);
        due("moves(0, 1)", x.moves(0, 1), 0);
        due("wins(0, 0)", x.wins(0, 0), false);
        due("wins(0, 1)", x.wins(0, 1), false);
        due("winsSum(0, 0, 0)", x.winsSum(0, 0, 0), false);
        due("winsSum(0, 0, 1)", x.winsSum(0, 0, 1), false);
    }

    /** Both parts of a sum can be the same position: a move in one leaves the other one as it is. */
    private static void oneMoveInOneOfThem() {
        GameValues x = tenKinds();
        due("winsSum(1, 1, 0) of star and star", x.winsSum(1, 1, 0), false);
        due("winsSum(1, 1, 1) of star and star", x.winsSum(1, 1, 1), false);
        due("compareSum(2, 2, 2) of one and one to one", x.compareSum(2, 2, 2), GREATER);
        due("compareSum(1, 1, 1) of star and star to star", x.compareSum(1, 1, 1), CONFUSED);
        due("compareSum(6, 6, 6) of plus-minus one", x.compareSum(6, 6, 6), CONFUSED);
    }

    /** The sides change places below the first move too, where each of these differs from a half turn. */
    private static void turnedOverAllTheWayDown() {
        GameValues x = with(1, 0, 1, 2, 1, 4, 1, 8, 1, 16);
        for (int p = 1; p <= 5; p++) {
            due("compare(" + p + ", " + p + ")", x.compare(p, p), EQUAL);
            due("compare(" + p + ", 0)", x.compare(p, 0), GREATER);
            due("compare(0, " + p + ")", x.compare(0, p), LESS);
            due("compareSum(p, p, p - 1) of halves", x.compareSum(p, p, p - 1), p == 1 ? GREATER : EQUAL);
            due("opposite(p, p)", x.opposite(p, p), false);
        }
    }

    private static void eachWayToStand() {
        GameValues x = tenKinds();
        due("EQUAL, compare(0, 7)", x.compare(0, 7), EQUAL);
        due("EQUAL, compare(7, 0)", x.compare(7, 0), EQUAL);
        due("GREATER, compare(2, 0)", x.compare(2, 0), GREATER);
        due("LESS, compare(0, 2)", x.compare(0, 2), LESS);
        due("CONFUSED, compare(0, 1)", x.compare(0, 1), CONFUSED);
        due("CONFUSED, compare(1, 0)", x.compare(1, 0), CONFUSED);
    }

    // ---- Promise 1

    private static void newHasPosition0() {
        GameValues x = new GameValues();
        due("positions()", x.positions(), 1);
        due("moves(0, 0)", x.moves(0, 0), 0);
        due("moves(0, 1)", x.moves(0, 1), 0);
        due("compare(0, 0)", x.compare(0, 0), EQUAL);
        due("wins(0, 0)", x.wins(0, 0), false);
        due("wins(0, 1)", x.wins(0, 1), false);
        due("winsSum(0, 0, 0)", x.winsSum(0, 0, 0), false);
        due("winsSum(0, 0, 1)", x.winsSum(0, 0, 1), false);
        due("compareSum(0, 0, 0)", x.compareSum(0, 0, 0), EQUAL);
        due("dominated(0, 0)", x.dominated(0, 0), 0);
        due("dominated(0, 1)", x.dominated(0, 1), 0);
        due("first(0)", x.first(0), 0);
        due("values()", x.values(), 1);
        due("depth(0)", x.depth(0), 0);
        due("above(0)", x.above(0), 1);
        due("opposite(0, 0)", x.opposite(0, 0), true);
    }

    private static void newHasNoOther() {
        GameValues x = new GameValues();
        for (int p : notThere(1)) {
            due("depth(" + p + ")", x.depth(p), BAD);
            due("moves(" + p + ", 0)", x.moves(p, 0), BAD);
        }
        due("add(2, 0)", x.add(2, 0), BAD);
        due("drop()", x.drop(), BAD);
    }

    private static void newIsNotTouchedByOthers() {
        GameValues old = tenKinds();
        GameValues x = new GameValues();
        due("positions() of a new one", x.positions(), 1);
        due("add(1, 0) to a new one", x.add(1, 0), 1);
        due("compare(1, 0) of a new one", x.compare(1, 0), GREATER);
        due("compare(1, 0) of the old one", old.compare(1, 0), CONFUSED);
        due("positions() of the old one", old.positions(), 10);
    }

    // ---- Promise 2

    private static void addEmptySets() {
        GameValues x = new GameValues();
        due("add(0, 0)", x.add(0, 0), 1);
        due("moves(1, 0)", x.moves(1, 0), 0);
        due("moves(1, 1)", x.moves(1, 1), 0);
        due("add(0, 3)", x.add(0, 3), 2);
        due("moves(2, 0)", x.moves(2, 0), 0);
        due("moves(2, 1)", x.moves(2, 1), 3);
        due("add(7, 0)", x.add(7, 0), 3);
        due("moves(3, 0)", x.moves(3, 0), 7);
        due("moves(3, 1)", x.moves(3, 1), 0);
    }

    private static void addWholeSets() {
        GameValues x = new GameValues();
        for (int p = 1; p <= 9; p++) {
            int all = (1 << p) - 1;
            due("add(" + all + ", " + all + ")", x.add(all, all), p);
            due("moves(" + p + ", 0)", x.moves(p, 0), all);
            due("moves(" + p + ", 1)", x.moves(p, 1), all);
        }
    }

    private static void addBitNotThere(boolean inLeft) {
        for (int count = 1; count <= 10; count++) {
            GameValues x = starsLeft(count);
            for (int bit = count; bit < 10; bit++) {
                int set = 1 << bit;
                due(count + " there, bit " + bit, inLeft ? x.add(set, 0) : x.add(0, set), BAD);
                due(count + " there, bit " + bit + " with 0", inLeft ? x.add(set | 1, 1) : x.add(1, set | 1), BAD);
            }
            due("positions()", x.positions(), count);
        }
    }

    private static void addAnyOtherBit(boolean inLeft) {
        for (int count = 1; count <= 10; count++) {
            GameValues x = starsLeft(count);
            int there = (1 << count) - 1;
            for (int bit = 10; bit < 32; bit++) {
                int set = 1 << bit;
                due(count + " there, bit " + bit, inLeft ? x.add(set, 0) : x.add(0, set), BAD);
                due(count + " there, bit " + bit + " with all", inLeft ? x.add(set | there, there)
                        : x.add(there, set | there), BAD);
            }
            for (int set : new int[] {-1, MIN, MAX, MIN + 1, ~there, 1 << count}) {
                due(count + " there, set " + set, inLeft ? x.add(set, 0) : x.add(0, set), BAD);
            }
            due("positions()", x.positions(), count);
        }
    }

    /** Bits that would go away if the sets were taken together by "and", "exclusive or" or a sum. */
    private static void addBothSetsBad() {
        GameValues x = starsLeft(3);
        for (int set : new int[] {8, 9, 512, 1024, MIN, MAX, -1}) {
            due("add(" + set + ", " + set + ")", x.add(set, set), BAD);
            due("add(" + set + ", " + -set + ")", x.add(set, -set), BAD);
        }
        due("add(MIN, MAX)", x.add(MIN, MAX), BAD);
        due("add(8, 16)", x.add(8, 16), BAD);
        due("positions()", x.positions(), 3);
    }

    private static void addBadChangesNothing() {
        same(() -> {
            GameValues x = new GameValues();
            x.add(2, 1);
            x.add(1, 2);
            x.add(-1, -1);
            due("add(1, 1)", x.add(1, 1), 1);
            x.add(4, 3);
            x.add(3, 4);
            x.add(MIN, 3);
            due("add(1, 2)", x.add(1, 2), 2);
            x.add(8, 7);
            x.add(7, 8);
            return x;
        }, () -> with(1, 1, 1, 2));
    }

    private static void addNinthFitsTenthDoesNot() {
        GameValues x = starsLeft(9);
        due("positions()", x.positions(), 9);
        due("add(511, 511) when there are nine", x.add(511, 511), 9);
        due("add(0, 0) when there are ten", x.add(0, 0), FULL);
        due("add(1023, 0) when there are ten", x.add(ALL_TEN, 0), FULL);
        due("add(0, 1023) when there are ten", x.add(0, ALL_TEN), FULL);
        due("add(512, 512) when there are ten", x.add(512, 512), FULL);
        due("positions()", x.positions(), 10);
    }

    private static void addFullChangesNothing() {
        same(() -> {
            GameValues x = tenKinds();
            due("add(0, 0)", x.add(0, 0), FULL);
            due("add(1, 1)", x.add(1, 1), FULL);
            due("add(1023, 512)", x.add(ALL_TEN, 512), FULL);
            return x;
        }, BoundaryTest::tenKinds);
    }

    private static void addBadBeforeFull() {
        GameValues x = tenKinds();
        for (int bit = 10; bit < 32; bit++) {
            due("full, left bit " + bit, x.add(1 << bit, 0), BAD);
            due("full, right bit " + bit, x.add(0, 1 << bit), BAD);
            due("full, left bit " + bit + " and all", x.add(1 << bit | ALL_TEN, ALL_TEN), BAD);
            due("full, right bit " + bit + " and all", x.add(ALL_TEN, 1 << bit | ALL_TEN), BAD);
        }
        due("add(-1, -1)", x.add(-1, -1), BAD);
        due("add(0, 0)", x.add(0, 0), FULL);
        same(() -> {
            GameValues y = tenKinds();
            due("add(1024, 0)", y.add(1024, 0), BAD);
            due("add(0, 1024)", y.add(0, 1024), BAD);
            return y;
        }, BoundaryTest::tenKinds);
    }

    private static void addAfterFullAndDrop() {
        GameValues x = tenKinds();
        due("add(0, 0)", x.add(0, 0), FULL);
        due("drop()", x.drop(), 9);
        due("add(512, 0) to the dropped one", x.add(512, 0), BAD);
        due("add(0, 512) to the dropped one", x.add(0, 512), BAD);
        due("add(0, 256)", x.add(0, 256), 9);
        due("moves(9, 0)", x.moves(9, 0), 0);
        due("moves(9, 1)", x.moves(9, 1), 256);
        due("add(0, 0)", x.add(0, 0), FULL);
    }

    // ---- Promise 3

    private static void dropFromTenToOne() {
        GameValues x = tenKinds();
        for (int left = 9; left >= 1; left--) {
            due("drop()", x.drop(), left);
            due("positions()", x.positions(), left);
            due("depth of the dropped one", x.depth(left), BAD);
            due("depth of the last one", x.depth(left - 1) == BAD, false);
        }
    }

    private static void dropBadAt0() {
        GameValues x = new GameValues();
        due("drop() of a new object", x.drop(), BAD);
        due("drop() again", x.drop(), BAD);
        due("positions()", x.positions(), 1);
        GameValues y = starsLeft(1);
        due("drop() after all drops", y.drop(), BAD);
        due("drop() again", y.drop(), BAD);
        due("positions()", y.positions(), 1);
        // Another position that equals zero can be taken away.
        GameValues z = with(0, 0);
        due("drop() of another zero", z.drop(), 1);
        due("drop() of position 0", z.drop(), BAD);
    }

    /** Asked at once too: an add afterwards could mend what a refused drop has spoilt. */
    private static void dropBadChangesNothing() {
        same(() -> {
            GameValues x = new GameValues();
            due("drop()", x.drop(), BAD);
            return x;
        }, GameValues::new);
        same(() -> {
            GameValues x = new GameValues();
            due("drop()", x.drop(), BAD);
            due("drop()", x.drop(), BAD);
            due("add(1, 1)", x.add(1, 1), 1);
            due("add(1, 2)", x.add(1, 2), 2);
            return x;
        }, () -> with(1, 1, 1, 2));
    }

    private static void dropLeavesTheOthers() {
        same(() -> {
            GameValues x = with(1, 1, 1, 2, 7, 3, 15, 8);
            due("drop()", x.drop(), 4);
            due("drop()", x.drop(), 3);
            return x;
        }, () -> with(1, 1, 1, 2));
    }

    private static void dropLeavesNoTrace() {
        same(() -> {
            GameValues x = starsLeft(1);
            for (int p = 1; p < 10; p++) {
                due("add in a dropped place", x.add(p == 1 ? 1 : 0, p == 2 ? 3 : 0), p);
            }
            return x;
        }, () -> with(1, 0, 0, 3, 0, 0, 0, 0, 0, 0, 0, 0, 0, 0, 0, 0, 0, 0));
    }

    // ---- Promise 4

    private static void positionsFrom1To10() {
        GameValues x = new GameValues();
        for (int count = 1; count <= 10; count++) {
            due("positions()", x.positions(), count);
            due("add(0, 0)", x.add(0, 0), count == 10 ? FULL : count);
        }
        due("positions() after FULL", x.positions(), 10);
        due("add(1024, 0)", x.add(1024, 0), BAD);
        due("positions() after BAD", x.positions(), 10);
    }

    private static void positionsAtLeast1() {
        GameValues x = with(0, 0);
        due("drop()", x.drop(), 1);
        due("positions()", x.positions(), 1);
        due("drop()", x.drop(), BAD);
        due("positions() after BAD", x.positions(), 1);
    }

    // ---- Promise 5

    private static void movesEmptyAndWhole() {
        GameValues x = with(0, 1, 3, 0, 7, 7);
        due("moves(1, 0)", x.moves(1, 0), 0);
        due("moves(1, 1)", x.moves(1, 1), 1);
        due("moves(2, 0)", x.moves(2, 0), 3);
        due("moves(2, 1)", x.moves(2, 1), 0);
        due("moves(3, 0)", x.moves(3, 0), 7);
        due("moves(3, 1)", x.moves(3, 1), 7);
        GameValues full = with(1, 1, 1, 1, 1, 1, 1, 1, 1, 1, 1, 1, 1, 1, 1, 1, 511, 256);
        due("moves(9, 0)", full.moves(9, 0), 511);
        due("moves(9, 1)", full.moves(9, 1), 256);
    }

    private static void movesNoPosition() {
        for (int count = 1; count <= 10; count++) {
            GameValues x = starsLeft(count);
            for (int p : notThere(count)) {
                due(count + " there, moves(" + p + ", 0)", x.moves(p, 0), BAD);
                due(count + " there, moves(" + p + ", 1)", x.moves(p, 1), BAD);
            }
        }
    }

    private static void movesNoSide() {
        GameValues x = tenKinds();
        for (int p = 0; p < 10; p++) {
            for (int side : NO_SIDES) {
                due("moves(" + p + ", " + side + ")", x.moves(p, side), BAD);
            }
        }
        due("moves(10, 2)", x.moves(10, 2), BAD);
        due("moves(-1, -1)", x.moves(-1, -1), BAD);
    }

    // ---- Promise 6

    private static void compareWithItself() {
        GameValues x = tenKinds();
        for (int p = 0; p < 10; p++) {
            due("compare(" + p + ", " + p + ")", x.compare(p, p), EQUAL);
        }
    }

    private static void compareFirstAndLast() {
        GameValues x = tenNumbers();
        due("compare(9, 8)", x.compare(9, 8), GREATER);
        due("compare(8, 9)", x.compare(8, 9), LESS);
        due("compare(9, 0)", x.compare(9, 0), GREATER);
        due("compare(0, 9)", x.compare(0, 9), LESS);
        due("compare(9, 9)", x.compare(9, 9), EQUAL);
        GameValues y = tenKinds();
        due("compare(9, 1)", y.compare(9, 1), EQUAL);
        due("compare(9, 0)", y.compare(9, 0), CONFUSED);
    }

    private static void compareNotThere() {
        for (int count = 1; count <= 10; count++) {
            GameValues x = starsLeft(count);
            for (int p : notThere(count)) {
                due(count + " there, compare(" + p + ", 0)", x.compare(p, 0), BAD);
                due(count + " there, compare(0, " + p + ")", x.compare(0, p), BAD);
                due("compare(" + p + ", last)", x.compare(p, count - 1), BAD);
                due("compare(last, " + p + ")", x.compare(count - 1, p), BAD);
                due("compare(" + p + ", " + p + ")", x.compare(p, p), BAD);
            }
        }
    }

    // ---- Promise 7

    private static void winsNoPosition() {
        for (int count = 1; count <= 10; count++) {
            GameValues x = starsLeft(count);
            for (int p : notThere(count)) {
                due(count + " there, wins(" + p + ", 0)", x.wins(p, 0), false);
                due(count + " there, wins(" + p + ", 1)", x.wins(p, 1), false);
            }
            due("wins(last, 0)", x.wins(count - 1, 0), count > 1);
            due("wins(last, 1)", x.wins(count - 1, 1), count > 1);
        }
    }

    private static void winsNoSide() {
        GameValues x = starsLeft(10);
        for (int p = 0; p < 10; p++) {
            for (int side : NO_SIDES) {
                due("wins(" + p + ", " + side + ")", x.wins(p, side), false);
            }
        }
        due("wins(10, 2)", x.wins(10, 2), false);
        due("wins(-1, -1)", x.wins(-1, -1), false);
    }

    // ---- Promise 8

    private static void winsSumWithZero() {
        GameValues x = tenKinds();
        for (int p = 0; p < 10; p++) {
            for (int side = 0; side < 2; side++) {
                due("winsSum(" + p + ", 0, " + side + ")", x.winsSum(p, 0, side), x.wins(p, side));
                due("winsSum(0, " + p + ", " + side + ")", x.winsSum(0, p, side), x.wins(p, side));
            }
        }
    }

    private static void winsSumNotThere(boolean first) {
        for (int count = 1; count <= 10; count++) {
            GameValues x = starsLeft(count);
            for (int p : notThere(count)) {
                for (int side = 0; side < 2; side++) {
                    String of = p + " in the " + (first ? "first" : "second") + " place, side " + side;
                    due("winsSum of 0 and " + of, first ? x.winsSum(p, 0, side) : x.winsSum(0, p, side), false);
                    int last = count - 1;
                    due("winsSum of last and " + of, first ? x.winsSum(p, last, side) : x.winsSum(last, p, side),
                            false);
                }
                due("winsSum(" + p + ", " + p + ", 0)", x.winsSum(p, p, 0), false);
            }
        }
    }

    private static void winsSumNoSide() {
        GameValues x = starsLeft(10);
        for (int p = 1; p < 10; p++) {
            for (int side : NO_SIDES) {
                due("winsSum(" + p + ", 0, " + side + ")", x.winsSum(p, 0, side), false);
                due("winsSum(0, " + p + ", " + side + ")", x.winsSum(0, p, side), false);
            }
        }
        due("winsSum(10, 10, 2)", x.winsSum(10, 10, 2), false);
    }

    // ---- Promise 9

    private static void compareSumWithZero() {
        for (int p = 0; p < 10; p++) {
            GameValues x = tenKinds();
            for (int q = 0; q < 10; q++) {
                due("compareSum(" + p + ", 0, " + q + ")", x.compareSum(p, 0, q), x.compare(p, q));
                due("compareSum(0, " + p + ", " + q + ")", x.compareSum(0, p, q), x.compare(p, q));
                due("compareSum(" + q + ", " + p + ", " + p + ")", x.compareSum(q, p, p), x.compare(q, 0));
            }
        }
    }

    private static void compareSumFirstAndLast() {
        GameValues x = tenNumbers();
        due("compareSum(9, 9, 9)", x.compareSum(9, 9, 9), GREATER);
        due("compareSum(0, 0, 9)", x.compareSum(0, 0, 9), LESS);
        due("compareSum(4, 5, 9)", x.compareSum(4, 5, 9), EQUAL);
        due("compareSum(4, 4, 9)", x.compareSum(4, 4, 9), LESS);
        due("compareSum(5, 5, 9)", x.compareSum(5, 5, 9), GREATER);
        due("compareSum(0, 9, 9)", x.compareSum(0, 9, 9), EQUAL);
        due("compareSum(9, 0, 9)", x.compareSum(9, 0, 9), EQUAL);
        GameValues stars = starsLeft(10);
        due("compareSum(9, 9, 9) of stars", stars.compareSum(9, 9, 9), CONFUSED);
        due("compareSum(9, 8, 0) of stars", stars.compareSum(9, 8, 0), EQUAL);
    }

    private static void compareSumNotThere(int place) {
        for (int count = 1; count <= 10; count++) {
            GameValues x = starsLeft(count);
            for (int n : notThere(count)) {
                for (int there = 0; there < count; there += count > 1 ? count - 1 : 1) {
                    int p = place == 0 ? n : there;
                    int q = place == 1 ? n : there;
                    int r = place == 2 ? n : there;
                    due(count + " there, compareSum(" + p + ", " + q + ", " + r + ")", x.compareSum(p, q, r), BAD);
                }
            }
        }
    }

    private static void compareSumSeveralNotThere() {
        for (int count = 1; count <= 10; count++) {
            GameValues x = zerosLeft(count);
            for (int n : notThere(count)) {
                due("compareSum(" + n + ", " + n + ", 0)", x.compareSum(n, n, 0), BAD);
                due("compareSum(" + n + ", 0, " + n + ")", x.compareSum(n, 0, n), BAD);
                due("compareSum(0, " + n + ", " + n + ")", x.compareSum(0, n, n), BAD);
                due("compareSum(" + n + ", " + n + ", " + n + ")", x.compareSum(n, n, n), BAD);
            }
        }
    }

    // ---- Promise 10

    private static void dominatedNoOtherMove() {
        GameValues x = tenKinds();
        due("no moves, Left", x.dominated(0, 0), 0);
        due("no moves, Right", x.dominated(0, 1), 0);
        due("no moves of Right", x.dominated(2, 1), 0);
        due("no moves of Left", x.dominated(3, 0), 0);
        due("one move, Left", x.dominated(6, 0), 0);
        due("one move, Right", x.dominated(6, 1), 0);
    }

    /** A better position does not count as the other side's move, nor as nobody's. */
    private static void dominatedByItsOwnMovesOnly() {
        GameValues x = with(1, 0, 0, 1, 1, 1, 1, 2);
        due("dominated(3, 0), one is nobody's move", x.dominated(3, 0), 0);
        due("dominated(3, 1), minus one is nobody's move", x.dominated(3, 1), 0);
        due("dominated(4, 0), one is Right's move", x.dominated(4, 0), 0);
        due("dominated(4, 1), zero is Left's move", x.dominated(4, 1), 0);
        due("add(3, 3)", x.add(3, 3), 5);
        due("dominated(5, 0), one is Left's move too", x.dominated(5, 0), 1);
        due("dominated(5, 1), zero is Right's move too", x.dominated(5, 1), 2);
    }

    private static void dominatedConfusedStay() {
        GameValues x = with(1, 1, 3, 3);
        due("zero and star, Left", x.dominated(2, 0), 0);
        due("zero and star, Right", x.dominated(2, 1), 0);
    }

    private static void dominatedLeastOfEqualOnes() {
        GameValues x = with(0, 0, 0, 0, 7, 7, 6, 6, 5, 5);
        due("0, 1 and 2, Left", x.dominated(3, 0), 6);
        due("0, 1 and 2, Right", x.dominated(3, 1), 6);
        due("1 and 2, Left: equal to 0, which is no move", x.dominated(4, 0), 4);
        due("1 and 2, Right: equal to 0, which is no move", x.dominated(4, 1), 4);
        due("0 and 2, Left", x.dominated(5, 0), 4);
        due("0 and 2, Right", x.dominated(5, 1), 4);
    }

    /** The least of equal ones is spared because of those only, not because of a better one. */
    private static void dominatedLeastOfEqualOnesByABetterOne() {
        GameValues x = with(0, 0, 1, 0, 0, 1, 15, 15, 7, 11);
        due("zeros, one and minus one, Left", x.dominated(4, 0), 1 + 2 + 8);
        due("zeros, one and minus one, Right", x.dominated(4, 1), 1 + 2 + 4);
        due("zeros and one, Left", x.dominated(5, 0), 1 + 2);
        due("zeros and minus one, Right", x.dominated(5, 1), 1 + 2);
        due("add(11, 7)", x.add(11, 7), 6);
        due("zeros and minus one, Left", x.dominated(6, 0), 2 + 8);
        due("zeros and one, Right", x.dominated(6, 1), 2 + 4);
    }

    private static void dominatedFirstAndLastMove() {
        GameValues x = with(1, 0, 2, 0, 4, 0, 8, 0, 16, 0, 32, 0, 64, 0, 128, 0, 511, 511);
        due("0 to 8, Left", x.dominated(9, 0), 511 - 256);
        due("0 to 8, Right", x.dominated(9, 1), 511 - 1);
    }

    private static void dominatedNoPosition() {
        for (int count = 1; count <= 10; count++) {
            GameValues x = starsLeft(count);
            for (int p : notThere(count)) {
                due(count + " there, dominated(" + p + ", 0)", x.dominated(p, 0), BAD);
                due(count + " there, dominated(" + p + ", 1)", x.dominated(p, 1), BAD);
            }
        }
    }

    private static void dominatedNoSide() {
        GameValues x = tenKinds();
        for (int p = 0; p < 10; p++) {
            for (int side : NO_SIDES) {
                due("dominated(" + p + ", " + side + ")", x.dominated(p, side), BAD);
            }
        }
        due("dominated(10, 2)", x.dominated(10, 2), BAD);
    }

    // ---- Promise 11

    private static void firstIsItself() {
        GameValues x = tenNumbers();
        for (int p = 0; p < 10; p++) {
            due("first(" + p + ")", x.first(p), p);
        }
    }

    private static void firstIsTheLeast() {
        GameValues zeros = zerosLeft(10);
        for (int p = 0; p < 10; p++) {
            due("first(" + p + ") of zeros", zeros.first(p), 0);
        }
        GameValues stars = starsLeft(10);
        for (int p = 1; p < 10; p++) {
            due("first(" + p + ") of stars", stars.first(p), 1);
        }
        GameValues x = tenKinds();
        due("first(7)", x.first(7), 0);
        due("first(8)", x.first(8), 2);
        due("first(9)", x.first(9), 1);
    }

    private static void firstNoPosition() {
        for (int count = 1; count <= 10; count++) {
            GameValues x = zerosLeft(count);
            for (int p : notThere(count)) {
                due(count + " there, first(" + p + ")", x.first(p), BAD);
            }
        }
    }

    // ---- Promise 12

    private static void valuesLeastAndMost() {
        due("values() of a new object", new GameValues().values(), 1);
        due("values() of ten zeros", zerosLeft(10).values(), 1);
        due("values() of zero and nine stars", starsLeft(10).values(), 2);
        due("values() of ten numbers", tenNumbers().values(), 10);
        due("values() of ten kinds", tenKinds().values(), 7);
    }

    private static void valuesOfThoseThere() {
        GameValues x = tenNumbers();
        for (int left = 9; left >= 1; left--) {
            due("drop()", x.drop(), left);
            due("values()", x.values(), left);
        }
    }

    // ---- Promise 13

    private static void depthNone() {
        GameValues x = with(0, 0);
        due("depth(0)", x.depth(0), 0);
        due("depth(1) of empty sets", x.depth(1), 0);
    }

    private static void depthNine() {
        due("depth(9) of moves of Left", tenNumbers().depth(9), 9);
        GameValues rights = with(0, 1, 0, 2, 0, 4, 0, 8, 0, 16, 0, 32, 0, 64, 0, 128, 0, 256);
        due("depth(9) of moves of Right", rights.depth(9), 9);
        GameValues inTurn = with(1, 0, 0, 2, 4, 0, 0, 8, 16, 0, 0, 32, 64, 0, 0, 128, 256, 0);
        due("depth(9) of moves in turn", inTurn.depth(9), 9);
        GameValues all = with(1, 1, 3, 3, 7, 7, 15, 15, 31, 31, 63, 63, 127, 127, 255, 255, 511, 511);
        due("depth(9) of all moves", all.depth(9), 9);
    }

    /** The greatest number is neither that of the first move, nor of the last one, nor of one side. */
    private static void depthGreatest() {
        GameValues x = with(1, 0, 0, 2, 4, 0, 0, 0, 24, 1, 1, 24, 16, 8);
        due("depth(3)", x.depth(3), 3);
        due("depth(4)", x.depth(4), 0);
        due("depth(5) by Left's first move", x.depth(5), 4);
        due("depth(6) by Right's first move", x.depth(6), 4);
        due("depth(7)", x.depth(7), 4);
    }

    private static void depthNoPosition() {
        for (int count = 1; count <= 10; count++) {
            GameValues x = starsLeft(count);
            for (int p : notThere(count)) {
                due(count + " there, depth(" + p + ")", x.depth(p), BAD);
            }
        }
    }

    // ---- Promise 14

    private static void aboveItselfAlone() {
        due("above(0) of a new object", new GameValues().above(0), 1);
        due("above(9), the greatest", tenNumbers().above(9), 512);
        GameValues x = tenKinds();
        due("above(6), confused with all", x.above(6), 64);
    }

    private static void aboveAll() {
        due("above(0), the least", tenNumbers().above(0), ALL_TEN);
        GameValues zeros = zerosLeft(10);
        for (int p = 0; p < 10; p++) {
            due("above(" + p + ") of zeros", zeros.above(p), ALL_TEN);
        }
    }

    private static void aboveOfThoseThere() {
        for (int count = 1; count <= 10; count++) {
            GameValues x = zerosLeft(count);
            due(count + " there, above(0)", x.above(0), (1 << count) - 1);
            due(count + " there, above(last)", x.above(count - 1), (1 << count) - 1);
        }
    }

    private static void aboveNoPosition() {
        for (int count = 1; count <= 10; count++) {
            GameValues x = zerosLeft(count);
            for (int p : notThere(count)) {
                due(count + " there, above(" + p + ")", x.above(p), BAD);
            }
        }
    }

    // ---- Promise 15

    private static void oppositeWithItself() {
        String own = "++----++-+";
        GameValues x = tenKinds();
        for (int p = 0; p < 10; p++) {
            due("opposite(" + p + ", " + p + ")", x.opposite(p, p), own.charAt(p) == '+');
        }
        due("opposite(2, 3) of one and minus one", x.opposite(2, 3), true);
        due("opposite(8, 3) of one again and minus one", x.opposite(8, 3), true);
        due("opposite(3, 8)", x.opposite(3, 8), true);
        due("opposite(2, 8) of one and one", x.opposite(2, 8), false);
        due("opposite(1, 0): confused", x.opposite(1, 0), false);
        due("opposite(2, 0): greater", x.opposite(2, 0), false);
        due("opposite(3, 0): less", x.opposite(3, 0), false);
    }

    private static void oppositeNotThere(boolean first) {
        for (int count = 1; count <= 10; count++) {
            GameValues x = zerosLeft(count);
            for (int n : notThere(count)) {
                due("opposite of 0 and " + n, first ? x.opposite(n, 0) : x.opposite(0, n), false);
                due("opposite of last and " + n, first ? x.opposite(n, count - 1) : x.opposite(count - 1, n), false);
                due("opposite of " + n + " twice", x.opposite(n, n), false);
            }
            due("opposite(last, 0)", x.opposite(count - 1, 0), true);
        }
    }

    // ---- all questions

    private static void refusedQuestions(GameValues x, int n, int side) {
        x.moves(n, 0);
        x.moves(0, side);
        x.compare(n, 0);
        x.compare(0, n);
        x.wins(n, 0);
        x.wins(0, side);
        x.winsSum(n, 0, 0);
        x.winsSum(0, n, 1);
        x.winsSum(0, 0, side);
        x.compareSum(n, 0, 0);
        x.compareSum(0, n, 0);
        x.compareSum(0, 0, n);
        x.dominated(n, 1);
        x.dominated(0, side);
        x.first(n);
        x.depth(n);
        x.above(n);
        x.opposite(n, 0);
        x.opposite(0, n);
    }

    private static void refusedQuestionsChangeNothing() {
        same(() -> {
            GameValues x = tenKinds();
            for (int n : new int[] {10, 11, 32, -1, MIN, MAX}) {
                refusedQuestions(x, n, n);
            }
            return x;
        }, BoundaryTest::tenKinds);
    }

    // ---- the sentences

    private static void useAndTerms() {
        test("\"at most 512 calls\": questions", BoundaryTest::calls512Questions);
        test("\"at most 512 calls\": adds and drops", BoundaryTest::calls512AddsAndDrops);
        test("\"at most 512 calls\": refused calls", BoundaryTest::calls512Refused);
        test("\"whoever can't move has lost\"", BoundaryTest::cantMoveHasLost);
        test("\"numbered 0 .. 9 in the order in which they are added\"", BoundaryTest::numbered0To9);
        test("\"can be moved to from later ones only\"", BoundaryTest::movedToFromLaterOnly);
        test("\"Position 0 is always there\"", BoundaryTest::position0IsAlwaysThere);
        test("\"nobody can move from it\"", BoundaryTest::nobodyMovesFrom0);
        test("\"one move in one of them\"", BoundaryTest::oneMoveInOneOfThem);
        test("\"there and in all positions one can come to from it\"", BoundaryTest::turnedOverAllTheWayDown);
        test("\"EQUAL when each is at least the other one\" and so on", BoundaryTest::eachWayToStand);
    }

    private static void promises1To4() {
        test("1: \"Position 0 only\": position 0", BoundaryTest::newHasPosition0);
        test("1: \"Position 0 only\": no other", BoundaryTest::newHasNoOther);
        test("1: \"Position 0 only\": whatever other objects have", BoundaryTest::newIsNotTouchedByOthers);
        test("2: the empty set", BoundaryTest::addEmptySets);
        test("2: the set of all", BoundaryTest::addWholeSets);
        test("2: \"a bit of a position that is not there\", left", () -> addBitNotThere(true));
        test("2: \"a bit of a position that is not there\", right", () -> addBitNotThere(false));
        test("2: \"or any other bit\", left", () -> addAnyOtherBit(true));
        test("2: \"or any other bit\", right", () -> addAnyOtherBit(false));
        test("2: \"BAD when a set has\": both", BoundaryTest::addBothSetsBad);
        test("2: BAD changes nothing", BoundaryTest::addBadChangesNothing);
        test("2: \"FULL when there are ten\"", BoundaryTest::addNinthFitsTenthDoesNot);
        test("2: FULL changes nothing", BoundaryTest::addFullChangesNothing);
        test("2: \"tested in this order\"", BoundaryTest::addBadBeforeFull);
        test("2: no longer full after drop", BoundaryTest::addAfterFullAndDrop);
        test("3: \"Takes the last position away and answers how many are left\"", BoundaryTest::dropFromTenToOne);
        test("3: \"BAD when it is position 0\"", BoundaryTest::dropBadAt0);
        test("3: BAD changes nothing", BoundaryTest::dropBadChangesNothing);
        test("3: the others stay as they are", BoundaryTest::dropLeavesTheOthers);
        test("3: what is added in a dropped place is new", BoundaryTest::dropLeavesNoTrace);
        test("4: \"The number of positions\": ten at most", BoundaryTest::positionsFrom1To10);
        test("4: \"The number of positions\": one at least", BoundaryTest::positionsAtLeast1);
    }

    private static void promises5To9() {
        test("5: the empty set and the set of all", BoundaryTest::movesEmptyAndWhole);
        test("5: \"BAD when there is no position p\"", BoundaryTest::movesNoPosition);
        test("5: \"or side is not 0 or 1\"", BoundaryTest::movesNoSide);
        test("6: p and q the same", BoundaryTest::compareWithItself);
        test("6: the first and the last position", BoundaryTest::compareFirstAndLast);
        test("6: \"BAD when one is not there\"", BoundaryTest::compareNotThere);
        test("7: \"false when there is no position p\"", BoundaryTest::winsNoPosition);
        test("7: \"or side is not 0 or 1\"", BoundaryTest::winsNoSide);
        test("8: a sum with position 0", BoundaryTest::winsSumWithZero);
        test("8: \"false when one is not there\", p", () -> winsSumNotThere(true));
        test("8: \"false when one is not there\", q", () -> winsSumNotThere(false));
        test("8: \"or side is not 0 or 1\"", BoundaryTest::winsSumNoSide);
        test("9: sums with position 0", BoundaryTest::compareSumWithZero);
        test("9: the first and the last position", BoundaryTest::compareSumFirstAndLast);
        test("9: \"BAD when one is not there\", p", () -> compareSumNotThere(0));
        test("9: \"BAD when one is not there\", q", () -> compareSumNotThere(1));
        test("9: \"BAD when one is not there\", r", () -> compareSumNotThere(2));
        test("9: \"BAD when one is not there\", several", BoundaryTest::compareSumSeveralNotThere);
    }

    private static void promises10To15() {
        test("10: \"some other move\" when there is none", BoundaryTest::dominatedNoOtherMove);
        test("10: \"some other move of it from p\"", BoundaryTest::dominatedByItsOwnMovesOnly);
        test("10: \"no better\": confused ones", BoundaryTest::dominatedConfusedStay);
        test("10: \"of equal ones the one with the least number\"", BoundaryTest::dominatedLeastOfEqualOnes);
        test("10: \"not so because of the others\"", BoundaryTest::dominatedLeastOfEqualOnesByABetterOne);
        test("10: the set of all", BoundaryTest::dominatedFirstAndLastMove);
        test("10: \"BAD as in moves\": no position p", BoundaryTest::dominatedNoPosition);
        test("10: \"BAD as in moves\": side is not 0 or 1", BoundaryTest::dominatedNoSide);
        test("11: no other one is equal to p", BoundaryTest::firstIsItself);
        test("11: \"The position with the least number\"", BoundaryTest::firstIsTheLeast);
        test("11: \"BAD when there is no position p\"", BoundaryTest::firstNoPosition);
        test("12: \"The number of different values\": one to ten", BoundaryTest::valuesLeastAndMost);
        test("12: \"groups of positions\": dropped ones are none", BoundaryTest::valuesOfThoseThere);
        test("13: no moves", BoundaryTest::depthNone);
        test("13: \"by both sides, in turn or not\": nine moves", BoundaryTest::depthNine);
        test("13: \"The greatest number of moves\"", BoundaryTest::depthGreatest);
        test("13: \"BAD when there is no position p\"", BoundaryTest::depthNoPosition);
        test("14: p alone is at least p", BoundaryTest::aboveItselfAlone);
        test("14: all are at least p", BoundaryTest::aboveAll);
        test("14: dropped ones are not at least p", BoundaryTest::aboveOfThoseThere);
        test("14: \"BAD when there is no position p\"", BoundaryTest::aboveNoPosition);
        test("15: p and q the same, and other edges", BoundaryTest::oppositeWithItself);
        test("15: \"false when one is not there\", p", () -> oppositeNotThere(true));
        test("15: \"false when one is not there\", q", () -> oppositeNotThere(false));
        test("5 to 15: a refused question changes nothing", BoundaryTest::refusedQuestionsChangeNothing);
    }

    public static void main(String[] args) {
        useAndTerms();
        promises1To4();
        promises5To9();
        promises10To15();
        System.out.println(wrong == 0 ? tests + " tests of boundary cases hold" : wrong + " answers are not as due");
        if (wrong != 0) {
            System.exit(1);
        }
    }
}
