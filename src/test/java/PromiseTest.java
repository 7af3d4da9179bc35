/** Each promise of the document with ordinary inputs, the edges that it names, and wrong inputs. */
public final class PromiseTest {
    private static final int MIN = Integer.MIN_VALUE;
    private static final int MAX = Integer.MAX_VALUE;
    private static final int[] NO_SIDES = {-1, 2, 3, MIN, MAX};

    private static int wrong = 0;

    private static void due(String call, int got, int want) {
        if (got != want) {
            wrong++;
            System.out.println(call + " answered " + got + ", due is " + want);
        }
    }

    private static void due(String call, boolean got, boolean want) {
        if (got != want) {
            wrong++;
            System.out.println(call + " answered " + got + ", due is " + want);
        }
    }

    /** 0 zero, 1 one, 2 minus one, 3 star, 4 half, 5 up, 6 plus-minus one, 7 zero again as star | star. */
    private static GameValues usualGames() {
        GameValues x = new GameValues();
        due("add one", x.add(1, 0), 1);
        due("add minus one", x.add(0, 1), 2);
        due("add star", x.add(1, 1), 3);
        due("add half", x.add(1, 2), 4);
        due("add up", x.add(1, 8), 5);
        due("add plus-minus one", x.add(2, 4), 6);
        due("add zero again", x.add(8, 8), 7);
        return x;
    }

    private static GameValues fullObject() {
        GameValues x = new GameValues();
        for (int p = 1; p < 10; p++) {
            due("add number " + p, x.add(1 << (p - 1), 0), p);
        }
        return x;
    }

    /** Numbers of positions that are not there when there are count of them. */
    private static int[] notThere(int count) {
        return new int[] {count, count + 1, 10, 11, 32, 100, -1, -10, -32, MIN, MAX};
    }

    private static void constants() {
        due("BAD", GameValues.BAD, -1);
        due("FULL", GameValues.FULL, -2);
        due("EQUAL", GameValues.EQUAL, 0);
        due("GREATER", GameValues.GREATER, 1);
        due("LESS", GameValues.LESS, 2);
        due("CONFUSED", GameValues.CONFUSED, 3);
    }

    private static void promise1NewObject() {
        GameValues x = new GameValues();
        due("1: positions()", x.positions(), 1);
        due("1: moves(0, 0)", x.moves(0, 0), 0);
        due("1: moves(0, 1)", x.moves(0, 1), 0);
        due("1: moves(1, 0)", x.moves(1, 0), -1);
        due("1: wins(0, 0)", x.wins(0, 0), false);
        due("1: wins(0, 1)", x.wins(0, 1), false);
        due("1: winsSum(0, 0, 0)", x.winsSum(0, 0, 0), false);
        due("1: compare(0, 0)", x.compare(0, 0), 0);
        due("1: compareSum(0, 0, 0)", x.compareSum(0, 0, 0), 0);
        due("1: values()", x.values(), 1);
        due("1: depth(0)", x.depth(0), 0);
        due("1: above(0)", x.above(0), 1);
        due("1: opposite(0, 0)", x.opposite(0, 0), true);
        x.add(1, 0);
        due("1: positions() of another object", new GameValues().positions(), 1);
        due("1: positions() after that", x.positions(), 2);
    }

    private static void promise2Add() {
        GameValues x = new GameValues();
        int[] badSets = {2, 3, 4, 1 << 10, 1 << 30, 1 << 31, MIN, MAX, -1, -2};
        for (int set : badSets) {
            due("2: add(" + set + ", 0)", x.add(set, 0), -1);
            due("2: add(0, " + set + ")", x.add(0, set), -1);
            due("2: add(1, " + set + ")", x.add(1, set), -1);
            due("2: add(" + set + ", " + set + ")", x.add(set, set), -1);
        }
        due("2: positions() after BAD", x.positions(), 1);
        due("2: add(0, 0)", x.add(0, 0), 1);
        due("2: add(3, 2)", x.add(3, 2), 2);
        due("2: moves(2, 0)", x.moves(2, 0), 3);
        due("2: moves(2, 1)", x.moves(2, 1), 2);
        due("2: add(8, 0) to its own number", x.add(8, 0), -1);
        due("2: add(0, 8) to its own number", x.add(0, 8), -1);
    }

    private static void promise2AddWhenFull() {
        GameValues x = fullObject();
        due("2: positions() when full", x.positions(), 10);
        due("2: add(0, 0) when full", x.add(0, 0), -2);
        due("2: add(1023, 1023) when full", x.add(1023, 1023), -2);
        due("2: add(512, 0) when full", x.add(512, 0), -2);
        due("2: add(1024, 0) when full", x.add(1024, 0), -1);
        due("2: add(0, 1024) when full", x.add(0, 1024), -1);
        due("2: add(-1, 0) when full", x.add(-1, 0), -1);
        due("2: add(0, MIN) when full", x.add(0, MIN), -1);
        due("2: positions() after FULL", x.positions(), 10);
        due("2: moves(9, 0) after FULL", x.moves(9, 0), 256);
        due("2: depth(9) after FULL", x.depth(9), 9);
        due("2: drop() when full", x.drop(), 9);
        due("2: add(512, 0) of a dropped position", x.add(512, 0), -1);
        due("2: add(0, 511)", x.add(0, 511), 9);
        due("2: moves(9, 1)", x.moves(9, 1), 511);
    }

    private static void promise3Drop() {
        GameValues x = usualGames();
        for (int left = 7; left >= 1; left--) {
            due("3: drop()", x.drop(), left);
            due("3: positions()", x.positions(), left);
            due("3: moves of the dropped one", x.moves(left, 0), -1);
            due("3: compare with the dropped one", x.compare(left, 0), -1);
        }
        due("3: drop() of position 0", x.drop(), -1);
        due("3: drop() of position 0 again", x.drop(), -1);
        due("3: positions()", x.positions(), 1);
        due("3: add after drops", x.add(1, 1), 1);
        due("3: compare after drops", x.compare(1, 0), 3);
        due("3: depth after drops", x.depth(1), 1);
        due("3: drop()", x.drop(), 1);
        due("3: add in its place", x.add(0, 0), 1);
        due("3: compare in its place", x.compare(1, 0), 0);
        due("3: compareSum in its place", x.compareSum(1, 1, 1), 0);
        due("3: wins in its place", x.wins(1, 0), false);
        due("3: depth in its place", x.depth(1), 0);
        due("3: moves in its place", x.moves(1, 1), 0);
    }

    private static void promise4Positions() {
        GameValues x = new GameValues();
        for (int p = 1; p < 10; p++) {
            due("4: positions()", x.positions(), p);
            x.add(0, 1);
        }
        due("4: positions()", x.positions(), 10);
        x.add(0, 1);
        due("4: positions() after FULL", x.positions(), 10);
        x.drop();
        due("4: positions() after drop", x.positions(), 9);
    }

    private static void promise5Moves() {
        GameValues x = usualGames();
        int[] lefts = {0, 1, 0, 1, 1, 1, 2, 8};
        int[] rights = {0, 0, 1, 1, 2, 8, 4, 8};
        for (int p = 0; p < 8; p++) {
            due("5: moves(" + p + ", 0)", x.moves(p, 0), lefts[p]);
            due("5: moves(" + p + ", 1)", x.moves(p, 1), rights[p]);
            for (int side : NO_SIDES) {
                due("5: moves(" + p + ", " + side + ")", x.moves(p, side), -1);
            }
        }
        for (int p : notThere(8)) {
            due("5: moves(" + p + ", 0)", x.moves(p, 0), -1);
            due("5: moves(" + p + ", 1)", x.moves(p, 1), -1);
        }
    }

    private static void promise6Compare() {
        GameValues x = usualGames();
        // One row for each of zero, one, minus one, star, half, up, plus-minus one, zero again.
        String[] rows = {
            "=<>?<<?=",
            ">=>>>>?>",
            "<<=<<<?<",
            "?<>=<???",
            "><>>=>?>",
            "><>?<=?>",
            "??????=?",
            "=<>?<<?=",
        };
        for (int p = 0; p < 8; p++) {
            for (int q = 0; q < 8; q++) {
                due("6: compare(" + p + ", " + q + ")", x.compare(p, q), "=><?".indexOf(rows[p].charAt(q)));
            }
        }
        for (int p : notThere(8)) {
            due("6: compare(" + p + ", 0)", x.compare(p, 0), -1);
            due("6: compare(0, " + p + ")", x.compare(0, p), -1);
            due("6: compare(" + p + ", " + p + ")", x.compare(p, p), -1);
        }
    }

    private static void promise7Wins() {
        GameValues x = usualGames();
        String leftWins = "-+-++++-";
        String rightWins = "--++--+-";
        for (int p = 0; p < 8; p++) {
            due("7: wins(" + p + ", 0)", x.wins(p, 0), leftWins.charAt(p) == '+');
            due("7: wins(" + p + ", 1)", x.wins(p, 1), rightWins.charAt(p) == '+');
        }
        for (int side : NO_SIDES) {
            due("7: wins(3, " + side + ")", x.wins(3, side), false);
        }
        x.drop();
        due("7: wins(6, 0)", x.wins(6, 0), true);
        x.drop();
        for (int p : notThere(6)) {
            due("7: wins(" + p + ", 0)", x.wins(p, 0), false);
            due("7: wins(" + p + ", 1)", x.wins(p, 1), false);
        }
    }

    private static void promise8WinsSum() {
        GameValues x = usualGames();
        due("8: one and minus one, Left first", x.winsSum(1, 2, 0), false);
        due("8: one and minus one, Right first", x.winsSum(1, 2, 1), false);
        due("8: star and star, Left first", x.winsSum(3, 3, 0), false);
        due("8: star and up, Left first", x.winsSum(3, 5, 0), true);
        due("8: star and up, Right first", x.winsSum(3, 5, 1), true);
        due("8: up and up, Right first", x.winsSum(5, 5, 1), false);
        due("8: up and up, Left first", x.winsSum(5, 5, 0), true);
        due("8: plus-minus one twice, Left first", x.winsSum(6, 6, 0), false);
        due("8: plus-minus one and half, Right first", x.winsSum(6, 4, 1), true);
        due("8: plus-minus one and one, Right first", x.winsSum(6, 1, 1), true);
        due("8: plus-minus one and minus one, Left first", x.winsSum(6, 2, 0), true);
        due("8: minus one and half, Right first", x.winsSum(2, 4, 1), true);
        due("8: minus one and half, Left first", x.winsSum(2, 4, 0), false);
        for (int side : NO_SIDES) {
            due("8: winsSum(6, 3, " + side + ")", x.winsSum(6, 3, side), false);
        }
        x.drop();
        x.drop();
        for (int p : notThere(6)) {
            due("8: winsSum(" + p + ", 1, 0)", x.winsSum(p, 1, 0), false);
            due("8: winsSum(1, " + p + ", 0)", x.winsSum(1, p, 0), false);
            due("8: winsSum(2, " + p + ", 1)", x.winsSum(2, p, 1), false);
            due("8: winsSum(" + p + ", 2, 1)", x.winsSum(p, 2, 1), false);
        }
    }

    private static void promise9CompareSum() {
        GameValues x = usualGames();
        due("9: half and half to one", x.compareSum(4, 4, 1), 0);
        due("9: half and one to one", x.compareSum(4, 1, 1), 1);
        due("9: half and minus one to zero", x.compareSum(4, 2, 0), 2);
        due("9: minus one and half to minus one", x.compareSum(2, 4, 2), 1);
        due("9: up and up to star", x.compareSum(5, 5, 3), 1);
        due("9: up and star to zero", x.compareSum(5, 3, 0), 3);
        due("9: up and star to half", x.compareSum(5, 3, 4), 2);
        due("9: plus-minus one twice to zero", x.compareSum(6, 6, 7), 0);
        due("9: one and one to plus-minus one", x.compareSum(1, 1, 6), 1);
        due("9: minus one twice to plus-minus one", x.compareSum(2, 2, 6), 2);
        for (int p : notThere(8)) {
            due("9: compareSum(" + p + ", 0, 0)", x.compareSum(p, 0, 0), -1);
            due("9: compareSum(0, " + p + ", 0)", x.compareSum(0, p, 0), -1);
            due("9: compareSum(0, 0, " + p + ")", x.compareSum(0, 0, p), -1);
        }
    }

    private static void promise10Dominated() {
        GameValues x = usualGames();
        due("10: no moves, Left", x.dominated(0, 0), 0);
        due("10: no moves, Right", x.dominated(0, 1), 0);
        due("10: one move", x.dominated(6, 0), 0);
        // Zero and zero again are equal: only the later one goes.
        due("10: add(129, 129)", x.add(129, 129), 8);
        due("10: equal ones, Left", x.dominated(8, 0), 128);
        due("10: equal ones, Right", x.dominated(8, 1), 128);
        // Zero, star, zero again: star is confused with both.
        due("10: add(137, 255)", x.add(137, 255), 9);
        due("10: confused ones, Left", x.dominated(9, 0), 128);
        due("10: all, Right", x.dominated(9, 1), 255 - 4 - 64);
        x.drop();
        due("10: add(255, 6)", x.add(255, 6), 9);
        due("10: all, Left", x.dominated(9, 0), 255 - 2 - 64);
        due("10: one and minus one, Right", x.dominated(9, 1), 2);
        for (int side : NO_SIDES) {
            due("10: dominated(9, " + side + ")", x.dominated(9, side), -1);
        }
        x.drop();
        for (int p : notThere(9)) {
            due("10: dominated(" + p + ", 0)", x.dominated(p, 0), -1);
            due("10: dominated(" + p + ", 1)", x.dominated(p, 1), -1);
        }
    }

    /** Of three equal moves, and of equal ones below a better one. */
    private static void promise10EqualMoves() {
        GameValues x = new GameValues();
        x.add(0, 0);
        x.add(0, 0);
        due("10: add(7, 6)", x.add(7, 6), 3);
        due("10: three equal ones", x.dominated(3, 0), 6);
        due("10: two equal ones", x.dominated(3, 1), 4);
        due("10: add(1, 0)", x.add(1, 0), 4);
        due("10: add(22, 22)", x.add(22, 22), 5);
        due("10: below a better one, Left", x.dominated(5, 0), 6);
        due("10: below a better one, Right", x.dominated(5, 1), 16 + 4);
    }

    private static void promise11First() {
        GameValues x = usualGames();
        for (int p = 0; p < 7; p++) {
            due("11: first(" + p + ")", x.first(p), p);
        }
        due("11: first(7)", x.first(7), 0);
        // A move of Left to zero and to minus one is no better than one to zero alone.
        due("11: add(5, 0)", x.add(5, 0), 8);
        due("11: first(8)", x.first(8), 1);
        due("11: add(128, 0)", x.add(128, 0), 9);
        due("11: first(9)", x.first(9), 1);
        x.drop();
        for (int p : notThere(9)) {
            due("11: first(" + p + ")", x.first(p), -1);
        }
    }

    private static void promise12Values() {
        GameValues x = usualGames();
        due("12: values()", x.values(), 7);
        x.add(5, 0);
        due("12: values() with one twice", x.values(), 7);
        x.add(2, 0);
        due("12: values() with two", x.values(), 8);
        x.drop();
        due("12: values() after drop", x.values(), 7);
        due("12: values() of ten", fullObject().values(), 10);
        GameValues zeros = new GameValues();
        for (int p = 1; p < 10; p++) {
            zeros.add(0, 0);
            due("12: values() of zeros", zeros.values(), 1);
        }
    }

    private static void promise13Depth() {
        GameValues x = usualGames();
        int[] depths = {0, 1, 1, 1, 2, 2, 2, 2};
        for (int p = 0; p < 8; p++) {
            due("13: depth(" + p + ")", x.depth(p), depths[p]);
        }
        due("13: add(0, 129)", x.add(0, 129), 8);
        due("13: depth(8)", x.depth(8), 3);
        due("13: add(256, 3)", x.add(256, 3), 9);
        due("13: depth(9)", x.depth(9), 4);
        x.drop();
        for (int p : notThere(9)) {
            due("13: depth(" + p + ")", x.depth(p), -1);
        }
        due("13: depth of nine moves of one side", fullObject().depth(9), 9);
        GameValues flat = new GameValues();
        flat.add(0, 0);
        due("13: depth without moves", flat.depth(1), 0);
    }

    private static void promise14Above() {
        GameValues x = usualGames();
        due("14: above(0)", x.above(0), 1 + 2 + 16 + 32 + 128);
        due("14: above(1)", x.above(1), 2);
        due("14: above(2)", x.above(2), 255 - 64);
        due("14: above(3)", x.above(3), 2 + 8 + 16);
        due("14: above(4)", x.above(4), 2 + 16);
        due("14: above(5)", x.above(5), 2 + 16 + 32);
        due("14: above(6)", x.above(6), 64);
        due("14: above(7)", x.above(7), 1 + 2 + 16 + 32 + 128);
        x.drop();
        due("14: above(0) after drop", x.above(0), 1 + 2 + 16 + 32);
        for (int p : notThere(7)) {
            due("14: above(" + p + ")", x.above(p), -1);
        }
        GameValues full = fullObject();
        due("14: above(0) of ten", full.above(0), 1023);
        due("14: above(9) of ten", full.above(9), 512);
    }

    private static void promise15Opposite() {
        GameValues x = usualGames();
        String pairs = "00 07 70 77 12 21 33 66 ";
        for (int p = 0; p < 8; p++) {
            for (int q = 0; q < 8; q++) {
                boolean want = pairs.contains(p + "" + q + " ");
                due("15: opposite(" + p + ", " + q + ")", x.opposite(p, q), want);
            }
        }
        x.drop();
        for (int p : notThere(7)) {
            due("15: opposite(" + p + ", 0)", x.opposite(p, 0), false);
            due("15: opposite(0, " + p + ")", x.opposite(0, p), false);
            due("15: opposite(" + p + ", " + p + ")", x.opposite(p, p), false);
        }
    }

    public static void main(String[] args) {
        constants();
        promise1NewObject();
        promise2Add();
        promise2AddWhenFull();
        promise3Drop();
        promise4Positions();
        promise5Moves();
        promise6Compare();
        promise7Wins();
        promise8WinsSum();
        promise9CompareSum();
        promise10Dominated();
        promise10EqualMoves();
        promise11First();
        promise12Values();
        promise13Depth();
        promise14Above();
        promise15Opposite();
        System.out.println(wrong == 0 ? "all answers are as due" : wrong + " answers are not as due");
        if (wrong != 0) {
            System.exit(1);
        }
    }
}
