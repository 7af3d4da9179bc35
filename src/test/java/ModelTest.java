import java.util.ArrayList;
import java.util.HashMap;
import java.util.List;
import java.util.Map;

/**
 * Asks every question of many objects and compares with a model that plays the games out by the
 * document's words: every form turned over is really made, and "at least" is asked both ways.
 */
public final class ModelTest {
    private static final class Game {
        final List<Game> left = new ArrayList<>();
        final List<Game> right = new ArrayList<>();
        Game turned;

        Game turnedOver() {
            if (turned == null) {
                turned = new Game();
                for (Game g : right) {
                    turned.left.add(g.turnedOver());
                }
                for (Game g : left) {
                    turned.right.add(g.turnedOver());
                }
            }
            return turned;
        }
    }

    private static final class Model {
        final List<Game> games = new ArrayList<>();
        final List<int[]> sets = new ArrayList<>();
        // Each add with its two sets, each drop as an empty array.
        final List<int[]> history = new ArrayList<>();
        final Map<List<Object>, Boolean> known = new HashMap<>();

        Model() {
            push(0, 0);
        }

        void push(int left, int right) {
            Game game = new Game();
            for (int p = 0; p < games.size(); p++) {
                if ((left >> p & 1) == 1) {
                    game.left.add(games.get(p));
                }
                if ((right >> p & 1) == 1) {
                    game.right.add(games.get(p));
                }
            }
            games.add(game);
            sets.add(new int[] {left, right});
        }

        void add(int left, int right) {
            push(left, right);
            history.add(new int[] {left, right});
        }

        void drop() {
            history.add(new int[0]);
            games.remove(games.size() - 1);
            sets.remove(sets.size() - 1);
        }

        boolean firstWins(List<Game> sum, int side) {
            List<Object> key = new ArrayList<>(sum);
            key.add(side);
            Boolean old = known.get(key);
            if (old != null) {
                return old;
            }
            boolean wins = false;
            for (int i = 0; i < sum.size() && !wins; i++) {
                Game part = sum.get(i);
                for (Game to : side == 0 ? part.left : part.right) {
                    List<Game> next = new ArrayList<>(sum);
                    next.set(i, to);
                    wins = wins || !firstWins(next, 1 - side);
                }
            }
            known.put(key, wins);
            return wins;
        }

        boolean atLeast(List<Game> one, List<Game> other) {
            List<Game> sum = new ArrayList<>(one);
            for (Game g : other) {
                sum.add(g.turnedOver());
            }
            return !firstWins(sum, 1);
        }

        int standing(List<Game> one, List<Game> other) {
            boolean up = atLeast(one, other);
            boolean down = atLeast(other, one);
            return up && down ? 0 : up ? 1 : down ? 2 : 3;
        }

        int compare(int p, int q) {
            return standing(List.of(games.get(p)), List.of(games.get(q)));
        }

        boolean atLeast(int p, int q) {
            return atLeast(List.of(games.get(p)), List.of(games.get(q)));
        }

        int depth(Game game) {
            int deepest = 0;
            for (Game g : game.left) {
                deepest = Math.max(deepest, 1 + depth(g));
            }
            for (Game g : game.right) {
                deepest = Math.max(deepest, 1 + depth(g));
            }
            return deepest;
        }

        int first(int p) {
            int q = 0;
            while (compare(q, p) != 0) {
                q++;
            }
            return q;
        }

        int values() {
            List<Integer> kinds = new ArrayList<>();
            for (int p = 0; p < games.size(); p++) {
                boolean isNew = true;
                for (int kind : kinds) {
                    isNew = isNew && compare(p, kind) != 0;
                }
                if (isNew) {
                    kinds.add(p);
                }
            }
            return kinds.size();
        }

        int above(int p) {
            int found = 0;
            for (int q = 0; q < games.size(); q++) {
                found += atLeast(q, p) ? 1 << q : 0;
            }
            return found;
        }

        int dominated(int p, int side) {
            int set = sets.get(p)[side];
            int found = 0;
            for (int x = 0; x < games.size(); x++) {
                boolean leastOfEqual = true;
                for (int y = 0; y < x; y++) {
                    leastOfEqual = leastOfEqual && !((set >> y & 1) == 1 && compare(x, y) == 0);
                }
                for (int y = 0; y < games.size(); y++) {
                    boolean bothMoves = (set >> x & 1) == 1 && (set >> y & 1) == 1 && x != y;
                    boolean noBetter = side == 0 ? atLeast(y, x) : atLeast(x, y);
                    if (bothMoves && noBetter && !(compare(x, y) == 0 && leastOfEqual)) {
                        found |= 1 << x;
                    }
                }
            }
            return found;
        }
    }

    private static int wrong = 0;
    private static long asked = 0;

    private static void due(Model m, String call, int a, int b, int c, int got, int want) {
        asked++;
        if (got == want) {
            return;
        }
        wrong++;
        if (wrong <= 50) {
            StringBuilder sets = new StringBuilder();
            for (int[] s : m.sets) {
                sets.append(" {").append(s[0]).append('|').append(s[1]).append('}');
            }
            System.out.println(sets + ": " + call + " of " + a + ", " + b + ", " + c
                    + " answered " + got + ", due is " + want);
        }
    }

    private static int bit(boolean b) {
        return b ? 1 : 0;
    }

    private static void askOne(GameValues x, Model m, int p) {
        Game game = m.games.get(p);
        due(m, "first", p, 0, 0, x.first(p), m.first(p));
        due(m, "depth", p, 0, 0, x.depth(p), m.depth(game));
        due(m, "above", p, 0, 0, x.above(p), m.above(p));
        for (int side = 0; side < 2; side++) {
            due(m, "moves", p, side, 0, x.moves(p, side), m.sets.get(p)[side]);
            due(m, "wins", p, side, 0, bit(x.wins(p, side)), bit(m.firstWins(List.of(game), side)));
            due(m, "dominated", p, side, 0, x.dominated(p, side), m.dominated(p, side));
        }
    }

    private static void askTwo(GameValues x, Model m, int p, int q) {
        Game one = m.games.get(p);
        Game other = m.games.get(q);
        due(m, "compare", p, q, 0, x.compare(p, q), m.compare(p, q));
        int turned = m.standing(List.of(one), List.of(other.turnedOver()));
        due(m, "opposite", p, q, 0, bit(x.opposite(p, q)), bit(turned == 0));
        for (int side = 0; side < 2; side++) {
            boolean wins = m.firstWins(List.of(one, other), side);
            due(m, "winsSum", p, q, side, bit(x.winsSum(p, q, side)), bit(wins));
        }
    }

    private static void askThree(GameValues x, Model m, int p, int q, int r) {
        int want = m.standing(List.of(m.games.get(p), m.games.get(q)), List.of(m.games.get(r)));
        due(m, "compareSum", p, q, r, x.compareSum(p, q, r), want);
    }

    /** A fresh object for each p keeps every object below the 512 calls that are promised. */
    private static void askAll(Model m) {
        int count = m.games.size();
        for (int p = 0; p < count; p++) {
            GameValues x = made(m);
            due(m, "positions", 0, 0, 0, x.positions(), count);
            due(m, "values", 0, 0, 0, x.values(), m.values());
            askOne(x, m, p);
            for (int q = 0; q < count; q++) {
                askTwo(x, m, p, q);
                for (int r = 0; r < count; r++) {
                    askThree(x, m, p, q, r);
                }
            }
        }
    }

    /** An object on which all that was done to the model is done, and answered as due. */
    private static GameValues made(Model m) {
        GameValues x = new GameValues();
        int count = 1;
        for (int[] step : m.history) {
            if (step.length == 0) {
                count--;
                due(m, "drop", 0, 0, 0, x.drop(), count);
            } else {
                due(m, "add", step[0], step[1], 0, x.add(step[0], step[1]), count);
                count++;
            }
        }
        return x;
    }

    /** Every object of four positions, the last one in the place of a dropped one. */
    private static void allSmallObjects() {
        for (int sets = 0; sets < 4 * 16 * 64; sets++) {
            Model m = new Model();
            m.add(sets & 1, sets >> 1 & 1);
            m.add(sets >> 2 & 3, sets >> 4 & 3);
            m.add(~sets >> 6 & 7, ~sets >> 9 & 7);
            m.drop();
            m.add(sets >> 6 & 7, sets >> 9 & 7);
            askAll(m);
        }
    }

    private static long state = 1;

    /** A fixed sequence, so that every run asks the same. */
    private static int next(int bound) {
        state = state * 6364136223846793005L + 1442695040888963407L;
        return (int) ((state >>> 33) % bound);
    }

    private static int someSet(int count, int sparse) {
        int set = next(1 << count);
        for (int i = 0; i < sparse; i++) {
            set &= next(1 << count);
        }
        return set;
    }

    private static void fullObjects() {
        for (int round = 0; round < 60; round++) {
            Model m = new Model();
            int sparse = round % 3;
            for (int step = 0; m.games.size() < 10; step++) {
                if (step % 4 == 3) {
                    m.drop();
                }
                int count = m.games.size();
                m.add(someSet(count, sparse), someSet(count, sparse));
            }
            due(m, "add when full", 0, 0, 0, made(m).add(0, 0), -2);
            askAll(m);
            m.drop();
            m.add(someSet(9, sparse), someSet(9, sparse));
            askAll(m);
        }
    }

    public static void main(String[] args) {
        allSmallObjects();
        fullObjects();
        System.out.println(wrong == 0 ? asked + " answers are as due" : wrong + " answers are not as due");
        if (wrong != 0) {
            System.exit(1);
        }
    }
}
