import java.util.ArrayList;
import java.util.List;
import java.util.Random;

/** Runs of calls by lot (always the same ones), each answer compared with the naive workshop's. */
public final class RandomRunsTest {
    private static final int MOST_CALLS = 512;

    private final Random lot;
    private final String name;
    private final BlockWorkshop real = new BlockWorkshop();
    private final NaiveWorkshop naive = new NaiveWorkshop();
    private int calls = 0;

    private RandomRunsTest(String kind, int seed) {
        name = kind + " " + seed;
        lot = new Random(seed * 7919L + kind.hashCode());
    }

    public static void main(String[] args) {
        for (int seed = 0; seed < 150; seed++) {
            new RandomRunsTest("anything", seed).anything();
            new RandomRunsTest("packings", seed).packings();
        }
        for (int seed = 0; seed < 250; seed++) {
            new RandomRunsTest("interlocked", seed).interlocked();
        }
        Check.end();
    }

    private void compare(String call, Check.Call due, Check.Call got) {
        if (calls < MOST_CALLS) {
            calls++;
            Check.same(name + ", call " + calls + " " + call, Check.answerOf(due), Check.answerOf(got));
        }
    }

    private void compareDeed(String call, Check.Deed due, Check.Deed got) {
        compare(call, () -> Check.answerOf(due), () -> Check.answerOf(got));
    }

    private void cube(int piece, int cell, boolean on) {
        compare("cube(" + piece + ", " + cell + ", " + on + ")",
                () -> naive.cube(piece, cell, on), () -> real.cube(piece, cell, on));
    }

    private void mirror(int piece, boolean may) {
        compareDeed("mirror(" + piece + ", " + may + ")",
                () -> naive.mirror(piece, may), () -> real.mirror(piece, may));
    }

    private void allShapes(int piece) {
        compare("shapes(" + piece + ")", () -> naive.shapes(piece), () -> real.shapes(piece));
        int from = lot.nextInt(26) - 1;
        for (int i = from; i < from + 4; i++) {
            int k = i;
            compare("shape(" + piece + ", " + k + ")", () -> naive.shape(piece, k), () -> real.shape(piece, k));
        }
    }

    private void target(int cell, int kind) {
        compareDeed("target(" + cell + ", " + kind + ")",
                () -> naive.target(cell, kind), () -> real.target(cell, kind));
    }

    private void places(int piece) {
        compare("places(" + piece + ")", () -> naive.places(piece), () -> real.places(piece));
    }

    private void pack(int budget) {
        compare("pack(" + budget + ")", () -> naive.pack(budget), () -> real.pack(budget));
        compare("tries()", naive::tries, real::tries);
    }

    private void assemble(int k, int budget) {
        compare("assemble(" + k + ", " + budget + ")",
                () -> naive.assemble(k, budget), () -> real.assemble(k, budget));
        compare("tries()", naive::tries, real::tries);
        allCells();
    }

    private void allCells() {
        for (int p = 0; p < 6; p++) {
            int piece = p;
            compare("cells(" + piece + ")", () -> naive.cells(piece), () -> real.cells(piece));
        }
    }

    private void put(int piece, long set) {
        compareDeed("put(" + piece + ", " + set + ")", () -> naive.put(piece, set), () -> real.put(piece, set));
    }

    private void take(int piece) {
        compareDeed("take(" + piece + ")", () -> naive.take(piece), () -> real.take(piece));
    }

    private void plan(int part, int limit) {
        compare("plan(" + part + ", " + limit + ")", () -> naive.plan(part, limit), () -> real.plan(part, limit));
        compare("states()", naive::states, real::states);
        for (int i = -1; i <= 3; i++) {
            int k = i;
            compare("move(" + k + ")", () -> naive.move(k), () -> real.move(k));
        }
    }

    /** A number of the range, at times one beside it. */
    private int near(int least, int most) {
        int odd = lot.nextInt(20);
        return odd == 0 ? least - 1 : odd == 1 ? most + 1 : least + lot.nextInt(most - least + 1);
    }

    private static int neighbour(int cell, int direction) {
        int axis = direction / 2;
        int stride = 1 << 2 * axis;
        int to = cell / stride % 4 + (direction % 2 == 0 ? 1 : -1);
        return to < 0 || to > 3 ? -1 : cell + (direction % 2 == 0 ? stride : -stride);
    }

    private void growPiece(int piece, int size) {
        List<Integer> has = new ArrayList<>();
        has.add(lot.nextInt(64));
        for (int i = 0; i < 200 && has.size() < size; i++) {
            int to = neighbour(has.get(lot.nextInt(has.size())), lot.nextInt(6));
            if (to >= 0 && !has.contains(to)) {
                has.add(to);
            }
        }
        for (int cell : has) {
            cube(piece, cell, true);
        }
    }

    private long somePut(int piece) {
        int count = piece < 0 || piece > 5 ? 0 : naive.shapes(piece);
        long shape = count == 0 ? lot.nextLong() : naive.shape(piece, lot.nextInt(count));
        return lot.nextInt(12) == 0 ? shape ^ 1L << lot.nextInt(64) : shape << lot.nextInt(64);
    }

    private void anything() {
        for (int p = 0; p < 6; p++) {
            if (lot.nextInt(3) > 0) {
                growPiece(p, 1 + lot.nextInt(p < 2 ? 11 : 5));
            }
        }
        for (int i = 0; i < 120; i++) {
            switch (lot.nextInt(12)) {
                case 0 -> cube(near(0, 5), near(0, 63), lot.nextInt(3) > 0);
                case 1 -> mirror(near(0, 5), lot.nextBoolean());
                case 2 -> allShapes(near(0, 5));
                case 3, 4 -> target(near(0, 63), near(0, 2));
                case 5 -> places(near(0, 5));
                case 6 -> pack(near(1, lot.nextBoolean() ? 60 : 2000));
                case 7 -> assemble(near(0, 9), near(1, 500));
                case 8, 9 -> put(near(0, 5), somePut(near(0, 5)));
                case 10 -> take(near(0, 5));
                default -> plan(near(0, 63), near(1, 20));
            }
            if (lot.nextInt(3) == 0) {
                int piece = lot.nextInt(6);
                put(piece, somePut(piece));
            }
        }
        allCells();
    }

    private void packings() {
        int made = 1 + lot.nextInt(5);
        for (int p = 0; p < made; p++) {
            growPiece(lot.nextInt(6), 1 + lot.nextInt(lot.nextInt(4) == 0 ? 10 : 4));
            mirror(lot.nextInt(6), lot.nextInt(3) == 0);
        }
        int out = lot.nextInt(4);
        int sure = lot.nextInt(5);
        int w = 1 + lot.nextInt(4);
        int d = 1 + lot.nextInt(4);
        int h = 1 + lot.nextInt(4);
        for (int cell = 0; cell < 64; cell++) {
            if (cell % 4 < w && cell / 4 % 4 < d && cell / 16 < h) {
                target(63 - cell, lot.nextInt(10) < out ? 0 : lot.nextInt(10) < 2 * sure ? 1 : 2);
            }
        }
        for (int p = 0; p < 6; p++) {
            places(p);
        }
        pack(3000);
        int tried = naive.tries();
        pack(Math.max(1, tried));
        pack(Math.max(1, tried - 1));
        for (int i = 0; i < 6; i++) {
            assemble(lot.nextInt(1 + lot.nextInt(60)), 1 + lot.nextInt(1500));
        }
        plan(lot.nextInt(64), 1 + lot.nextInt(40));
    }

    /** Cuts a box of cells into pieces that hang together, which are put where they were cut. */
    private void interlocked() {
        int count = 2 + lot.nextInt(5);
        int side = 3 + lot.nextInt(2);
        int[] owner = new int[64];
        int[] size = new int[6];
        long[] sets = new long[6];
        for (int p = 0; p < count; p++) {
            int cell = lot.nextInt(64);
            if (owner[cell] == 0) {
                owner[cell] = p + 1;
                sets[p] |= 1L << cell;
                size[p]++;
            }
        }
        for (int i = 0; i < 3000; i++) {
            int cell = lot.nextInt(64);
            int to = neighbour(cell, lot.nextInt(6));
            boolean inside = to >= 0 && to % 4 < side && to / 4 % 4 < side && to / 16 < side;
            int p = owner[cell] - 1;
            if (inside && owner[to] == 0 && p >= 0 && size[p] < 10) {
                owner[to] = p + 1;
                sets[p] |= 1L << to;
                size[p]++;
            }
        }
        for (int cell = 0; cell < 64; cell++) {
            if (owner[cell] != 0) {
                cube(owner[cell] - 1, cell, true);
            }
        }
        int all = 0;
        for (int p = 0; p < count; p++) {
            put(p, sets[p]);
            all |= sets[p] == 0 ? 0 : 1 << p;
        }
        plan(all, 300);
        plan(all, 1 + lot.nextInt(30));
        plan(lot.nextInt(64) & all, 300);
        plan(lot.nextInt(64), 40);
    }
}
