/** What the tests begin with: workshops with pieces, sets of cells, targets, and numbers that are none of a range. */
final class Build {
    /** The last three come round to a piece when only the low bits of a shift count. */
    static final int[] NO_PIECES = {-1, 6, Integer.MIN_VALUE, Integer.MAX_VALUE, 32, 64, 256};
    static final int[] NO_CELLS = {-1, 64, Integer.MIN_VALUE, Integer.MAX_VALUE, 128};
    static final int[] NO_KINDS = {-1, 3, Integer.MIN_VALUE, Integer.MAX_VALUE, 256};
    static final int[] NO_BUDGETS = {0, 200001, -1, Integer.MIN_VALUE, Integer.MAX_VALUE};
    static final int[] NO_LIMITS = {0, 301, -1, Integer.MIN_VALUE, Integer.MAX_VALUE};
    static final int[] FAR_INDEXES = {-1, Integer.MIN_VALUE, Integer.MAX_VALUE, 1000};

    private Build() {
    }

    static BlockWorkshop with(int[]... pieces) {
        BlockWorkshop x = new BlockWorkshop();
        for (int p = 0; p < pieces.length; p++) {
            for (int cell : pieces[p]) {
                x.cube(p, cell, true);
            }
        }
        return x;
    }

    /** The pieces are put where their cubes are. */
    static BlockWorkshop assembled(int[]... pieces) {
        BlockWorkshop x = with(pieces);
        for (int p = 0; p < pieces.length; p++) {
            if (pieces[p].length > 0) {
                x.put(p, set(pieces[p]));
            }
        }
        return x;
    }

    static int[] piece(int... cells) {
        return cells;
    }

    static int cell(int x, int y, int z) {
        return x + 4 * y + 16 * z;
    }

    static long set(int... cells) {
        long bits = 0;
        for (int cell : cells) {
            bits |= 1L << cell;
        }
        return bits;
    }

    static void aim(BlockWorkshop x, int kind, int... cells) {
        for (int cell : cells) {
            x.target(cell, kind);
        }
    }

    static void aimAll(BlockWorkshop x, int kind) {
        for (int cell = 0; cell < 64; cell++) {
            x.target(cell, kind);
        }
    }

    /** Two dominoes and a square of four sure cells: 4 packings, found at tries 3, 6, 9 and 12. */
    static BlockWorkshop twoDominoes() {
        BlockWorkshop x = with(piece(0, 1), piece(0, 1));
        aim(x, 1, 0, 1, 4, 5);
        return x;
    }

    /** Two cubes and three optional cells: 6 packings, the last at try 11 of 12. */
    static BlockWorkshop twoCubes() {
        BlockWorkshop x = with(piece(0), piece(0));
        aim(x, 2, 0, 1, 2);
        return x;
    }
}
