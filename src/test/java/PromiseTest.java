/** For each promise of the document: ordinary inputs, the edges that it names, and wrong inputs. */
public final class PromiseTest {
    /** Eight cubes around a hole, flat in z = 1, and eight around another, flat in y = 1, through both holes. */
    private static final int[] RING = {16, 17, 18, 20, 22, 24, 25, 26};
    private static final int[] LINKED_RING = {5, 6, 7, 21, 23, 37, 38, 39};

    private PromiseTest() {
    }

    public static void main(String[] args) {
        newObject();
        cubeCounts();
        cubeRefuses();
        mirrorMakesMoreShapes();
        shapesCount();
        shapeListsByRisingNumber();
        targetHasKinds();
        placesCount();
        packCountsExactly();
        packWithOptionalCells();
        packEdges();
        triesCount();
        assembleTakesAPacking();
        assembleRefuses();
        putPlaces();
        takeAndCells();
        planOfTwo();
        planOfLinkedRings();
        planRefuses();
        statesAndMoves();
        manyCallsInOneRun();
        Check.end();
    }

    private static void newObject() {
        BlockWorkshop x = new BlockWorkshop();
        for (int p = 0; p < 6; p++) {
            int piece = p;
            Check.due("1: shapes", 0, () -> x.shapes(piece));
            Check.due("1: places", 0, () -> x.places(piece));
            Check.due("1: cells", 0, () -> x.cells(piece));
        }
        Check.due("1: tries", 0, x::tries);
        Check.due("1: states", 0, x::states);
        Check.refused("1: move", Check.INDEX, () -> x.move(0));
        Check.due("1: the packing of nothing", 1, () -> x.pack(1));
        Check.due("1: assemble nothing", true, () -> x.assemble(0, 1));
        Check.refused("1: no part", Check.ARGUMENT, () -> x.plan(3, 1));
        x.cube(0, 0, true);
        Check.due("1: all cells are out", 0, () -> x.places(0));
        Check.due("1: two objects share nothing", 0, () -> new BlockWorkshop().shapes(0));
    }

    private static void cubeCounts() {
        BlockWorkshop x = new BlockWorkshop();
        for (int cell = 54; cell < 64; cell++) {
            int at = cell;
            Check.due("2: on", cell - 53, () -> x.cube(5, at, true));
        }
        Check.due("2: off", 9, () -> x.cube(5, 63, false));
        Check.due("2: on again", 10, () -> x.cube(5, 0, true));
        Check.due("2: each piece has its own", 1, () -> x.cube(4, 63, true));
        Check.due("2: off to none", 0, () -> x.cube(4, 63, false));

        BlockWorkshop y = Build.with(new int[] {0}, new int[] {1, 2});
        y.put(0, 1L << 10);
        y.put(1, 3L);
        y.cube(1, 3, true);
        Check.due("2: a changed piece is not in the assembly", 0, () -> y.cells(1));
        Check.due("2: the others stay", 1L << 10, () -> y.cells(0));
        y.put(1, 7L);
        y.cube(1, 3, false);
        Check.due("2: nor when a cube is taken away", 0, () -> y.cells(1));
    }

    private static void cubeRefuses() {
        BlockWorkshop x = Build.with(new int[] {0, 1, 2, 3, 4, 5, 6, 7, 8, 9});
        x.put(0, 1023L);
        for (int piece : Build.NO_PIECES) {
            Check.refused("2: piece " + piece, Check.ARGUMENT, () -> x.cube(piece, 0, true));
        }
        for (int cell : Build.NO_CELLS) {
            Check.refused("2: cell " + cell, Check.ARGUMENT, () -> x.cube(0, cell, true));
            Check.refused("2: cell " + cell, Check.ARGUMENT, () -> x.cube(0, cell, false));
        }
        Check.refused("2: more than 10", Check.STATE, () -> x.cube(0, 10, true));
        Check.refused("2: on already", Check.STATE, () -> x.cube(0, 9, true));
        Check.refused("2: off already", Check.STATE, () -> x.cube(0, 10, false));
        Check.refused("2: off already", Check.STATE, () -> x.cube(1, 0, false));
        Check.due("2: refused calls change nothing", 1023, () -> x.cells(0));
        Check.due("2: refused calls change nothing", 9, () -> x.cube(0, 9, false));
    }

    private static void mirrorMakesMoreShapes() {
        BlockWorkshop x = Build.with(new int[] {0, 1, 5, 21}, new int[] {0, 1, 5, 21}, new int[] {0, 1, 2, 3, 4});
        Check.due("3: not at first", 12, () -> x.shapes(0));
        Check.done("3: may", () -> x.mirror(0, true));
        Check.due("3: both hands", 24, () -> x.shapes(0));
        Check.due("3: of that piece alone", 12, () -> x.shapes(1));
        Check.done("3: may already", () -> x.mirror(0, true));
        x.put(0, Build.set(0, 4, 5, 21));
        Check.done("3: may not", () -> x.mirror(0, false));
        Check.due("3: one hand", 12, () -> x.shapes(0));
        Check.due("3: what is assembled stays", Build.set(0, 4, 5, 21), () -> x.cells(0));
        Check.refused("3: its mirror image", Check.ARGUMENT, () -> x.put(0, Build.set(0, 4, 5, 21)));
        x.mirror(2, true);
        Check.due("3: a flat piece is its own image", 24, () -> x.shapes(2));
        for (int piece : Build.NO_PIECES) {
            Check.refused("3: piece " + piece, Check.ARGUMENT, () -> x.mirror(piece, true));
        }
        Build.aim(x, 2, 0, 1, 4, 5, 16, 17, 20, 21);
        Check.due("3: places of one hand", 12, () -> x.places(1));
        x.mirror(1, true);
        Check.due("3: places of both", 24, () -> x.places(1));
        x.mirror(1, false);
        Check.due("3: places of one hand again", 12, () -> x.places(1));
    }

    private static void shapesCount() {
        int[][] pieces = {{63}, {42, 43}, {0, 1, 4}, {0, 1, 2, 5}, {0, 1, 4, 5}, {0, 1, 2, 3, 4, 20}};
        int[] due = {1, 3, 12, 12, 3, 24};
        BlockWorkshop x = Build.with(pieces);
        for (int p = 0; p < 6; p++) {
            int piece = p;
            Check.due("4: shapes of " + p, due[p], () -> x.shapes(piece));
        }
        x.mirror(5, true);
        Check.due("4: all 48", 48, () -> x.shapes(5));
        BlockWorkshop y = Build.with(new int[] {0, 5}, new int[] {3, 4}, new int[] {15, 16}, new int[] {0, 63},
                new int[] {0, 1, 3}, new int[] {0, 1, 2, 18, 34, 35, 39, 43, 59});
        for (int p = 0; p < 5; p++) {
            int piece = p;
            Check.due("4: does not hang together", 0, () -> y.shapes(piece));
            Check.due("4: no places either", 0, () -> y.places(piece));
            Check.refused("4: no shape either", Check.INDEX, () -> y.shape(piece, 0));
        }
        Check.due("4: a long row hangs together", 24, () -> y.shapes(5));
        Check.due("4: made again by a cube", 3, () -> y.cube(0, 1, true));
        Check.due("4: made again by a cube", 12, () -> y.shapes(0));
        for (int piece : Build.NO_PIECES) {
            Check.refused("4: piece " + piece, Check.ARGUMENT, () -> y.shapes(piece));
        }
    }

    private static void shapeListsByRisingNumber() {
        BlockWorkshop x = Build.with(new int[] {61, 62, 63}, new int[] {0, 1, 4},
                new int[] {0, 1, 2, 3, 7, 11, 15, 31, 47, 63});
        long[] row = {Build.set(0, 1, 2), Build.set(0, 4, 8), Build.set(0, 16, 32)};
        long[] corner = {Build.set(0, 1, 4), Build.set(0, 1, 5), Build.set(0, 4, 5), Build.set(1, 4, 5),
            Build.set(0, 1, 16), Build.set(0, 4, 16), Build.set(0, 1, 17), Build.set(0, 16, 17),
            Build.set(1, 16, 17), Build.set(0, 4, 20), Build.set(0, 16, 20), Build.set(4, 16, 20)};
        for (int i = 0; i < 3; i++) {
            int k = i;
            Check.due("5: row", row[k], () -> x.shape(0, k));
        }
        for (int i = 0; i < 12; i++) {
            int k = i;
            Check.due("5: corner " + k, corner[k], () -> x.shape(1, k));
        }
        int count = x.shapes(2);
        boolean signed = false;
        for (int i = 1; i < count; i++) {
            int k = i;
            Check.due("5: rising without a sign", true,
                    () -> Long.compareUnsigned(x.shape(2, k - 1), x.shape(2, k)) < 0);
            signed |= x.shape(2, k) < 0;
        }
        Check.same("5: some shape has cell 63", "true", String.valueOf(signed));
        Check.refused("5: shape 3 of 3", Check.INDEX, () -> x.shape(0, 3));
        Check.refused("5: shape -1", Check.INDEX, () -> x.shape(0, -1));
        Check.refused("5: shape 0 of an unmade piece", Check.INDEX, () -> x.shape(5, 0));
        Check.refused("5: far beyond", Check.INDEX, () -> x.shape(0, Integer.MAX_VALUE));
        Check.refused("5: far below", Check.INDEX, () -> x.shape(0, Integer.MIN_VALUE));
        for (int piece : Build.NO_PIECES) {
            Check.refused("5: piece " + piece, Check.ARGUMENT, () -> x.shape(piece, -1));
        }
    }

    private static void targetHasKinds() {
        BlockWorkshop x = Build.with(new int[] {0});
        x.target(63, 1);
        Check.due("6: sure is in", 1, () -> x.places(0));
        x.target(62, 2);
        Check.due("6: optional is in", 2, () -> x.places(0));
        Check.due("6: sure is to be taken", 1, () -> x.pack(10));
        x.target(63, 2);
        Check.due("6: sure to optional", 2, () -> x.pack(10));
        x.target(62, 1);
        Check.due("6: optional to sure", 1, () -> x.pack(10));
        x.target(62, 0);
        Check.due("6: sure to out", 1, () -> x.places(0));
        x.target(63, 0);
        Check.due("6: optional to out", 0, () -> x.places(0));
        Check.done("6: out already", () -> x.target(63, 0));
        for (int cell : Build.NO_CELLS) {
            Check.refused("6: cell " + cell, Check.ARGUMENT, () -> x.target(cell, 1));
        }
        for (int kind : Build.NO_KINDS) {
            Check.refused("6: kind " + kind, Check.ARGUMENT, () -> x.target(5, kind));
        }
        Check.due("6: refused calls change nothing", 0, () -> x.places(0));
    }

    private static void placesCount() {
        BlockWorkshop x = Build.with(new int[] {0}, new int[] {62, 63}, new int[] {0, 1, 2, 3},
                new int[] {0, 1, 2, 4, 17}, new int[] {0, 1, 2, 3, 7, 11, 15, 31, 47, 63});
        x.mirror(3, true);
        for (int cell = 0; cell < 64; cell++) {
            x.target(cell, 1 + cell % 2);
        }
        Check.due("7: a cube", 64, () -> x.places(0));
        Check.due("7: two cubes", 144, () -> x.places(1));
        Check.due("7: four in a row", 48, () -> x.places(2));
        Check.due("7: the most that a piece can have", 864, () -> x.places(3));
        Check.due("7: of the box's size", x.shapes(4), () -> x.places(4));
        Check.due("7: unmade", 0, () -> x.places(5));
        x.target(21, 0);
        Check.due("7: a cell less", 63, () -> x.places(0));
        Check.due("7: a cell less", 138, () -> x.places(1));
        x.cube(0, 1, true);
        Check.due("7: after a change of the piece", 138, () -> x.places(0));
        for (int piece : Build.NO_PIECES) {
            Check.refused("7: piece " + piece, Check.ARGUMENT, () -> x.places(piece));
        }
    }

    private static void packCountsExactly() {
        BlockWorkshop x = Build.twoDominoes();
        Check.due("8: two dominoes in a square", 4, () -> x.pack(200000));
        Check.due("9: tries", 12, x::tries);
        Check.due("8: just enough", 4, () -> x.pack(12));
        Check.due("8: one too few", -4, () -> x.pack(11));
        Check.due("9: all of the budget", 11, x::tries);
        Check.due("8: up to the first packing", -2, () -> x.pack(3));
        Check.due("8: before the first packing", -1, () -> x.pack(2));
        Check.due("8: the least budget", -1, () -> x.pack(1));
        Check.due("9: one try", 1, x::tries);
        for (int budget : Build.NO_BUDGETS) {
            Check.refused("8: budget " + budget, Check.ARGUMENT, () -> x.pack(budget));
        }
        Check.due("9: a refused search is none", 1, x::tries);
    }

    private static void packWithOptionalCells() {
        BlockWorkshop x = Build.with(new int[] {0}, new int[] {0});
        Build.aim(x, 2, 61, 62, 63);
        Check.due("8: two cubes in three cells", 6, () -> x.pack(100));
        Check.due("9: piece 0, then piece 1, in each", 12, x::tries);
        x.target(63, 1);
        Check.due("8: one of the cells is sure", 4, () -> x.pack(100));
        Check.due("9: the sure cell first, by pieces", 8, x::tries);
        BlockWorkshop y = Build.with(new int[] {0, 1}, new int[] {0});
        Build.aim(y, 2, 0);
        Build.aim(y, 1, 1);
        Check.due("8: a place may take optional cells below", 0, () -> y.pack(100));
        Check.due("9: also of places that meet what is taken", 5, y::tries);
        Build.aim(y, 2, 2);
        Check.due("8: with room", 2, () -> y.pack(100));
    }

    private static void packEdges() {
        BlockWorkshop x = new BlockWorkshop();
        x.target(0, 1);
        Check.due("8: sure cells and no piece", 0, () -> x.pack(1));
        Check.due("9: without a try", 0, x::tries);
        x.cube(0, 0, true);
        x.cube(0, 2, true);
        Check.due("8: an unmade piece is no piece", 0, () -> x.pack(1));
        x.target(0, 0);
        Check.due("8: nothing to place", 1, () -> x.pack(1));
        x.cube(0, 1, true);
        Check.due("8: no room", 0, () -> x.pack(1));
        Build.aim(x, 1, 0, 1, 2, 4);
        Check.due("8: sure cells left", 0, () -> x.pack(9));
        Check.due("9: one place has cell 0", 1, x::tries);
        Build.aim(x, 2, 4);
        Check.due("8: an optional one may be left", 1, () -> x.pack(1));

        BlockWorkshop y = Build.with(Build.piece(0), Build.piece(0), Build.piece(0), Build.piece(0), Build.piece(0),
                Build.piece(0));
        for (int cell = 0; cell < 64; cell++) {
            y.target(cell, 2);
        }
        // 9 tries; 51 times 1 + 64 + 60 * 64 with 60 * 59 packings; 4; 12 times 1 + 64 with 59; 52 with 47.
        Check.due("8: six cubes, budget used up", -1 - 51 * 60 * 59 - 12 * 59 - 47, () -> y.pack(200000));
        Check.due("9: of all of it", 200000, y::tries);
        for (int cell = 6; cell < 64; cell++) {
            y.target(cell, 0);
        }
        Check.due("8: six cubes in six cells", 720, () -> y.pack(200000));
        for (int cell = 0; cell < 6; cell++) {
            y.target(cell, 1);
        }
        Check.due("8: six cubes in six sure cells", 720, () -> y.pack(200000));
        Check.due("9: 6 + 30 + 120 + 360 + 720 + 720", 1956, y::tries);
    }

    private static void triesCount() {
        BlockWorkshop x = Build.twoDominoes();
        Check.due("9: before any", 0, x::tries);
        int[] up = {3, 6, 9, 12};
        for (int i = 0; i < 4; i++) {
            int k = i;
            Check.due("10: packing " + k, true, () -> x.assemble(k, 12));
            Check.due("9: up to packing " + k, up[k], x::tries);
        }
        Check.due("10: packing 4", false, () -> x.assemble(4, 100));
        Check.due("9: of all when it is not found", 12, x::tries);
        Check.due("10: out of the budget", false, () -> x.assemble(1, 5));
        Check.due("9: all of the budget", 5, x::tries);
        x.places(0);
        x.target(0, 0);
        Check.due("9: other calls leave it", 5, x::tries);
    }

    private static void assembleTakesAPacking() {
        BlockWorkshop x = Build.twoDominoes();
        long[] first = {Build.set(0, 1), Build.set(0, 4), Build.set(4, 5), Build.set(1, 5)};
        long[] second = {Build.set(4, 5), Build.set(1, 5), Build.set(0, 1), Build.set(0, 4)};
        for (int i = 0; i < 4; i++) {
            int k = i;
            x.assemble(k, 200000);
            Check.due("10: piece 0 in packing " + k, first[k], () -> x.cells(0));
            Check.due("10: piece 1 in packing " + k, second[k], () -> x.cells(1));
            Check.due("10: no other piece", 0, () -> x.cells(2));
        }
        Check.due("10: not found", false, () -> x.assemble(Integer.MAX_VALUE, 200000));
        Check.due("10: leaves it", first[3], () -> x.cells(0));
        Check.due("10: leaves it", second[3], () -> x.cells(1));
        Check.due("10: the budget is too small", false, () -> x.assemble(0, 2));
        Check.due("10: leaves it", second[3], () -> x.cells(1));

        BlockWorkshop y = Build.with(new int[] {0});
        Build.aim(y, 2, 62, 63, 0);
        for (int i = 0; i < 3; i++) {
            int k = i;
            y.assemble(k, 10);
            Check.due("10: places rise without a sign", 1L << new int[] {0, 62, 63}[k], () -> y.cells(0));
        }
    }

    private static void assembleRefuses() {
        BlockWorkshop x = Build.twoDominoes();
        x.assemble(0, 100);
        for (int budget : Build.NO_BUDGETS) {
            Check.refused("10: budget " + budget, Check.ARGUMENT, () -> x.assemble(1, budget));
        }
        Check.refused("10: k -1", Check.ARGUMENT, () -> x.assemble(-1, 100));
        Check.refused("10: k far below", Check.ARGUMENT, () -> x.assemble(Integer.MIN_VALUE, 100));
        Check.due("10: refused calls leave the assembly", 3, () -> x.cells(0));
        Check.due("10: and the tries", 3, x::tries);
    }

    private static void putPlaces() {
        BlockWorkshop x = Build.with(new int[] {0, 1, 2}, new int[] {0, 1}, new int[] {0, 2});
        Check.done("11: whatever the target says", () -> x.put(0, Build.set(61, 62, 63)));
        Check.due("11: there", Build.set(61, 62, 63), () -> x.cells(0));
        Check.done("11: over where it was", () -> x.put(0, Build.set(60, 61, 62)));
        Check.due("11: there", Build.set(60, 61, 62), () -> x.cells(0));
        Check.done("11: where it is", () -> x.put(0, Build.set(60, 61, 62)));
        Check.refused("11: on another piece", Check.STATE, () -> x.put(1, Build.set(62, 63)));
        Check.due("11: refused", 0, () -> x.cells(1));
        Check.done("11: beside it", () -> x.put(1, Build.set(47, 63)));
        Check.refused("11: on another piece", Check.STATE, () -> x.put(0, Build.set(31, 47, 63)));
        Check.due("11: refused, it stays", Build.set(60, 61, 62), () -> x.cells(0));
        long[] none = {0L, 1L, Build.set(0, 2), Build.set(3, 4), Build.set(15, 16), Build.set(2, 3, 4),
            -1L, Long.MIN_VALUE, Long.MAX_VALUE, Build.set(62, 63, 61, 60)};
        for (long bits : none) {
            Check.refused("11: set " + bits, Check.ARGUMENT, () -> x.put(1, bits));
        }
        Check.refused("11: an unmade piece", Check.ARGUMENT, () -> x.put(2, Build.set(0, 2)));
        Check.refused("11: a piece without cubes", Check.ARGUMENT, () -> x.put(3, 0L));
        Check.refused("11: no shape goes before taken", Check.ARGUMENT, () -> x.put(1, Build.set(60, 62)));
        Check.due("11: refused, it stays", Build.set(47, 63), () -> x.cells(1));
        for (int piece : Build.NO_PIECES) {
            Check.refused("11: piece " + piece, Check.ARGUMENT, () -> x.put(piece, 3L));
        }
    }

    private static void takeAndCells() {
        BlockWorkshop x = Build.with(new int[] {0}, new int[] {0});
        x.put(0, Long.MIN_VALUE);
        x.put(1, 1L);
        Check.due("13: cells", Long.MIN_VALUE, () -> x.cells(0));
        Check.done("12: take", () -> x.take(0));
        Check.due("13: not in it", 0, () -> x.cells(0));
        Check.due("13: the other one is", 1, () -> x.cells(1));
        Check.refused("12: taken already", Check.STATE, () -> x.take(0));
        Check.refused("12: never put", Check.STATE, () -> x.take(5));
        Check.done("12: room for another", () -> x.put(1, Long.MIN_VALUE));
        for (int piece : Build.NO_PIECES) {
            Check.refused("12: piece " + piece, Check.ARGUMENT, () -> x.take(piece));
            Check.refused("13: piece " + piece, Check.ARGUMENT, () -> x.cells(piece));
        }
    }

    private static void planOfTwo() {
        BlockWorkshop x = Build.with(new int[] {0}, new int[] {0}, new int[] {0});
        x.put(0, 1L);
        x.put(1, 1L << 63);
        Check.due("14: apart already", 1, () -> x.plan(3, 1));
        Check.due("16: but by a move", 1001, () -> x.move(0));
        x.put(1, 2L);
        Check.due("14: side by side", 1, () -> x.plan(3, 1));
        Check.due("16: not through the other", 1101, () -> x.move(0));
        Check.due("15: the assembly alone", 1, x::states);
        x.put(2, 1L << 2);
        Check.due("14: other pieces of the assembly do not matter", 1, () -> x.plan(6, 1));
        Check.due("16: groups by the pieces' bits", 2101, () -> x.move(0));

        // A staple around a bar goes along it: kept at one and two steps, free at three.
        BlockWorkshop y = Build.with(new int[] {0, 1, 2, 16, 18}, new int[] {17, 21, 25});
        y.put(0, Build.set(0, 1, 2, 16, 18));
        y.put(1, Build.set(17, 21, 25));
        Check.due("14: a staple around a bar", 1, () -> y.plan(3, 300));
        Check.due("16: the first way out", 1203, () -> y.move(0));
        Check.due("15: kept on the way", 3, y::states);
        Check.due("14: just enough", 1, () -> y.plan(3, 3));
        Check.due("14: one too few", -2, () -> y.plan(3, 2));
        Check.due("15: those that were kept", 2, y::states);
        Check.refused("16: given up, no move", Check.INDEX, () -> y.move(0));
    }

    private static void planOfLinkedRings() {
        BlockWorkshop x = Build.with(RING, LINKED_RING, new int[] {63});
        x.put(0, Build.set(RING));
        x.put(1, Build.set(LINKED_RING));
        Check.due("14: linked rings", -1, () -> x.plan(3, 300));
        Check.due("15: which can not move at all", 1, x::states);
        Check.due("14: no state more is none too many", -1, () -> x.plan(3, 1));
        Check.refused("16: no plan, no move", Check.INDEX, () -> x.move(0));
        x.put(2, 1L << 63);
        Check.due("14: a third piece comes off", 1, () -> x.plan(7, 300));
        Check.due("14: again", -1, () -> x.plan(3, 300));
        Check.refused("16: the latest look has no plan", Check.INDEX, () -> x.move(0));
    }

    private static void planRefuses() {
        BlockWorkshop x = Build.with(new int[] {0}, new int[] {0}, new int[] {0});
        x.put(0, 1L);
        x.put(1, 2L);
        x.plan(3, 300);
        int[] noParts = {0, 1, 2, 4, 5, 6, 7, 64, 67, -1, Integer.MIN_VALUE, Integer.MAX_VALUE, Integer.MIN_VALUE + 3};
        for (int part : noParts) {
            Check.refused("14: part " + part, Check.ARGUMENT, () -> x.plan(part, 300));
        }
        for (int limit : Build.NO_LIMITS) {
            Check.refused("14: limit " + limit, Check.ARGUMENT, () -> x.plan(3, limit));
        }
        Check.due("15: refused looks are none", 1, x::states);
        Check.due("16: refused looks are none", 1101, () -> x.move(0));
        x.take(0);
        Check.refused("14: not in the assembly", Check.ARGUMENT, () -> x.plan(3, 300));
        Check.due("16: the plan stays when the assembly changes", 1101, () -> x.move(0));
    }

    private static void statesAndMoves() {
        int[] first = {5, 6, 22, 23, 38, 53, 54, 56, 57, 60};
        int[] second = {17, 18, 21, 25, 26, 27, 33, 43, 58, 59};
        BlockWorkshop x = Build.with(new int[] {0}, first, second);
        x.put(1, Build.set(first));
        x.put(2, Build.set(second));
        Check.due("14: five moves", 5, () -> x.plan(6, 300));
        Check.due("15: states", 8, x::states);
        int[] moves = {2501, 2001, 2301, 2001, 2303};
        for (int i = 0; i < 5; i++) {
            int k = i;
            Check.due("16: move " + k, moves[k], () -> x.move(k));
        }
        for (int k : new int[] {-1, 5, Integer.MIN_VALUE, Integer.MAX_VALUE}) {
            Check.refused("16: move " + k, Check.INDEX, () -> x.move(k));
        }
        Check.due("14: the assembly stays", Build.set(first), () -> x.cells(1));
        for (int limit = 1; limit < 8; limit++) {
            int most = limit;
            Check.due("14: given up at " + most, -2, () -> x.plan(6, most));
            Check.due("15: with as many states", most, x::states);
            Check.refused("16: without a move", Check.INDEX, () -> x.move(0));
        }
        Check.due("14: just enough", 5, () -> x.plan(6, 8));
        x.cube(1, 5, false);
        Check.due("15: other calls leave it", 8, x::states);
        Check.due("16: other calls leave it", 2303, () -> x.move(4));
    }

    private static void manyCallsInOneRun() {
        BlockWorkshop x = Build.with(new int[] {0, 1, 2, 4, 17}, new int[] {0, 1, 2, 4, 17}, new int[] {0, 1});
        for (int cell = 0; cell < 64; cell++) {
            x.target(cell, 2);
        }
        for (int i = 0; i < 200; i++) {
            x.mirror(i % 2, i % 4 < 2);
            x.pack(1000);
        }
        Check.due("9: after many calls", 1000, x::tries);
    }
}
