/** The sentences of the document's promises that name a boundary or a refusal: each has a test of its own. */
public final class BoundaryTest {
    /** Eight cubes around a hole, and eight through that hole: neither can move. */
    private static final int[] RING = {16, 17, 18, 20, 22, 24, 25, 26};
    private static final int[] LINKED_RING = {5, 6, 7, 21, 23, 37, 38, 39};

    private BoundaryTest() {
    }

    public static void main(String[] args) {
        newObject();
        pieces();
        targets();
        packings();
        assemblies();
        plans();
        Check.end();
    }

    private static void newObject() {
        Check.sentence("1: No cubes", BoundaryTest::noCubes);
        Check.sentence("1: no target", BoundaryTest::noTarget);
        Check.sentence("1: no assembly", BoundaryTest::noAssembly);
    }

    private static void pieces() {
        Check.sentence("2: Adds a cube to a piece, or takes it away: how many it has",
                BoundaryTest::cubesFromNoneToTen);
        Check.sentence("2: The piece is not in the assembly any more", BoundaryTest::changedIsOut);
        Check.sentence("2: IllegalArgumentException: no such piece", BoundaryTest::cubeOfNoPiece);
        Check.sentence("2: IllegalArgumentException: no such cell", BoundaryTest::cubeAtNoCell);
        Check.sentence("2: IllegalStateException: it would have more than 10", BoundaryTest::elevenCubes);
        Check.sentence("2: IllegalStateException: it is so already", BoundaryTest::soAlready);
        Check.sentence("3: Whether a piece may be mirrored (not at first)", BoundaryTest::notMirroredAtFirst);
        Check.sentence("3: IllegalArgumentException: there is none such", BoundaryTest::mirrorOfNoPiece);
        Check.sentence("4: How many shapes a piece has", BoundaryTest::fewestAndMostShapes);
        Check.sentence("4: 0 of an unmade one", BoundaryTest::shapesOfUnmade);
        Check.sentence("4: IllegalArgumentException: no such piece", BoundaryTest::shapesOfNoPiece);
        Check.sentence("5: Shape k", BoundaryTest::firstAndLastShape);
        Check.sentence("5: IllegalArgumentException: no such piece", BoundaryTest::shapeOfNoPiece);
        Check.sentence("5: IndexOutOfBoundsException: no such shape", BoundaryTest::noSuchShape);
    }

    private static void targets() {
        Check.sentence("6: What the target says of a cell", BoundaryTest::firstAndLastCell);
        Check.sentence("6: IllegalArgumentException: no such cell", BoundaryTest::targetOfNoCell);
        Check.sentence("6: IllegalArgumentException: no such kind", BoundaryTest::targetOfNoKind);
        Check.sentence("7: How many places a piece has in the target", BoundaryTest::noneToMostPlaces);
        Check.sentence("7: IllegalArgumentException: no such piece", BoundaryTest::placesOfNoPiece);
    }

    private static void packings() {
        Check.sentence("8: Searches with a budget (1 .. 200,000)", BoundaryTest::leastAndMostBudget);
        Check.sentence("8: how many packings there are", BoundaryTest::noneToManyPackings);
        Check.sentence("8: -1 - n when it was not enough, n found so far", BoundaryTest::notEnough);
        Check.sentence("8: IllegalArgumentException: it is not so", BoundaryTest::packWithNoBudget);
        Check.sentence("9: How many tries the latest search took", BoundaryTest::latestTries);
        Check.sentence("9: (of assemble(), too: up to its packing)", BoundaryTest::triesOfAssemble);
        Check.sentence("10: Packing k (of a search with a budget) becomes the assembly: true",
                BoundaryTest::firstAndLastPacking);
        Check.sentence("10: false, leaving it, when it was not found", BoundaryTest::packingNotFound);
        Check.sentence("10: IllegalArgumentException: k is below 0", BoundaryTest::packingBelow0);
        Check.sentence("10: IllegalArgumentException: the budget is not so", BoundaryTest::assembleWithNoBudget);
    }

    private static void assemblies() {
        Check.sentence("11: Puts a piece into the assembly, in place of where it was",
                BoundaryTest::inPlaceOfWhereItWas);
        Check.sentence("11: a shape moved", BoundaryTest::shapeMoved);
        Check.sentence("11: IllegalArgumentException: no such piece", BoundaryTest::putNoPiece);
        Check.sentence("11: IllegalArgumentException: the set is none of its shapes moved", BoundaryTest::putNoShape);
        Check.sentence("11: IllegalStateException: another piece has one of the cells", BoundaryTest::putOnAnother);
        Check.sentence("12: Takes a piece out of the assembly", BoundaryTest::takeOut);
        Check.sentence("12: IllegalArgumentException: no such piece", BoundaryTest::takeNoPiece);
        Check.sentence("12: IllegalStateException: it is not in it", BoundaryTest::takeWhatIsNotIn);
        Check.sentence("13: Where a piece is in the assembly", BoundaryTest::firstAndLastCells);
        Check.sentence("13: 0 when it is not in it", BoundaryTest::cellsOfWhatIsNotIn);
        Check.sentence("13: IllegalArgumentException: no such piece", BoundaryTest::cellsOfNoPiece);
    }

    private static void plans() {
        Check.sentence("14: with a limit of states (1 .. 300)", BoundaryTest::leastAndMostLimit);
        Check.sentence("14: how many moves", BoundaryTest::oneMoveAndMore);
        Check.sentence("14: -1 when it does not come apart", BoundaryTest::notApart);
        Check.sentence("14: -2 when it was given up", BoundaryTest::givenUp);
        Check.sentence("14: IllegalArgumentException: the part .. is not so", BoundaryTest::planOfNoPart);
        Check.sentence("14: IllegalArgumentException: the .. limit is not so", BoundaryTest::planWithNoLimit);
        Check.sentence("15: How many states the latest look for a plan kept", BoundaryTest::latestStates);
        Check.sentence("15: (not the one in which the group is free", BoundaryTest::freeStateIsNotKept);
        Check.sentence("15: 0 before any)", BoundaryTest::noStatesBeforeAny);
        Check.sentence("16: Move k of the latest plan", BoundaryTest::firstAndLastMove);
        Check.sentence("16: (none when there is none)", BoundaryTest::noMovesOfNoPlan);
        Check.sentence("16: 1,000 times its group, 100 times its direction, its run", BoundaryTest::codeOfAMove);
        Check.sentence("16: IndexOutOfBoundsException: there is none such", BoundaryTest::noSuchMove);
    }

    private static void noCubes() {
        Build.with(Build.piece(0), Build.piece(1), Build.piece(2));
        BlockWorkshop x = new BlockWorkshop();
        for (int p = 0; p < 6; p++) {
            for (int c = 0; c < 64; c++) {
                int piece = p;
                int cell = c;
                Check.refused("no cube to take away", Check.STATE, () -> x.cube(piece, cell, false));
            }
            int piece = p;
            Check.due("the first one", 1, () -> x.cube(piece, 63, true));
        }
    }

    private static void noTarget() {
        BlockWorkshop x = new BlockWorkshop();
        Check.due("no sure cell: the packing of no piece", 1, () -> x.pack(1));
        Check.due("found without a try", 0, x::tries);
        x.cube(0, 0, true);
        Check.due("no cell to be in", 0, () -> x.places(0));
        Check.due("no cell to be in", 0, () -> x.pack(1));
    }

    private static void noAssembly() {
        BlockWorkshop x = new BlockWorkshop();
        for (int p = 0; p < 6; p++) {
            int piece = p;
            Check.due("cells", 0L, () -> x.cells(piece));
            Check.refused("take", Check.STATE, () -> x.take(piece));
        }
        Check.refused("no part", Check.ARGUMENT, () -> x.plan(3, 300));
        Check.due("states", 0, x::states);
        Check.refused("no move", Check.INDEX, () -> x.move(0));
    }

    private static void cubesFromNoneToTen() {
        BlockWorkshop x = new BlockWorkshop();
        for (int i = 0; i < 10; i++) {
            int cell = 63 - 7 * i;
            Check.due("on", i + 1, () -> x.cube(5, cell, true));
        }
        Check.due("of another piece", 1, () -> x.cube(0, 63, true));
        for (int i = 0; i < 10; i++) {
            int cell = 63 - 7 * i;
            Check.due("off", 9 - i, () -> x.cube(5, cell, false));
        }
        Check.due("on again", 1, () -> x.cube(5, 0, true));
    }

    private static void changedIsOut() {
        BlockWorkshop x = Build.assembled(Build.piece(0, 1), Build.piece(2), Build.piece(3));
        x.cube(0, 4, true);
        Check.due("a cube more", 0L, () -> x.cells(0));
        Check.refused("a cube more", Check.STATE, () -> x.take(0));
        Check.refused("a cube more", Check.ARGUMENT, () -> x.plan(3, 300));
        Check.done("its cells are open to others", () -> x.put(1, 1L));
        x.cube(2, 3, false);
        Check.due("the last cube less", 0L, () -> x.cells(2));
        Check.due("another piece stays", 1L, () -> x.cells(1));
    }

    private static void cubeOfNoPiece() {
        BlockWorkshop x = Build.with(Build.piece(0), Build.piece(0));
        for (int piece : Build.NO_PIECES) {
            Check.refused("on, piece " + piece, Check.ARGUMENT, () -> x.cube(piece, 1, true));
            Check.refused("off, piece " + piece, Check.ARGUMENT, () -> x.cube(piece, 0, false));
        }
        Check.refused("before what it would be", Check.ARGUMENT, () -> x.cube(6, 0, true));
        Check.due("nothing changed", 2, () -> x.cube(0, 1, true));
    }

    private static void cubeAtNoCell() {
        BlockWorkshop x = Build.with(Build.piece(0, 63), Build.piece(0, 1, 2, 3, 4, 5, 6, 7, 8, 9));
        for (int cell : Build.NO_CELLS) {
            Check.refused("on, cell " + cell, Check.ARGUMENT, () -> x.cube(0, cell, true));
            Check.refused("off, cell " + cell, Check.ARGUMENT, () -> x.cube(0, cell, false));
            Check.refused("before more than 10", Check.ARGUMENT, () -> x.cube(1, cell, true));
        }
        Check.due("nothing changed", 1, () -> x.cube(0, 63, false));
    }

    private static void elevenCubes() {
        BlockWorkshop x = Build.assembled(Build.piece(0, 1, 2, 3, 4, 5, 6, 7, 8, 9));
        Check.refused("an eleventh", Check.STATE, () -> x.cube(0, 10, true));
        Check.refused("an eleventh far away", Check.STATE, () -> x.cube(0, 63, true));
        Check.due("refused: it is still assembled", 1023L, () -> x.cells(0));
        Check.due("one less", 9, () -> x.cube(0, 9, false));
        Check.due("a tenth", 10, () -> x.cube(0, 63, true));
        Check.refused("an eleventh", Check.STATE, () -> x.cube(0, 9, true));
    }

    private static void soAlready() {
        BlockWorkshop x = Build.assembled(Build.piece(0, 1));
        Check.refused("on", Check.STATE, () -> x.cube(0, 0, true));
        Check.refused("off", Check.STATE, () -> x.cube(0, 63, false));
        Check.refused("off", Check.STATE, () -> x.cube(5, 0, false));
        Check.due("refused: it is still assembled", 3L, () -> x.cells(0));
        Check.due("refused: it has two cubes", 3, () -> x.cube(0, 2, true));
    }

    private static void notMirroredAtFirst() {
        BlockWorkshop x = Build.with(Build.piece(0, 1, 5, 21), Build.piece(0, 1, 5, 21));
        Build.aim(x, 2, 0, 1, 4, 5, 16, 17, 20, 21);
        Check.due("shapes at first", 12, () -> x.shapes(0));
        Check.due("places at first", 12, () -> x.places(0));
        Check.refused("its image at first", Check.ARGUMENT, () -> x.put(0, Build.set(0, 1, 4, 20)));
        x.mirror(0, true);
        x.mirror(0, true);
        Check.due("shapes, mirrored", 24, () -> x.shapes(0));
        Check.due("places, mirrored", 24, () -> x.places(0));
        Check.done("its image", () -> x.put(0, Build.set(0, 1, 4, 20)));
        Check.due("another piece is not mirrored", 12, () -> x.shapes(1));
        x.mirror(0, false);
        x.mirror(0, false);
        Check.due("shapes, no more mirrored", 12, () -> x.shapes(0));
        Check.due("places, no more mirrored", 12, () -> x.places(0));
        Check.due("where it is it stays", Build.set(0, 1, 4, 20), () -> x.cells(0));
        BlockWorkshop y = new BlockWorkshop();
        Check.done("an unmade piece", () -> y.mirror(5, true));
        for (int cell : new int[] {0, 1, 5, 21}) {
            y.cube(5, cell, true);
        }
        Check.due("made later", 24, () -> y.shapes(5));
    }

    private static void mirrorOfNoPiece() {
        BlockWorkshop x = Build.with(Build.piece(0, 1, 5, 21));
        for (int piece : Build.NO_PIECES) {
            Check.refused("piece " + piece, Check.ARGUMENT, () -> x.mirror(piece, true));
            Check.refused("piece " + piece, Check.ARGUMENT, () -> x.mirror(piece, false));
        }
        Check.due("nothing changed", 12, () -> x.shapes(0));
    }

    private static void fewestAndMostShapes() {
        BlockWorkshop x = Build.with(Build.piece(63), Build.piece(0, 1, 2, 3, 4, 20));
        Check.due("one", 1, () -> x.shapes(0));
        x.mirror(0, true);
        Check.due("one", 1, () -> x.shapes(0));
        Check.due("24", 24, () -> x.shapes(1));
        x.mirror(1, true);
        Check.due("48", 48, () -> x.shapes(1));
    }

    private static void shapesOfUnmade() {
        BlockWorkshop x = Build.with(Build.piece(0, 1, 3), Build.piece(3, 4), Build.piece(0));
        x.cube(2, 0, false);
        for (int p = 0; p < 6; p++) {
            int piece = p;
            Check.due("piece " + p, 0, () -> x.shapes(piece));
        }
        Check.due("two cubes more", 4, () -> x.cube(0, 2, true));
        Check.due("made", 3, () -> x.shapes(0));
    }

    private static void shapesOfNoPiece() {
        BlockWorkshop x = Build.with(Build.piece(0));
        for (int piece : Build.NO_PIECES) {
            Check.refused("piece " + piece, Check.ARGUMENT, () -> x.shapes(piece));
        }
    }

    private static void firstAndLastShape() {
        BlockWorkshop x = Build.with(Build.piece(63), Build.piece(0, 1, 4), Build.piece(0, 1, 2, 3, 4, 20));
        Check.due("the one of a cube", 1L, () -> x.shape(0, 0));
        Check.due("the first of 12", Build.set(0, 1, 4), () -> x.shape(1, 0));
        Check.due("the last of 12", Build.set(4, 16, 20), () -> x.shape(1, 11));
        x.mirror(2, true);
        Check.due("the last of 48", Build.set(4, 20, 36, 49, 52, 53), () -> x.shape(2, 47));
    }

    private static void shapeOfNoPiece() {
        BlockWorkshop x = Build.with(Build.piece(0));
        for (int piece : Build.NO_PIECES) {
            Check.refused("piece " + piece, Check.ARGUMENT, () -> x.shape(piece, 0));
            Check.refused("before the shape, piece " + piece, Check.ARGUMENT, () -> x.shape(piece, -1));
        }
    }

    private static void noSuchShape() {
        BlockWorkshop x = Build.with(Build.piece(0, 1, 2, 3, 4, 20), Build.piece(0, 2), Build.piece(0));
        Check.refused("shape 24 of 24", Check.INDEX, () -> x.shape(0, 24));
        x.mirror(0, true);
        Check.refused("shape 48 of 48", Check.INDEX, () -> x.shape(0, 48));
        x.mirror(0, false);
        Check.refused("shape 24 of 24 again", Check.INDEX, () -> x.shape(0, 24));
        Check.refused("shape 1 of 1", Check.INDEX, () -> x.shape(2, 1));
        Check.refused("of an unmade piece", Check.INDEX, () -> x.shape(1, 0));
        Check.refused("of a piece without cubes", Check.INDEX, () -> x.shape(5, 0));
        for (int k : Build.FAR_INDEXES) {
            Check.refused("shape " + k, Check.INDEX, () -> x.shape(0, k));
        }
    }

    private static void firstAndLastCell() {
        BlockWorkshop x = Build.with(Build.piece(0));
        x.target(0, 2);
        Check.due("cell 0", 1, () -> x.places(0));
        x.target(63, 1);
        Check.due("cell 63", 2, () -> x.places(0));
        Check.due("which is sure", 1, () -> x.pack(9));
        Check.done("so already", () -> x.target(63, 1));
        Check.due("which is sure", 1, () -> x.pack(9));
        x.target(63, 0);
        Check.due("which is out", 1, () -> x.places(0));
        Check.due("and sure no more", 1, () -> x.pack(9));
    }

    private static void targetOfNoCell() {
        BlockWorkshop x = Build.with(Build.piece(0));
        for (int cell : Build.NO_CELLS) {
            for (int kind = 0; kind < 3; kind++) {
                int of = kind;
                Check.refused("cell " + cell, Check.ARGUMENT, () -> x.target(cell, of));
            }
        }
        Check.due("nothing changed", 0, () -> x.places(0));
    }

    private static void targetOfNoKind() {
        BlockWorkshop x = Build.with(Build.piece(0));
        x.target(63, 1);
        for (int kind : Build.NO_KINDS) {
            Check.refused("kind " + kind, Check.ARGUMENT, () -> x.target(63, kind));
            Check.refused("kind " + kind, Check.ARGUMENT, () -> x.target(0, kind));
        }
        Check.due("nothing changed", 1, () -> x.places(0));
        Check.due("nothing changed", 1, () -> x.pack(1));
    }

    private static void noneToMostPlaces() {
        BlockWorkshop x = Build.with(Build.piece(0, 1, 2, 4, 17), Build.piece(0), Build.piece(0, 2));
        x.mirror(0, true);
        Check.due("no target", 0, () -> x.places(0));
        Build.aimAll(x, 1);
        Check.due("the most: 48 shapes with 18 each", 864, () -> x.places(0));
        Check.due("one cube", 64, () -> x.places(1));
        Check.due("unmade", 0, () -> x.places(2));
        x.target(63, 0);
        Check.due("one cell is out", 63, () -> x.places(1));
        x.target(63, 2);
        Check.due("and in again", 864, () -> x.places(0));
        Build.aimAll(x, 0);
        Check.due("none again", 0, () -> x.places(0));
    }

    private static void placesOfNoPiece() {
        BlockWorkshop x = Build.with(Build.piece(0));
        Build.aimAll(x, 2);
        for (int piece : Build.NO_PIECES) {
            Check.refused("piece " + piece, Check.ARGUMENT, () -> x.places(piece));
        }
    }

    private static void leastAndMostBudget() {
        BlockWorkshop x = Build.with(Build.piece(0), Build.piece(0), Build.piece(0));
        Build.aimAll(x, 2);
        Check.due("1", -1, () -> x.pack(1));
        Check.due("one try", 1, x::tries);
        // 48 times 1 + 64 + 63 * 64 tries with 63 * 62 packings; 2; 51 times 1 + 64 with 62; 1 + 26 with 26.
        Check.due("200,000", -1 - 48 * 63 * 62 - 51 * 62 - 26, () -> x.pack(200000));
        Check.due("all of it", 200000, x::tries);
        BlockWorkshop y = Build.with(Build.piece(0), Build.piece(0));
        Build.aimAll(y, 2);
        Check.due("200,000, of which some are left", 64 * 63, () -> y.pack(200000));
        Check.due("some are left", 64 + 64 * 64, y::tries);
    }

    private static void noneToManyPackings() {
        BlockWorkshop x = Build.with(Build.piece(0), Build.piece(0), Build.piece(0), Build.piece(0), Build.piece(0),
                Build.piece(0));
        Build.aim(x, 2, 0, 1, 2, 3, 4);
        Check.due("one cell too few", 0, () -> x.pack(200000));
        Build.aim(x, 2, 5);
        Check.due("all orders of six", 720, () -> x.pack(200000));
        Build.aim(x, 1, 0, 1, 2, 3, 4, 5);
        Check.due("all orders of six, sure", 720, () -> x.pack(200000));
        Check.due("6 + 30 + 120 + 360 + 720 + 720", 1956, x::tries);
        Build.aim(x, 1, 6);
        Check.due("one sure cell too many", 0, () -> x.pack(200000));
    }

    private static void notEnough() {
        BlockWorkshop x = Build.twoCubes();
        Check.due("none found", -1, () -> x.pack(2));
        Check.due("one found", -2, () -> x.pack(3));
        Check.due("all found, a try left", -7, () -> x.pack(11));
        Check.due("enough", 6, () -> x.pack(12));
        BlockWorkshop y = Build.with(Build.piece(0, 1, 2, 3), Build.piece(0));
        Build.aim(y, 2, 0, 1, 2, 3);
        Check.due("none to be found", 0, () -> y.pack(5));
        Check.due("none to be found, a try left", -1, () -> y.pack(4));
    }

    private static void packWithNoBudget() {
        BlockWorkshop x = Build.twoCubes();
        x.pack(7);
        for (int budget : Build.NO_BUDGETS) {
            Check.refused("budget " + budget, Check.ARGUMENT, () -> x.pack(budget));
        }
        Check.due("nothing changed", 7, x::tries);
        BlockWorkshop y = new BlockWorkshop();
        Check.refused("even with nothing to search", Check.ARGUMENT, () -> y.pack(0));
    }

    private static void latestTries() {
        BlockWorkshop x = Build.twoCubes();
        Check.due("before any", 0, x::tries);
        x.pack(100);
        Check.due("of all", 12, x::tries);
        x.pack(5);
        Check.due("of the latest", 5, x::tries);
        x.target(0, 0);
        x.cube(0, 1, true);
        x.places(0);
        x.shapes(0);
        Check.due("other calls leave it", 5, x::tries);
        Build.aim(x, 0, 1, 2);
        x.pack(100);
        Check.due("of a search without a try", 0, x::tries);
    }

    private static void triesOfAssemble() {
        BlockWorkshop x = Build.twoCubes();
        int[] upTo = {3, 4, 6, 8, 10, 11};
        for (int i = 0; i < 6; i++) {
            int k = i;
            x.assemble(k, 100);
            Check.due("up to packing " + k, upTo[k], x::tries);
        }
        x.assemble(6, 100);
        Check.due("all, when there is none such", 12, x::tries);
        x.assemble(5, 10);
        Check.due("all of the budget", 10, x::tries);
    }

    private static void firstAndLastPacking() {
        BlockWorkshop x = Build.twoCubes();
        x.put(0, 1L << 63);
        Check.due("packing 0, just enough", true, () -> x.assemble(0, 3));
        Check.due("piece 0", 1L, () -> x.cells(0));
        Check.due("piece 1", 2L, () -> x.cells(1));
        Check.due("packing 5, just enough", true, () -> x.assemble(5, 11));
        Check.due("piece 0", 4L, () -> x.cells(0));
        Check.due("piece 1", 2L, () -> x.cells(1));
        Check.due("with the most budget", true, () -> x.assemble(5, 200000));
        x.cube(0, 0, false);
        Check.due("packing 0 of the other piece", true, () -> x.assemble(0, 1));
        Check.due("piece 0 is unmade", 0L, () -> x.cells(0));
        Check.due("piece 1", 1L, () -> x.cells(1));
        BlockWorkshop y = new BlockWorkshop();
        Check.due("the packing of no piece", true, () -> y.assemble(0, 1));
        Check.due("none is in it", 0L, () -> y.cells(0));
    }

    private static void packingNotFound() {
        BlockWorkshop x = Build.twoCubes();
        x.put(0, 1L << 63);
        Check.due("the budget is one too small", false, () -> x.assemble(0, 2));
        Check.due("there is none such", false, () -> x.assemble(6, 200000));
        Check.due("far from any", false, () -> x.assemble(Integer.MAX_VALUE, 200000));
        Check.due("piece 0 is left", 1L << 63, () -> x.cells(0));
        Check.due("piece 1 is left", 0L, () -> x.cells(1));
        x.assemble(2, 200000);
        Check.due("the last one, one too small", false, () -> x.assemble(5, 10));
        Check.due("piece 0 is left", 2L, () -> x.cells(0));
        Check.due("piece 1 is left", 1L, () -> x.cells(1));
    }

    private static void packingBelow0() {
        BlockWorkshop x = Build.twoCubes();
        x.assemble(0, 100);
        Check.refused("-1", Check.ARGUMENT, () -> x.assemble(-1, 100));
        Check.refused("far below", Check.ARGUMENT, () -> x.assemble(Integer.MIN_VALUE, 100));
        Check.due("nothing changed", 1L, () -> x.cells(0));
        Check.due("nothing changed", 3, x::tries);
    }

    private static void assembleWithNoBudget() {
        BlockWorkshop x = Build.twoCubes();
        x.assemble(0, 100);
        for (int budget : Build.NO_BUDGETS) {
            Check.refused("budget " + budget, Check.ARGUMENT, () -> x.assemble(1, budget));
        }
        Check.due("nothing changed", 1L, () -> x.cells(0));
        Check.due("nothing changed", 3, x::tries);
        Check.due("the least", false, () -> x.assemble(0, 1));
    }

    private static void inPlaceOfWhereItWas() {
        BlockWorkshop x = Build.with(Build.piece(0, 1, 2));
        Check.done("at first", () -> x.put(0, Build.set(60, 61, 62)));
        Check.done("over its own cells", () -> x.put(0, Build.set(61, 62, 63)));
        Check.due("it is there", Build.set(61, 62, 63), () -> x.cells(0));
        Check.done("where it is", () -> x.put(0, Build.set(61, 62, 63)));
        Check.done("turned", () -> x.put(0, Build.set(31, 47, 63)));
        Check.due("it is there", Build.set(31, 47, 63), () -> x.cells(0));
        x.cube(1, 0, true);
        Check.done("where it was there is room", () -> x.put(1, Build.set(62)));
    }

    private static void shapeMoved() {
        BlockWorkshop x = Build.with(Build.piece(0), Build.piece(0, 1, 5));
        for (int c = 0; c < 64; c++) {
            int cell = c;
            Check.done("cell " + cell, () -> x.put(0, 1L << cell));
            Check.due("cell " + cell, 1L << cell, () -> x.cells(0));
        }
        x.take(0);
        for (int i = 0; i < 12; i++) {
            long shape = x.shape(1, i);
            Check.done("shape " + i, () -> x.put(1, shape));
        }
        Check.done("in the last corner", () -> x.put(1, Build.set(58, 59, 63)));
        Check.due("in the last corner", Build.set(58, 59, 63), () -> x.cells(1));
    }

    private static void putNoPiece() {
        BlockWorkshop x = Build.assembled(Build.piece(0));
        for (int piece : Build.NO_PIECES) {
            Check.refused("piece " + piece, Check.ARGUMENT, () -> x.put(piece, 2L));
            Check.refused("on another, piece " + piece, Check.ARGUMENT, () -> x.put(piece, 1L));
        }
        Check.due("nothing changed", 1L, () -> x.cells(0));
    }

    private static void putNoShape() {
        BlockWorkshop x = Build.with(Build.piece(0, 1), Build.piece(0, 2), Build.piece(0));
        x.put(0, Build.set(62, 63));
        x.put(2, 1L);
        long[] none = {0L, -1L, Long.MIN_VALUE, Long.MAX_VALUE, Build.set(4), Build.set(4, 5, 6), Build.set(4, 6),
            Build.set(4, 9)};
        for (long set : none) {
            Check.refused("set " + set, Check.ARGUMENT, () -> x.put(0, set));
        }
        int[][] roundTheBox = {{3, 4}, {15, 16}, {12, 16}, {47, 48}, {4, 7}, {4, 52}, {12, 1}, {63, 1}};
        for (int[] cells : roundTheBox) {
            Check.refused("from " + cells[0] + " to " + cells[1], Check.ARGUMENT, () -> x.put(0, Build.set(cells)));
        }
        Check.refused("unmade", Check.ARGUMENT, () -> x.put(1, Build.set(4, 6)));
        Check.refused("without cubes", Check.ARGUMENT, () -> x.put(3, 0L));
        Check.refused("before the cells of another", Check.ARGUMENT, () -> x.put(0, Build.set(0, 1, 2)));
        Check.due("nothing changed", Build.set(62, 63), () -> x.cells(0));
    }

    private static void putOnAnother() {
        BlockWorkshop x = Build.assembled(Build.piece(0, 1), Build.piece(), Build.piece(), Build.piece(), Build.piece(),
                Build.piece(62, 63));
        Check.refused("one cell of piece 5", Check.STATE, () -> x.put(0, Build.set(61, 62)));
        Check.refused("all its cells", Check.STATE, () -> x.put(0, Build.set(62, 63)));
        Check.refused("one cell of piece 0", Check.STATE, () -> x.put(5, Build.set(0, 4)));
        Check.due("it stays", Build.set(0, 1), () -> x.cells(0));
        Check.due("it stays", Build.set(62, 63), () -> x.cells(5));
        x.take(0);
        Check.done("when that is gone", () -> x.put(5, Build.set(0, 4)));
        Check.refused("when it has gone there", Check.STATE, () -> x.put(0, Build.set(4, 5)));
        Check.due("refused: it is not in it", 0L, () -> x.cells(0));
    }

    private static void takeOut() {
        BlockWorkshop x = Build.assembled(Build.piece(0), Build.piece(), Build.piece(), Build.piece(), Build.piece(),
                Build.piece(63));
        Check.done("the last piece", () -> x.take(5));
        Check.due("gone", 0L, () -> x.cells(5));
        Check.due("the other one stays", 1L, () -> x.cells(0));
        Check.refused("no part any more", Check.ARGUMENT, () -> x.plan(33, 300));
        Check.done("the first piece", () -> x.take(0));
        Check.due("it has its cube", 2, () -> x.cube(0, 1, true));
    }

    private static void takeNoPiece() {
        BlockWorkshop x = Build.assembled(Build.piece(0));
        for (int piece : Build.NO_PIECES) {
            Check.refused("piece " + piece, Check.ARGUMENT, () -> x.take(piece));
        }
        Check.due("nothing changed", 1L, () -> x.cells(0));
    }

    private static void takeWhatIsNotIn() {
        BlockWorkshop x = Build.assembled(Build.piece(0), Build.piece(1));
        x.take(0);
        Check.refused("taken already", Check.STATE, () -> x.take(0));
        Check.refused("unmade", Check.STATE, () -> x.take(5));
        x.cube(1, 2, true);
        Check.refused("changed", Check.STATE, () -> x.take(1));
        x.put(0, 1L << 63);
        Check.done("put again, at the last cell", () -> x.take(0));
        x.cube(3, 0, true);
        Check.refused("made, not put", Check.STATE, () -> x.take(3));
    }

    private static void firstAndLastCells() {
        BlockWorkshop x = Build.assembled(Build.piece(0), Build.piece(), Build.piece(), Build.piece(), Build.piece(),
                Build.piece(63));
        Check.due("cell 0", 1L, () -> x.cells(0));
        Check.due("cell 63", Long.MIN_VALUE, () -> x.cells(5));
    }

    private static void cellsOfWhatIsNotIn() {
        BlockWorkshop x = Build.with(Build.piece(0), Build.piece(0), Build.piece(0));
        Check.due("made, not put", 0L, () -> x.cells(0));
        Check.due("unmade", 0L, () -> x.cells(5));
        x.put(0, 1L);
        x.take(0);
        Check.due("taken", 0L, () -> x.cells(0));
        x.put(1, 1L);
        x.cube(1, 1, true);
        Check.due("changed", 0L, () -> x.cells(1));
    }

    private static void cellsOfNoPiece() {
        BlockWorkshop x = Build.assembled(Build.piece(0));
        for (int piece : Build.NO_PIECES) {
            Check.refused("piece " + piece, Check.ARGUMENT, () -> x.cells(piece));
        }
    }

    private static void leastAndMostLimit() {
        BlockWorkshop x = Build.assembled(Build.piece(0), Build.piece(63));
        Check.due("1", 1, () -> x.plan(3, 1));
        Check.due("300", 1, () -> x.plan(3, 300));
        Check.refused("0", Check.ARGUMENT, () -> x.plan(3, 0));
        Check.refused("301", Check.ARGUMENT, () -> x.plan(3, 301));
    }

    private static BlockWorkshop fiveMoves() {
        return Build.assembled(Build.piece(5, 6, 22, 23, 38, 53, 54, 56, 57, 60),
                Build.piece(17, 18, 21, 25, 26, 27, 33, 43, 58, 59));
    }

    private static void oneMoveAndMore() {
        BlockWorkshop x = Build.assembled(Build.piece(0), Build.piece(1));
        Check.due("one", 1, () -> x.plan(3, 300));
        BlockWorkshop y = fiveMoves();
        Check.due("five", 5, () -> y.plan(3, 300));
        Check.due("five with 8 states", 5, () -> y.plan(3, 8));
        Check.due("the assembly stays", Build.set(5, 6, 22, 23, 38, 53, 54, 56, 57, 60), () -> y.cells(0));
        Check.due("again", 5, () -> y.plan(3, 300));
    }

    private static void notApart() {
        BlockWorkshop x = Build.assembled(RING, LINKED_RING, Build.piece(63));
        Check.due("two rings", -1, () -> x.plan(3, 300));
        Check.due("with the least limit", -1, () -> x.plan(3, 1));
        Check.due("a third piece comes off", 1, () -> x.plan(7, 300));
        Check.due("a ring and it", 1, () -> x.plan(5, 300));
    }

    private static void givenUp() {
        BlockWorkshop x = fiveMoves();
        for (int limit = 1; limit < 8; limit++) {
            int most = limit;
            Check.due("with " + most, -2, () -> x.plan(3, most));
            Check.due("all of it", most, x::states);
        }
        Check.due("with 8", 5, () -> x.plan(3, 8));
    }

    private static void planOfNoPart() {
        BlockWorkshop x = Build.assembled(Build.piece(0), Build.piece(1), Build.piece(), Build.piece(), Build.piece(),
                Build.piece(63));
        x.cube(3, 0, true);
        Check.due("a part", 1, () -> x.plan(35, 300));
        int[] none = {0, 1, 2, 32, 4, 3 + 4, 3 + 8, 63, 64, 3 + 64, -1, Integer.MIN_VALUE, Integer.MIN_VALUE + 3,
            Integer.MAX_VALUE};
        for (int part : none) {
            Check.refused("part " + part, Check.ARGUMENT, () -> x.plan(part, 300));
        }
        Check.due("nothing changed", 1, x::states);
        Check.due("nothing changed", 1101, () -> x.move(0));
    }

    private static void planWithNoLimit() {
        BlockWorkshop x = Build.assembled(Build.piece(0), Build.piece(1));
        x.plan(3, 300);
        for (int limit : Build.NO_LIMITS) {
            Check.refused("limit " + limit, Check.ARGUMENT, () -> x.plan(3, limit));
        }
        Check.due("nothing changed", 1, x::states);
        Check.due("nothing changed", 1101, () -> x.move(0));
    }

    private static void latestStates() {
        BlockWorkshop x = fiveMoves();
        x.plan(3, 300);
        Check.due("of a plan", 8, x::states);
        x.plan(3, 4);
        Check.due("of one given up", 4, x::states);
        x.take(0);
        x.cube(1, 17, false);
        Check.due("other calls leave it", 4, x::states);
        BlockWorkshop y = Build.assembled(RING, LINKED_RING);
        y.plan(3, 300);
        Check.due("of one that does not come apart", 1, y::states);
    }

    private static void freeStateIsNotKept() {
        BlockWorkshop x = Build.assembled(Build.piece(0), Build.piece(4));
        Check.due("with a limit of 1", 1, () -> x.plan(3, 1));
        Check.due("the assembly alone", 1, x::states);
        BlockWorkshop y = Build.assembled(Build.piece(5), Build.piece(0, 1, 2, 4, 8, 9, 10));
        Check.due("with a limit of 2", 1, () -> y.plan(3, 2));
        Check.due("the step before", 2, y::states);
    }

    private static void noStatesBeforeAny() {
        BlockWorkshop x = new BlockWorkshop();
        Check.due("a new object", 0, x::states);
        x.cube(0, 0, true);
        x.cube(1, 0, true);
        x.put(0, 1L);
        x.put(1, 2L);
        Check.refused("a refused look", Check.ARGUMENT, () -> x.plan(3, 0));
        Check.refused("a refused look", Check.ARGUMENT, () -> x.plan(7, 1));
        Check.due("is none", 0, x::states);
    }

    private static void firstAndLastMove() {
        BlockWorkshop x = fiveMoves();
        x.plan(3, 300);
        Check.due("the first", 1501, () -> x.move(0));
        Check.due("the last", 1303, () -> x.move(4));
        x.take(0);
        x.cube(1, 17, false);
        Check.due("other calls leave it", 1303, () -> x.move(4));
        BlockWorkshop y = Build.assembled(Build.piece(0), Build.piece(1), Build.piece(4));
        y.plan(3, 300);
        y.plan(5, 300);
        Check.due("of the latest", 1001, () -> y.move(0));
    }

    private static void noMovesOfNoPlan() {
        BlockWorkshop x = fiveMoves();
        Check.refused("before any look", Check.INDEX, () -> x.move(0));
        x.plan(3, 300);
        x.plan(3, 7);
        Check.refused("after one given up", Check.INDEX, () -> x.move(0));
        BlockWorkshop y = Build.assembled(RING, LINKED_RING, Build.piece(63));
        y.plan(7, 300);
        y.plan(3, 300);
        Check.refused("after one that does not come apart", Check.INDEX, () -> y.move(0));
    }

    private static void codeOfAMove() {
        BlockWorkshop x = Build.assembled(Build.piece(), Build.piece(), Build.piece(), Build.piece(),
                Build.piece(0, 1, 2, 16, 18), Build.piece(17, 21, 25));
        x.plan(48, 300);
        Check.due("piece 4, +y, three steps", 16203, () -> x.move(0));
        BlockWorkshop y = Build.assembled(Build.piece(0), Build.piece(1));
        y.plan(3, 300);
        Check.due("piece 0, -x, one step", 1101, () -> y.move(0));
    }

    private static void noSuchMove() {
        BlockWorkshop x = fiveMoves();
        x.plan(3, 300);
        Check.refused("move 5 of 5", Check.INDEX, () -> x.move(5));
        for (int k : Build.FAR_INDEXES) {
            Check.refused("move " + k, Check.INDEX, () -> x.move(k));
        }
        BlockWorkshop y = Build.assembled(Build.piece(0), Build.piece(1));
        y.plan(3, 300);
        Check.refused("move 1 of 1", Check.INDEX, () -> y.move(1));
    }
}
