/** The sentences of the document's "Terms" that name a boundary: each has a test of its own. */
public final class TermsTest {
    /** Along three edges of the box, from corner to corner: the cubes of its ends are nine steps apart. */
    private static final int[] LONGEST = {0, 1, 2, 3, 7, 11, 15, 31, 47, 63};
    /** Cells that are beside each other as numbers or around the box, but not by faces. */
    private static final int[][] ROUND_THE_BOX = {{3, 4}, {15, 16}, {12, 16}, {0, 3}, {0, 12}, {0, 48}, {0, 63}};
    /** Ten cubes around a hole of two cells, and eight through that hole, with room for one step. */
    private static final int[] LONG_RING = {16, 17, 18, 20, 22, 24, 26, 28, 29, 30};
    private static final int[] LOOSE_RING = {5, 6, 7, 21, 23, 37, 38, 39};

    private TermsTest() {
    }

    public static void main(String[] args) {
        Check.sentence("An object is used for at most 512 calls after it has been made", TermsTest::calls512);
        pieces();
        targets();
        search();
        assembly();
        plan();
        Check.end();
    }

    private static void pieces() {
        Check.sentence("THE BOX has the cells (x, y, z), 0 .. 3 each; cell x + 4 y + 16 z is that bit of a SET",
                TermsTest::box);
        Check.sentence("PIECES 0 .. 5", TermsTest::sixPieces);
        Check.sentence("sets of 1 to 10 CUBES (cells)", TermsTest::oneToTenCubes);
        Check.sentence("that hang together by faces", TermsTest::byFaces);
        Check.sentence("a piece that has none .. is UNMADE", TermsTest::unmadeWithNone);
        Check.sentence("or does not hang together, is UNMADE", TermsTest::unmadeInParts);
        Check.sentence("TURNS .. that do not mirror (24)", TermsTest::turns24);
        Check.sentence("of a piece that may be mirrored, all (48)", TermsTest::turns48);
        Check.sentence("the SHAPES of a piece are the different sets", TermsTest::differentSets);
        Check.sentence("each moved to where its least x, y and z are 0", TermsTest::leastAreZero);
        Check.sentence("by rising number (as numbers of 64 bits without a sign)", TermsTest::shapesRise);
    }

    private static void targets() {
        Check.sentence("THE TARGET says of each cell: 0 out (at first)", TermsTest::outAtFirst);
        Check.sentence("1 SURE, 2 OPTIONAL", TermsTest::sureOrOptional);
        Check.sentence("a shape moved (by x, y, z of 0 and more)", TermsTest::movedInTheBox);
        Check.sentence("within the target's cells that are not out", TermsTest::withinTheTarget);
        Check.sentence("places are ordered by rising number", TermsTest::placesRise);
        Check.sentence("A PACKING is a place for each piece that is made", TermsTest::eachMadePiece);
        Check.sentence("no cell in two of them", TermsTest::noCellInTwo);
        Check.sentence("all sure cells in one", TermsTest::allSureCells);
    }

    private static void search() {
        Check.sentence("when some sure cell is not taken, the one of the lowest number is next", TermsTest::lowestSure);
        Check.sentence("all places that have that cell, of pieces that are not placed, by pieces, then places",
                TermsTest::byPiecesThenPlaces);
        Check.sentence("otherwise all places of the lowest piece that is not placed", TermsTest::lowestPiece);
        Check.sentence("Each try costs 1 of the budget; one that takes no cell that is taken goes on",
                TermsTest::eachTryCosts);
        Check.sentence("When all pieces are placed and all sure cells taken, it is a packing", TermsTest::allPlaced);
        Check.sentence("(with sure cells left and no piece it is none)", TermsTest::sureLeftAndNoPiece);
        Check.sentence("Packings are numbered as they are found", TermsTest::numbered);
        Check.sentence("When there is none of the budget left before a try, the search ends", TermsTest::noneLeft);
    }

    private static void assembly() {
        Check.sentence("THE ASSEMBLY .. apart from each other", TermsTest::apart);
        Check.sentence("(places in the box, whatever the target says)", TermsTest::whateverTheTarget);
        Check.sentence("A PART of it is some of its pieces (bit p for piece p)", TermsTest::partOfItsPieces);
        Check.sentence("two at least", TermsTest::twoAtLeast);
        Check.sentence("STATES of a part are the pieces moved by whole numbers", TermsTest::byWholeNumbers);
        Check.sentence("two are the same if one is the other one moved as a whole", TermsTest::movedAsAWhole);
        Check.sentence("a GROUP (some but not all of the pieces of the part)", TermsTest::groups);
        Check.sentence("a DIRECTION (0 +x, 1 -x, 2 +y, 3 -y, 4 +z, 5 -z)", TermsTest::directions);
        Check.sentence("by a RUN of 1, 2, .. steps while at each step no cube of it is where one of the others is",
                TermsTest::runs);
        Check.sentence("a run goes on until that is no more so", TermsTest::runIntoOthers);
        Check.sentence("FREE: the least box around its cubes and that around the others' have no cell in common",
                TermsTest::free);
        Check.sentence("(the run ends there)", TermsTest::runEnds);
    }

    private static void plan() {
        Check.sentence("THE PLAN of a part is the least row of moves to a state in which the moved group is free",
                TermsTest::leastRow);
        Check.sentence("It is looked for level by level: the states in the order in which they were found"
                + " (the assembly first)", TermsTest::statesInOrder);
        Check.sentence("of each the groups by rising mask, directions, runs by rising steps", TermsTest::movesInOrder);
        Check.sentence("a state that was found before is passed over", TermsTest::passedOver);
        Check.sentence("the first move by which its group is free ends it", TermsTest::firstEnds);
        Check.sentence("States that are kept count, the assembly too", TermsTest::keptCount);
        Check.sentence("when one more than the limit would be kept, it is given up", TermsTest::givenUp);
    }

    private static void calls512() {
        BlockWorkshop x = new BlockWorkshop();
        for (int call = 0; call < 511; call++) {
            int n = call;
            Check.due("call " + (call + 1), call % 2 == 0 ? 1 : 0, () -> x.cube(5, 63, n % 2 == 0));
        }
        Check.due("call 512", 1, () -> x.shapes(5));

        BlockWorkshop y = Build.with(Build.piece(0), Build.piece(0), Build.piece(0), Build.piece(0));
        Build.aimAll(y, 2);
        for (int call = 68; call < 510; call++) {
            y.pack(200000);
        }
        Check.due("call 511: 1 + 2 + 3 tries, then 59 of which 3 are taken", -1 - 56, () -> y.pack(65));
        Check.due("call 512", 65, y::tries);
    }

    private static void box() {
        BlockWorkshop x = Build.with(Build.piece(60, 61, 62, 63), Build.piece(63));
        Check.due("along x", 0x000000000000000FL, () -> x.shape(0, 0));
        Check.due("along y", 0x0000000000001111L, () -> x.shape(0, 1));
        Check.due("along z", 0x0001000100010001L, () -> x.shape(0, 2));
        Check.done("the last row", () -> x.put(0, 0xF000000000000000L));
        Check.due("the last row", 0xF000000000000000L, () -> x.cells(0));
        Check.refused("the last cell is taken", Check.STATE, () -> x.put(1, 1L << 63));
        Check.done("the first cell", () -> x.put(1, 1L));
        Build.aimAll(x, 2);
        Check.due("64 cells", 64, () -> x.places(1));
        Check.due("three rows of four for each of 16 cells", 48, () -> x.places(0));
    }

    private static void sixPieces() {
        BlockWorkshop x = new BlockWorkshop();
        Check.due("the first", 1, () -> x.cube(0, 0, true));
        Check.due("the last", 1, () -> x.cube(5, 0, true));
        Check.due("they are two", 1, () -> x.cube(1, 0, true));
        Check.refused("below the first", Check.ARGUMENT, () -> x.cube(-1, 0, true));
        Check.refused("beyond the last", Check.ARGUMENT, () -> x.cube(6, 0, true));
    }

    private static void oneToTenCubes() {
        BlockWorkshop x = Build.with(Build.piece(63), LONGEST, Build.piece(0, 1, 2, 3, 4, 5, 6, 7, 8, 9));
        Check.due("one cube", 1, () -> x.shapes(0));
        Check.due("ten cubes in the longest row", 12, () -> x.shapes(1));
        Check.due("ten cubes, flat", 24, () -> x.shapes(2));
        Check.refused("an eleventh", Check.STATE, () -> x.cube(2, 10, true));
        Check.due("still ten", 24, () -> x.shapes(2));
    }

    private static void byFaces() {
        BlockWorkshop x = Build.with(Build.piece(0, 1), Build.piece(0, 4), Build.piece(0, 16),
                Build.piece(62, 63), Build.piece(59, 63), Build.piece(47, 63));
        for (int p = 0; p < 6; p++) {
            int piece = p;
            Check.due("by a face", 3, () -> x.shapes(piece));
        }
        BlockWorkshop y = Build.with(Build.piece(0, 5), Build.piece(0, 17), Build.piece(0, 20), Build.piece(0, 21),
                Build.piece(42, 63), Build.piece(1, 4));
        for (int p = 0; p < 6; p++) {
            int piece = p;
            Check.due("by an edge or a corner", 0, () -> y.shapes(piece));
        }
        for (int[] cells : ROUND_THE_BOX) {
            Check.due("cells " + cells[0] + ", " + cells[1], 0, () -> Build.with(cells).shapes(0));
        }
    }

    private static void unmadeWithNone() {
        BlockWorkshop x = new BlockWorkshop();
        Build.aimAll(x, 2);
        Check.due("at first", 0, () -> x.shapes(0));
        Check.due("at first", 0, () -> x.places(0));
        x.cube(0, 0, true);
        Check.due("made", 1, () -> x.shapes(0));
        Check.due("made", 64, () -> x.places(0));
        x.cube(0, 0, false);
        Check.due("none again", 0, () -> x.shapes(0));
        Check.due("none again", 0, () -> x.places(0));
        Check.refused("none again", Check.ARGUMENT, () -> x.put(0, 0L));
        Check.due("the packing of no piece", 1, () -> x.pack(1));
    }

    private static void unmadeInParts() {
        BlockWorkshop x = Build.with(Build.piece(0, 1, 2), Build.piece(0));
        Build.aim(x, 2, 0, 1, 2);
        Check.due("made", 3, () -> x.shapes(0));
        x.cube(0, 1, false);
        Check.due("in two parts", 0, () -> x.shapes(0));
        Check.due("in two parts", 0, () -> x.places(0));
        Check.refused("in two parts", Check.INDEX, () -> x.shape(0, 0));
        Check.refused("in two parts", Check.ARGUMENT, () -> x.put(0, Build.set(0, 2)));
        Check.due("the packings of the other piece", 3, () -> x.pack(3));
        x.cube(0, 1, true);
        Check.due("made again", 3, () -> x.shapes(0));
        Check.due("no room for both", 0, () -> x.pack(100));
    }

    private static void turns24() {
        BlockWorkshop x = Build.with(Build.piece(0, 1, 2, 3, 4, 20), Build.piece(0, 1, 5, 21), Build.piece(0));
        Check.due("all turns differ", 24, () -> x.shapes(0));
        Check.due("pairs of turns are the same", 12, () -> x.shapes(1));
        Check.refused("not its mirror image", Check.ARGUMENT, () -> x.put(1, Build.set(0, 1, 4, 20)));
        Check.done("it turned", () -> x.put(1, Build.set(0, 4, 20, 21)));
    }

    private static void turns48() {
        BlockWorkshop x = Build.with(Build.piece(0, 1, 2, 3, 4, 20), Build.piece(0, 1, 5, 21), Build.piece(0, 1, 2, 4));
        for (int p = 0; p < 3; p++) {
            x.mirror(p, true);
        }
        Check.due("all turns differ", 48, () -> x.shapes(0));
        Check.due("pairs of turns are the same", 24, () -> x.shapes(1));
        Check.due("flat, so its own mirror image", 24, () -> x.shapes(2));
        Check.done("its mirror image", () -> x.put(1, Build.set(0, 1, 4, 20)));
    }

    private static void differentSets() {
        BlockWorkshop x = Build.with(Build.piece(42), Build.piece(0, 1, 4, 5, 16, 17, 20, 21), Build.piece(0, 1, 4, 5),
                Build.piece(0, 1, 2), Build.piece(0, 1, 2, 5), Build.piece(1, 4, 5, 6, 9, 21, 53));
        int[] due = {1, 1, 3, 3, 12, 0};
        for (int p = 0; p < 6; p++) {
            int piece = p;
            Check.due("piece " + p, due[p], () -> x.shapes(piece));
        }
        x.cube(5, 37, true);
        Check.due("a cross on a stem", 6, () -> x.shapes(5));
    }

    private static void leastAreZero() {
        BlockWorkshop x = Build.with(Build.piece(58, 62, 63), Build.piece(0, 4, 5), Build.piece(63));
        Check.due("the corner of the box", 1L, () -> x.shape(2, 0));
        for (int i = 0; i < 12; i++) {
            int k = i;
            Check.due("wherever it was made", x.shape(1, k), () -> x.shape(0, k));
            Check.due("least x", true, () -> (x.shape(0, k) & 0x1111111111111111L) != 0);
            Check.due("least y", true, () -> (x.shape(0, k) & 0x000F000F000F000FL) != 0);
            Check.due("least z", true, () -> (x.shape(0, k) & 0x000000000000FFFFL) != 0);
        }
    }

    private static void shapesRise() {
        BlockWorkshop x = Build.with(LONGEST);
        Check.due("cell 63 makes it the greatest", true, () -> x.shape(0, 11) < 0);
        Check.due("the least is without it", true, () -> x.shape(0, 0) > 0);
        for (int i = 1; i < 12; i++) {
            int k = i;
            Check.due("rising", -1, () -> Long.compareUnsigned(x.shape(0, k - 1), x.shape(0, k)));
        }
    }

    private static void outAtFirst() {
        BlockWorkshop x = Build.with(Build.piece(0));
        Check.due("no place", 0, () -> x.places(0));
        Check.due("no packing", 0, () -> x.pack(1));
        x.target(5, 1);
        x.target(5, 0);
        Check.due("out again", 0, () -> x.places(0));
        Check.due("out again", 0, () -> x.pack(1));
    }

    private static void sureOrOptional() {
        BlockWorkshop x = Build.with(Build.piece(0));
        x.target(0, 1);
        x.target(63, 1);
        Check.due("both have places", 2, () -> x.places(0));
        Check.due("both must be taken", 0, () -> x.pack(9));
        x.target(0, 2);
        Check.due("both have places", 2, () -> x.places(0));
        Check.due("one must be", 1, () -> x.pack(9));
        x.target(63, 2);
        Check.due("none must be", 2, () -> x.pack(9));
    }

    private static void movedInTheBox() {
        BlockWorkshop x = Build.with(Build.piece(0, 1, 2, 3), Build.piece(0, 1), LONGEST);
        for (int[] cells : ROUND_THE_BOX) {
            Build.aim(x, 1, cells);
            Check.due("not from " + cells[0] + " to " + cells[1], 0, () -> x.places(1));
            Build.aim(x, 0, cells);
        }
        Build.aim(x, 2, 2, 3, 4, 5);
        Check.due("no row of four round the side", 0, () -> x.places(0));
        Build.aimAll(x, 2);
        Check.due("a row of four fills its line", 48, () -> x.places(0));
        Check.due("two cubes", 3 * 48, () -> x.places(1));
        Check.due("as large as the box: not moved", 12, () -> x.places(2));
    }

    private static void withinTheTarget() {
        BlockWorkshop x = Build.with(Build.piece(0, 1, 2));
        Build.aim(x, 1, 61, 62);
        Check.due("a cell is out", 0, () -> x.places(0));
        x.target(63, 2);
        Check.due("sure and optional", 1, () -> x.places(0));
        x.target(60, 1);
        Check.due("moved by one", 2, () -> x.places(0));
        x.target(62, 0);
        Check.due("a cell of both is out", 0, () -> x.places(0));
    }

    private static void placesRise() {
        BlockWorkshop x = Build.with(Build.piece(0, 1));
        Build.aim(x, 2, 63, 62, 47, 5, 4, 1, 0);
        long[] rising = {Build.set(0, 1), Build.set(0, 4), Build.set(1, 5), Build.set(4, 5), Build.set(47, 63),
            Build.set(62, 63)};
        for (int k = 0; k < rising.length; k++) {
            int packing = k;
            Check.due("place " + k, true, () -> x.assemble(packing, 6));
            Check.due("place " + k, rising[k], () -> x.cells(0));
        }
        Check.due("no more", false, () -> x.assemble(6, 7));
    }

    private static void eachMadePiece() {
        BlockWorkshop x = Build.with(Build.piece(0), Build.piece(0, 2), Build.piece(0, 1, 2));
        Build.aim(x, 2, 0, 1);
        Check.due("piece 2 has no place", 0, () -> x.pack(100));
        x.cube(2, 1, false);
        Check.due("unmade ones need none", 2, () -> x.pack(100));
        x.assemble(1, 100);
        Check.due("piece 0", 2L, () -> x.cells(0));
        Check.due("an unmade one", 0L, () -> x.cells(1));
    }

    private static void noCellInTwo() {
        BlockWorkshop x = Build.with(Build.piece(0), Build.piece(0));
        x.target(63, 2);
        Check.due("one cell", 0, () -> x.pack(100));
        x.target(62, 2);
        Check.due("two cells", 2, () -> x.pack(100));
        BlockWorkshop y = Build.with(Build.piece(0, 1), Build.piece(0, 1));
        Build.aim(y, 2, 0, 1, 2);
        Check.due("they share the middle", 0, () -> y.pack(100));
        y.target(3, 2);
        Check.due("side by side", 2, () -> y.pack(100));
    }

    private static void allSureCells() {
        BlockWorkshop x = Build.with(Build.piece(0, 1));
        Build.aim(x, 1, 62, 63);
        Check.due("both taken", 1, () -> x.pack(100));
        x.target(0, 1);
        Check.due("one that no place has", 0, () -> x.pack(100));
        x.target(0, 2);
        Check.due("an optional one", 1, () -> x.pack(100));
    }

    private static void lowestSure() {
        BlockWorkshop x = Build.with(Build.piece(0), Build.piece(0));
        Build.aim(x, 1, 63, 5);
        x.target(0, 2);
        Check.due("packing 0", true, () -> x.assemble(0, 2));
        Check.due("cell 5 before cell 63", 1L << 5, () -> x.cells(0));
        Check.due("then cell 63", 1L << 63, () -> x.cells(1));
        Check.due("both ways round", 2, () -> x.pack(100));
        Check.due("only places that have that cell", 4, x::tries);
    }

    private static void byPiecesThenPlaces() {
        BlockWorkshop x = Build.with(Build.piece(0, 1), Build.piece(), Build.piece(0, 1));
        Build.aim(x, 2, 4, 6);
        x.target(5, 1);
        Build.aim(x, 2, 1, 60, 61);
        long[] due = {Build.set(1, 5), Build.set(4, 5), Build.set(5, 6)};
        for (int i = 0; i < 6; i++) {
            int k = i;
            Check.due("packing " + k, true, () -> x.assemble(k, 100));
            Check.due("the sure cell in packing " + k, due[k % 3], () -> x.cells(k < 3 ? 0 : 2));
            Check.due("the other piece", Build.set(60, 61), () -> x.cells(k < 3 ? 2 : 0));
        }
        Check.due("in all", 6, () -> x.pack(100));
        Check.due("6 with the cell, each with 4 of the other", 30, x::tries);
    }

    private static void lowestPiece() {
        BlockWorkshop x = Build.with(Build.piece(), Build.piece(0), Build.piece(), Build.piece(0), Build.piece(0));
        x.target(63, 1);
        Build.aim(x, 2, 0, 1);
        Check.due("packings", 6, () -> x.pack(100));
        Check.due("3 at the sure cell, each with 3 and twice 3 more", 30, x::tries);
        long[][] due = {{63, 0, 1}, {63, 1, 0}, {0, 63, 1}, {1, 63, 0}, {0, 1, 63}, {1, 0, 63}};
        for (int i = 0; i < 6; i++) {
            int k = i;
            Check.due("packing " + k, true, () -> x.assemble(k, 100));
            Check.due("piece 1 in packing " + k, 1L << due[k][0], () -> x.cells(1));
            Check.due("piece 3 in packing " + k, 1L << due[k][1], () -> x.cells(3));
            Check.due("piece 4 in packing " + k, 1L << due[k][2], () -> x.cells(4));
        }
    }

    private static void eachTryCosts() {
        BlockWorkshop x = Build.twoCubes();
        Check.due("packings", 6, () -> x.pack(100));
        Check.due("three times 1 and 3, of which one is taken", 12, x::tries);
        int[] foundBy = {0, 0, 1, 2, 2, 3, 3, 4, 4, 5, 6};
        for (int tries = 1; tries <= 11; tries++) {
            int budget = tries;
            Check.due("with " + budget, -1 - foundBy[budget - 1], () -> x.pack(budget));
            Check.due("all of it", budget, x::tries);
        }
        Check.due("with 12", 6, () -> x.pack(12));
    }

    private static void allPlaced() {
        BlockWorkshop x = Build.with(Build.piece(0), Build.piece(0));
        Check.due("no places", 0, () -> x.pack(9));
        x.target(0, 1);
        Check.due("the sure cell taken, a piece left", 0, () -> x.pack(9));
        x.target(1, 1);
        Check.due("all", 2, () -> x.pack(9));
        x.target(2, 1);
        Check.due("all placed, a sure cell left", 0, () -> x.pack(9));
        x.target(2, 2);
        Check.due("all placed, an optional cell left", 2, () -> x.pack(9));
    }

    private static void sureLeftAndNoPiece() {
        BlockWorkshop x = new BlockWorkshop();
        Check.due("neither", 1, () -> x.pack(1));
        Check.due("neither", true, () -> x.assemble(0, 1));
        Check.due("that is all", false, () -> x.assemble(1, 1));
        x.target(63, 1);
        Check.due("a sure cell", 0, () -> x.pack(1));
        Check.due("a sure cell", false, () -> x.assemble(0, 1));
        Check.due("without a try", 0, x::tries);
        x.target(63, 2);
        Check.due("an optional cell", 1, () -> x.pack(1));
        Check.due("without a try", 0, x::tries);
    }

    private static void numbered() {
        BlockWorkshop x = Build.twoDominoes();
        long[] first = {Build.set(0, 1), Build.set(0, 4), Build.set(4, 5), Build.set(1, 5)};
        for (int i = 0; i < 4; i++) {
            int k = i;
            Check.due("packing " + k, true, () -> x.assemble(k, 3 * k + 3));
            Check.due("piece 0 in packing " + k, first[k], () -> x.cells(0));
            Check.due("piece 1 in packing " + k, first[(k + 2) % 4], () -> x.cells(1));
        }
        Check.due("packing 4", false, () -> x.assemble(4, 200000));
    }

    private static void noneLeft() {
        BlockWorkshop x = Build.twoDominoes();
        Check.due("as many as it takes", 4, () -> x.pack(12));
        Check.due("as many as it takes", 12, x::tries);
        Check.due("one too few", -1 - 3, () -> x.pack(11));
        Check.due("one too few", 11, x::tries);
        BlockWorkshop y = new BlockWorkshop();
        Check.due("no try to come", 1, () -> y.pack(1));
    }

    private static void apart() {
        BlockWorkshop x = Build.assembled(Build.piece(0, 1), Build.piece(2, 3));
        Check.refused("one cell in common", Check.STATE, () -> x.put(0, Build.set(1, 2)));
        Check.refused("both in common", Check.STATE, () -> x.put(1, Build.set(0, 1)));
        Check.due("it stays", Build.set(0, 1), () -> x.cells(0));
        Check.due("it stays", Build.set(2, 3), () -> x.cells(1));
        Check.done("beside each other", () -> x.put(0, Build.set(6, 7)));
    }

    private static void whateverTheTarget() {
        BlockWorkshop x = Build.with(Build.piece(0));
        Check.done("no target", () -> x.put(0, 1L << 63));
        x.target(0, 1);
        Check.done("another cell is sure", () -> x.put(0, 1L << 62));
        x.target(62, 1);
        x.target(62, 0);
        Check.due("its cell is out", 1L << 62, () -> x.cells(0));
        BlockWorkshop y = Build.twoDominoes();
        y.assemble(0, 100);
        Build.aimAll(y, 0);
        Check.due("a packing stays as it was", Build.set(0, 1), () -> y.cells(0));
        Check.due("a packing stays as it was", 1, () -> y.plan(3, 1));
    }

    private static void partOfItsPieces() {
        BlockWorkshop x = Build.assembled(Build.piece(0), Build.piece(), Build.piece(2), Build.piece(), Build.piece(),
                Build.piece(8));
        for (int part : new int[] {5, 33, 36, 37}) {
            Check.due("part " + part, 1, () -> x.plan(part, 300));
        }
        for (int part : new int[] {3, 7, 63, 69, 64 + 5, -1, -32 + 5, Integer.MIN_VALUE + 5, Integer.MAX_VALUE}) {
            Check.refused("part " + part, Check.ARGUMENT, () -> x.plan(part, 300));
        }
        x.take(5);
        Check.refused("piece 5 is not in it any more", Check.ARGUMENT, () -> x.plan(33, 300));
    }

    private static void twoAtLeast() {
        BlockWorkshop x = Build.assembled(Build.piece(0), Build.piece(1), Build.piece(2), Build.piece(3),
                Build.piece(4), Build.piece(5));
        for (int part = 0; part < 64; part++) {
            int mask = part;
            String due = Integer.bitCount(part) < 2 ? Check.ARGUMENT : "1";
            Check.same("part " + part, due, Check.answerOf(() -> x.plan(mask, 300)));
        }
    }

    private static void byWholeNumbers() {
        // A bar of four goes through a staple and so out of the box, and a staple out of it along the bar.
        BlockWorkshop x = Build.assembled(Build.piece(20, 21, 22, 23), Build.piece(3, 7, 11, 19, 27));
        dueMoves(x, 3, 4, 1004);
        BlockWorkshop y = Build.assembled(Build.piece(0, 4, 8, 16, 24), Build.piece(20, 21, 22, 23));
        dueMoves(y, 3, 4, 1004);
    }

    private static void movedAsAWhole() {
        BlockWorkshop x = Build.assembled(LONG_RING, LOOSE_RING);
        Check.due("does not come apart", -1, () -> x.plan(3, 300));
        Check.due("one ring to and fro in the other", 2, x::states);
    }

    private static void groups() {
        BlockWorkshop x = Build.assembled(LONG_RING, LOOSE_RING);
        Check.due("neither none nor all of the pieces", -1, () -> x.plan(3, 300));
        // Two of the four pieces go at once, which is neither one piece nor all but one.
        dueMoves(fromSets(2305902383856615424L, 76562293227261474L, -4170333117502979824L, 2472578317025280L),
                15, 14, 4301, 6104);
    }

    /** Ten cubes around (1, 1, 1), turned so that the only way out is that of a direction. */
    private static int[] cup(int direction) {
        int[][] points = {{0, 0, 1}, {1, 0, 1}, {2, 0, 1}, {0, 1, 1}, {2, 1, 1}, {0, 2, 1}, {1, 2, 1}, {2, 2, 1},
            {1, 1, 0}, {0, 1, 0}};
        int axis = direction / 2;
        int[] cells = new int[points.length];
        for (int i = 0; i < points.length; i++) {
            int[] at = new int[3];
            at[axis] = direction % 2 == 0 ? points[i][2] : 2 - points[i][2];
            at[(axis + 1) % 3] = points[i][0];
            at[(axis + 2) % 3] = points[i][1];
            cells[i] = Build.cell(at[0], at[1], at[2]);
        }
        return cells;
    }

    private static void directions() {
        for (int direction = 0; direction < 6; direction++) {
            BlockWorkshop x = Build.assembled(Build.piece(21), cup(direction));
            Check.due("out of the cup " + direction, 1, () -> x.plan(3, 1));
            Check.due("out of the cup", 1001 + 100 * direction, () -> x.move(0));
            BlockWorkshop y = Build.assembled(cup(direction), Build.piece(21));
            Check.due("the cup from it " + direction, 1, () -> y.plan(3, 1));
            Check.due("the cup from it", 1001 + 100 * (direction ^ 1), () -> y.move(0));
        }
    }

    private static void runs() {
        // A staple goes along a bar of three: still around it after one step and after two.
        BlockWorkshop x = Build.assembled(Build.piece(0, 1, 2, 16, 18), Build.piece(17, 21, 25));
        Check.due("along the bar", 1, () -> x.plan(3, 300));
        Check.due("three steps", 1203, () -> x.move(0));
        Check.due("one and two are kept", 3, x::states);
        BlockWorkshop z = Build.assembled(Build.piece(0), Build.piece(1), Build.piece(16));
        Check.due("only the others of the part are in the way", 1, () -> z.plan(5, 1));
        Check.due("through piece 1", 1001, () -> z.move(0));
    }

    private static void runIntoOthers() {
        // A cube before a wall: at step 2 it would be in it, at step 3 behind it.
        BlockWorkshop y = Build.assembled(Build.piece(0), Build.piece(2, 6, 5, 4, 8));
        Check.due("not through the wall", 1, () -> y.plan(3, 300));
        Check.due("but back", 1101, () -> y.move(0));
        Check.due("one step towards it is kept", 2, y::states);
    }

    private static void free() {
        BlockWorkshop x = Build.assembled(Build.piece(0, 1), Build.piece(4, 5));
        Check.due("boxes that touch have no cell in common", 1, () -> x.plan(3, 1));
        Check.due("after one step", 1001, () -> x.move(0));
        BlockWorkshop y = Build.assembled(Build.piece(5), Build.piece(0), Build.piece(10));
        Check.due("between two cubes", 1, () -> y.plan(7, 2));
        Check.due("the box around both, not each", 1002, () -> y.move(0));
        Check.due("one step is not enough", -2, () -> y.plan(7, 1));
        BlockWorkshop z = Build.assembled(Build.piece(5), Build.piece(0, 1, 2, 4, 8, 9, 10));
        Check.due("out of a staple", 1, () -> z.plan(3, 300));
        Check.due("out of its box, not only of its cubes' way", 1002, () -> z.move(0));
        BlockWorkshop w = Build.assembled(Build.piece(0), Build.piece(63));
        Check.due("apart already: a move is due all the same", 1, () -> w.plan(3, 1));
        Check.due("by one step", 1001, () -> w.move(0));
    }

    private static void runEnds() {
        BlockWorkshop x = Build.assembled(Build.piece(0), Build.piece(4));
        Check.due("free at the first step", 1, () -> x.plan(3, 300));
        Check.due("no longer run", 1001, () -> x.move(0));
        Check.due("nothing is kept", 1, x::states);
    }

    private static void leastRow() {
        int[] first = {5, 6, 22, 23, 38, 53, 54, 56, 57, 60};
        int[] second = {17, 18, 21, 25, 26, 27, 33, 43, 58, 59};
        BlockWorkshop x = Build.assembled(first, second);
        Check.due("five moves", 5, () -> x.plan(3, 300));
        int[] moves = {1501, 1001, 1301, 1001, 1303};
        for (int i = 0; i < 5; i++) {
            int k = i;
            Check.due("move " + k, moves[k], () -> x.move(k));
        }
    }

    private static BlockWorkshop fromSets(long... sets) {
        BlockWorkshop x = new BlockWorkshop();
        for (int p = 0; p < sets.length; p++) {
            for (int cell = 0; cell < 64; cell++) {
                if ((sets[p] >>> cell & 1) != 0) {
                    x.cube(p, cell, true);
                }
            }
            x.put(p, sets[p]);
        }
        return x;
    }

    private static void dueMoves(BlockWorkshop x, int part, int states, int... moves) {
        Check.due("part " + part, moves.length, () -> x.plan(part, 300));
        Check.due("states of part " + part, states, x::states);
        for (int i = 0; i < moves.length; i++) {
            int k = i;
            Check.due("move " + k, moves[k], () -> x.move(k));
        }
    }

    private static void statesInOrder() {
        dueMoves(fromSets(4627916382046208L, 3612449988579164208L, 19140324472590336L, 154207113995264L),
                15, 20, 1201, 4301, 7501, 1104);
        dueMoves(fromSets(108103540861304832L, -1999597959661486072L, 12947986403320320L, 3288400967L),
                15, 16, 1201, 3401, 2201, 3403);
    }

    private static void movesInOrder() {
        BlockWorkshop x = Build.assembled(Build.piece(), Build.piece(), Build.piece(0), Build.piece(), Build.piece(2),
                Build.piece(8));
        dueMoves(x, 52, 2, 4101);
        dueMoves(fromSets(1099532468230L, 17592995549553L, -1076289461161033728L, 288375515109164032L,
                784191484172706304L, 282089165490304L), 63, 7, 4101, 8401, 24001, 2503);
        dueMoves(fromSets(9008161336590472L, 4503668991729664L, 4503722773746548736L, -4611545278791498682L,
                72074086863345920L, 1407404948390449L), 63, 14, 1001, 31401, 30203);
    }

    private static void passedOver() {
        BlockWorkshop x = Build.assembled(LONG_RING, LOOSE_RING);
        Check.due("to and fro ends", -1, () -> x.plan(3, 2));
        Check.due("each state once", 2, x::states);
        BlockWorkshop y = fromSets(841093123L, 4277246260936704L, 4899921651628244992L, 576680655774048320L,
                216173881642192768L);
        Check.due("five pieces to and fro", -1, () -> y.plan(31, 6));
        Check.due("each state once", 6, y::states);
    }

    private static void firstEnds() {
        // Along +y the staple is free as well, and so is the bar; what comes after the first is not looked at.
        BlockWorkshop x = Build.assembled(Build.piece(0, 1, 2, 16, 18), Build.piece(17, 21, 25));
        Check.due("the first way out", 1, () -> x.plan(3, 3));
        Check.due("+y before -y, -z and the bar's", 1203, () -> x.move(0));
        Check.due("nothing behind it is kept", 3, x::states);
    }

    private static void keptCount() {
        BlockWorkshop x = Build.assembled(Build.piece(0), Build.piece(63));
        x.plan(3, 300);
        Check.due("the assembly alone, not the free one", 1, x::states);
        BlockWorkshop y = Build.assembled(Build.piece(5), Build.piece(0), Build.piece(10));
        y.plan(7, 300);
        Check.due("the assembly and one step", 2, y::states);
    }

    private static void givenUp() {
        BlockWorkshop x = Build.assembled(LONG_RING, LOOSE_RING);
        Check.due("as many as there are", -1, () -> x.plan(3, 2));
        Check.due("one too few", -2, () -> x.plan(3, 1));
        Check.due("the limit is kept", 1, x::states);
        BlockWorkshop y = fromSets(31811345292722176L, 3377798507921408L, 3458799698729509484L, -8142507026757447424L,
                33554432L, 2291105793L);
        Check.due("with 300 of 300", 2, () -> y.plan(63, 300));
        Check.due("with 300 of 300", 300, y::states);
        Check.due("one too few", -2, () -> y.plan(63, 299));
        Check.due("the limit is kept", 299, y::states);
        BlockWorkshop z = fromSets(67849213282615296L, 1125998694236160L, 3458799698729509484L, -8142507026757447424L,
                33554432L, 2291105793L);
        Check.due("with more than 300", -2, () -> z.plan(63, 300));
        Check.due("the limit is kept", 300, z::states);
    }
}
