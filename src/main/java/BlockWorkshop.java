import java.util.Arrays;

/**
 * A workshop for blocks that interlock: pieces of cubes with all their turns, packings of a
 * target counted exactly by a search with a budget, assemblies, and the shortest plans by which
 * they come apart.
 */
public final class BlockWorkshop {
    private static final int PIECES = 6;
    private static final int CELLS = 64;
    private static final int AXES = 3;
    private static final int SIDE = 4;
    private static final int DIRECTIONS = 6;
    private static final int TURNS = 48;
    private static final int MOST_CUBES = 10;
    private static final int MOST_BUDGET = 200000;
    private static final int MOST_STATES = 300;
    private static final int OUT = 0;
    private static final int SURE = 1;
    private static final int OPTIONAL = 2;

    private final Piece[] kit;
    private final long[] assembly;
    private final Search search;
    private final Unlocker unlocker;
    private long sureCells;
    private long optionalCells;

    public BlockWorkshop() {
        kit = new Piece[PIECES];
        for (int p = 0; p < PIECES; p++) {
            kit[p] = new Piece();
        }
        assembly = new long[PIECES];
        search = new Search(kit);
        unlocker = new Unlocker();
    }

    public int cube(int piece, int cell, boolean on) throws IllegalArgumentException, IllegalStateException {
        checkPiece(piece);
        checkCell(cell);
        Piece changed = kit[piece];
        if (changed.hasCube(cell) == on) {
            throw new IllegalStateException("the cube is so already");
        }
        if (on && changed.cubeCount() >= MOST_CUBES) {
            throw new IllegalStateException("a piece has 10 cubes at the most");
        }
        changed.flipCube(cell);
        assembly[piece] = 0L;
        return changed.cubeCount();
    }

    public void mirror(int piece, boolean may) throws IllegalArgumentException {
        checkPiece(piece);
        kit[piece].allowMirror(may);
    }

    public int shapes(int piece) throws IllegalArgumentException {
        checkPiece(piece);
        return kit[piece].countShapes();
    }

    public long shape(int piece, int k) throws IllegalArgumentException, IndexOutOfBoundsException {
        checkPiece(piece);
        if (k < 0 || k >= kit[piece].countShapes()) {
            throw new IndexOutOfBoundsException("no such shape");
        }
        return kit[piece].shapeAt(k);
    }

    public void target(int cell, int kind) throws IllegalArgumentException {
        checkCell(cell);
        if (kind < OUT || kind > OPTIONAL) {
            throw new IllegalArgumentException("no such kind");
        }
        long bit = 1L << cell;
        sureCells = kind == SURE ? sureCells | bit : sureCells & ~bit;
        optionalCells = kind == OPTIONAL ? optionalCells | bit : optionalCells & ~bit;
    }

    public int places(int piece) throws IllegalArgumentException {
        checkPiece(piece);
        kit[piece].learnPlaces(sureCells | optionalCells);
        return kit[piece].countPlaces();
    }

    public int pack(int budget) throws IllegalArgumentException {
        checkBudget(budget);
        search.run(sureCells, optionalCells, budget, Search.NO_PACKING);
        return search.wasEnough() ? search.countFound() : -1 - search.countFound();
    }

    public int tries() {
        return search.countTried();
    }

    public boolean assemble(int k, int budget) throws IllegalArgumentException {
        if (k < 0) {
            throw new IllegalArgumentException("no such packing");
        }
        checkBudget(budget);
        search.run(sureCells, optionalCells, budget, k);
        if (!search.hasWanted()) {
            return false;
        }
        for (int p = 0; p < PIECES; p++) {
            assembly[p] = search.chosenFor(p);
        }
        return true;
    }

    public void put(int piece, long set) throws IllegalArgumentException, IllegalStateException {
        checkPiece(piece);
        if (!kit[piece].hasShape(Box.settled(set))) {
            throw new IllegalArgumentException("the set is none of its shapes moved");
        }
        for (int p = 0; p < PIECES; p++) {
            if (p != piece && (assembly[p] & set) != 0L) {
                throw new IllegalStateException("another piece has one of the cells");
            }
        }
        assembly[piece] = set;
    }

    public void take(int piece) throws IllegalArgumentException, IllegalStateException {
        checkPiece(piece);
        if (assembly[piece] == 0L) {
            throw new IllegalStateException("the piece is not in the assembly");
        }
        assembly[piece] = 0L;
    }

    public long cells(int piece) throws IllegalArgumentException {
        checkPiece(piece);
        return assembly[piece];
    }

    public int plan(int part, int limit) throws IllegalArgumentException {
        if ((part & ~assembledPieces()) != 0 || Integer.bitCount(part) < 2) {
            throw new IllegalArgumentException("no such part");
        }
        if (limit < 1 || limit > MOST_STATES) {
            throw new IllegalArgumentException("no such limit");
        }
        return unlocker.look(assembly, part, limit);
    }

    public int states() {
        return unlocker.countKept();
    }

    public int move(int k) throws IndexOutOfBoundsException {
        if (k < 0 || k >= unlocker.countMoves()) {
            throw new IndexOutOfBoundsException("no such move");
        }
        return unlocker.moveAt(k);
    }

    private int assembledPieces() {
        int mask = 0;
        for (int p = 0; p < PIECES; p++) {
            if (assembly[p] != 0L) {
                mask |= 1 << p;
            }
        }
        return mask;
    }

    private static void checkPiece(int piece) {
        if (piece < 0 || piece >= PIECES) {
            throw new IllegalArgumentException("no such piece");
        }
    }

    private static void checkCell(int cell) {
        if (cell < 0 || cell >= CELLS) {
            throw new IllegalArgumentException("no such cell");
        }
    }

    private static void checkBudget(int budget) {
        if (budget < 1 || budget > MOST_BUDGET) {
            throw new IllegalArgumentException("no such budget");
        }
    }

    /** The lowest piece of a mask that is not empty. */
    private static int lowestPiece(int mask) {
        return Integer.bitCount((mask & -mask) - 1);
    }

    /** Sets of cells of the box, and how they turn and move. */
    private static final class Box {
        /** How far one step along an axis goes in cell numbers. */
        private static final int[] STRIDE = {1, 4, 16};
        /** By axis, the cells whose coordinate is 0. */
        private static final long[] FLOOR = {0x1111111111111111L, 0x000F000F000F000FL, 0x000000000000FFFFL};
        /** By axis and 0 to 3 steps, the cells whose coordinate is at most 3 less the steps. */
        private static final long[] STAYS = {
            -1L, 0x7777777777777777L, 0x3333333333333333L, 0x1111111111111111L,
            -1L, 0x0FFF0FFF0FFF0FFFL, 0x00FF00FF00FF00FFL, 0x000F000F000F000FL,
            -1L, 0x0000FFFFFFFFFFFFL, 0x00000000FFFFFFFFL, 0x000000000000FFFFL};
        /** The six orders of the axes; the last three change the hand. */
        private static final int[] ORDERS = {0, 1, 2, 1, 2, 0, 2, 0, 1, 0, 2, 1, 2, 1, 0, 1, 0, 2};
        private static final int SIGNS = 8;
        private static final int FIRST_ODD_ORDER = 3;

        private Box() {
        }

        /** Compares as numbers without a sign, since cell 63 is the sign's bit. */
        static boolean isBelow(long a, long b) {
            return (a ^ (1L << 63)) < (b ^ (1L << 63));
        }

        /** The lowest cell of a set that is not empty. */
        static int lowest(long set) {
            return Long.bitCount((set & -set) - 1L);
        }

        static int least(long set, int axis) {
            int at = 0;
            while (at < SIDE - 1 && (set & (FLOOR[axis] << (at * STRIDE[axis]))) == 0L) {
                at++;
            }
            return at;
        }

        static int greatest(long set, int axis) {
            int at = SIDE - 1;
            while (at > 0 && (set & (FLOOR[axis] << (at * STRIDE[axis]))) == 0L) {
                at--;
            }
            return at;
        }

        /** The set moved to where its least x, y and z are 0. */
        static long settled(long set) {
            long moved = set;
            for (int axis = 0; axis < AXES; axis++) {
                moved >>>= least(moved, axis) * STRIDE[axis];
            }
            return moved;
        }

        /** The set moved along an axis, less what leaves the box. */
        static long shifted(long set, int axis, int steps) {
            if (steps <= -SIDE || steps >= SIDE) {
                return 0L;
            }
            if (steps >= 0) {
                return (set & STAYS[axis * SIDE + steps]) << (steps * STRIDE[axis]);
            }
            return (set >>> (-steps * STRIDE[axis])) & STAYS[axis * SIDE - steps];
        }

        static boolean mirrors(int turn) {
            boolean oddOrder = turn / SIGNS >= FIRST_ODD_ORDER;
            boolean oddSigns = (Integer.bitCount(turn % SIGNS) & 1) != 0;
            return oddOrder != oddSigns;
        }

        /** Negates about the middle of the box, so that what comes of a turn stays inside. */
        static long turned(long set, int turn) {
            int order = turn / SIGNS * AXES;
            int signs = turn % SIGNS;
            long result = 0L;
            for (long rest = set; rest != 0L; rest &= rest - 1L) {
                int cell = lowest(rest);
                int to = 0;
                for (int axis = 0; axis < AXES; axis++) {
                    int at = cell / STRIDE[ORDERS[order + axis]] % SIDE;
                    boolean negated = (signs >> axis & 1) != 0;
                    to += (negated ? SIDE - 1 - at : at) * STRIDE[axis];
                }
                result |= 1L << to;
            }
            return result;
        }

        static boolean hangsTogether(long set) {
            long reached = set & -set;
            for (int round = 0; round < MOST_CUBES; round++) {
                reached |= neighbours(reached) & set;
            }
            return set != 0L && reached == set;
        }

        private static long neighbours(long set) {
            long all = 0L;
            for (int axis = 0; axis < AXES; axis++) {
                all |= shifted(set, axis, 1) | shifted(set, axis, -1);
            }
            return all;
        }
    }

    /** A piece with its shapes and places, which are worked out again only after a change. */
    private static final class Piece {
        /** The most is 48 shapes of 3 by 2 by 2 cells with 18 places each: 864. */
        private static final int WORDS = 14;
        private static final int MOST_PLACES = WORDS * 64;
        /** The row of the index that has the places with any cell. */
        private static final int ANY_CELL = CELLS;

        private final long[] shapeSets;
        private final long[] placeSets;
        /** By cell, then by 64 places, the bits of the places that have the cell. */
        private final long[] having;
        private final long[] ofOneShape;
        private long cubes;
        private boolean mayMirror;
        private boolean shapesKnown;
        private boolean placesKnown;
        private long knownWithin;
        private int shapeCount;
        private int placeCount;

        Piece() {
            shapeSets = new long[TURNS];
            placeSets = new long[MOST_PLACES];
            having = new long[(CELLS + 1) * WORDS];
            ofOneShape = new long[CELLS];
        }

        boolean hasCube(int cell) {
            return (cubes >>> cell & 1L) != 0L;
        }

        int cubeCount() {
            return Long.bitCount(cubes);
        }

        void flipCube(int cell) {
            cubes ^= 1L << cell;
            forget();
        }

        void allowMirror(boolean may) {
            mayMirror = may;
            forget();
        }

        /** None when the piece is unmade. */
        int countShapes() {
            learnShapes();
            return shapeCount;
        }

        long shapeAt(int k) {
            return shapeSets[k];
        }

        boolean hasShape(long set) {
            int count = countShapes();
            for (int k = 0; k < count; k++) {
                if (shapeSets[k] == set) {
                    return true;
                }
            }
            return false;
        }

        int countPlaces() {
            return placeCount;
        }

        long placeAt(int k) {
            return placeSets[k];
        }

        int countWords() {
            return (placeCount + 63) / 64;
        }

        long wordOf(int row, int word) {
            return having[row * WORDS + word];
        }

        void learnPlaces(long within) {
            learnShapes();
            if (placesKnown && knownWithin == within) {
                return;
            }
            placeCount = 0;
            for (int k = 0; k < shapeCount; k++) {
                mergeIn(placeOneShape(shapeSets[k], within));
            }
            indexPlaces();
            knownWithin = within;
            placesKnown = true;
        }

        private void forget() {
            shapesKnown = false;
            placesKnown = false;
        }

        private void learnShapes() {
            if (shapesKnown) {
                return;
            }
            shapeCount = 0;
            if (Box.hangsTogether(cubes)) {
                for (int turn = 0; turn < TURNS; turn++) {
                    if (mayMirror || !Box.mirrors(turn)) {
                        addShape(Box.settled(Box.turned(cubes, turn)));
                    }
                }
            }
            shapesKnown = true;
        }

        private void addShape(long set) {
            int at = 0;
            while (at < shapeCount && Box.isBelow(shapeSets[at], set)) {
                at++;
            }
            if (at < shapeCount && shapeSets[at] == set || shapeCount >= TURNS) {
                return;
            }
            for (int k = shapeCount; k > at; k--) {
                shapeSets[k] = shapeSets[k - 1];
            }
            shapeSets[at] = set;
            shapeCount++;
        }

        /** Lists by rising number, as a greater move of the same shape is a greater number. */
        private int placeOneShape(long shape, long within) {
            int lastX = SIDE - 1 - Box.greatest(shape, 0);
            int lastY = SIDE - 1 - Box.greatest(shape, 1);
            int lastZ = SIDE - 1 - Box.greatest(shape, 2);
            int count = 0;
            for (int z = 0; z <= lastZ; z++) {
                for (int y = 0; y <= lastY; y++) {
                    for (int x = 0; x <= lastX; x++) {
                        long place = shape << (x + 4 * y + 16 * z);
                        if ((place & ~within) == 0L) {
                            ofOneShape[count] = place;
                            count++;
                        }
                    }
                }
            }
            return count;
        }

        /** Fills from the back, so that both rows can be merged in the one that is there. */
        private void mergeIn(int count) {
            if (placeCount + count > MOST_PLACES) {
                return;
            }
            int old = placeCount - 1;
            int add = count - 1;
            placeCount += count;
            for (int to = placeCount - 1; to >= 0 && add >= 0; to--) {
                if (old >= 0 && Box.isBelow(ofOneShape[add], placeSets[old])) {
                    placeSets[to] = placeSets[old];
                    old--;
                } else {
                    placeSets[to] = ofOneShape[add];
                    add--;
                }
            }
        }

        private void indexPlaces() {
            Arrays.fill(having, 0L);
            for (int k = 0; k < placeCount; k++) {
                int word = k / 64;
                long bit = 1L << (k % 64);
                having[ANY_CELL * WORDS + word] |= bit;
                for (long rest = placeSets[k]; rest != 0L; rest &= rest - 1L) {
                    having[Box.lowest(rest) * WORDS + word] |= bit;
                }
            }
        }
    }

    /** The search for packings. */
    private static final class Search {
        static final int NO_PACKING = -1;

        private final Piece[] kit;
        private final long[] chosen;
        private long sure;
        private int budget;
        private int wanted;
        private int tried;
        private int found;
        private boolean ended;
        private boolean enough;

        Search(Piece[] pieces) {
            kit = pieces;
            chosen = new long[PIECES];
        }

        int countTried() {
            return tried;
        }

        int countFound() {
            return found;
        }

        boolean wasEnough() {
            return enough;
        }

        boolean hasWanted() {
            return wanted != NO_PACKING && found > wanted;
        }

        long chosenFor(int piece) {
            return chosen[piece];
        }

        /** Ends at the packing that is wanted; with none wanted it looks for all. */
        void run(long sureCells, long optionalCells, int tries, int want) {
            sure = sureCells;
            budget = tries;
            wanted = want;
            tried = 0;
            found = 0;
            ended = false;
            enough = true;
            int left = 0;
            for (int p = 0; p < PIECES; p++) {
                chosen[p] = 0L;
                if (kit[p].countShapes() > 0) {
                    kit[p].learnPlaces(sureCells | optionalCells);
                    left |= 1 << p;
                }
            }
            goOn(0, 0L, left);
        }

        private void goOn(int depth, long taken, int left) {
            long open = sure & ~taken;
            if (left == 0 || depth >= PIECES) {
                if (left == 0 && open == 0L) {
                    countPacking();
                }
            } else if (open == 0L) {
                tryPiece(lowestPiece(left), Piece.ANY_CELL, depth, taken, left);
            } else {
                int cell = Box.lowest(open);
                for (int rest = left; rest != 0 && !ended; rest &= rest - 1) {
                    tryPiece(lowestPiece(rest), cell, depth, taken, left);
                }
            }
        }

        private void countPacking() {
            if (found == wanted) {
                ended = true;
            }
            found++;
        }

        private void tryPiece(int p, int row, int depth, long taken, int left) {
            Piece piece = kit[p];
            int words = piece.countWords();
            for (int word = 0; word < words; word++) {
                for (long bits = piece.wordOf(row, word); bits != 0L && !ended; bits &= bits - 1L) {
                    if (tried >= budget) {
                        ended = true;
                        enough = false;
                        return;
                    }
                    tried++;
                    long place = piece.placeAt(word * 64 + Box.lowest(bits));
                    if ((place & taken) == 0L) {
                        chosen[p] = place;
                        goOn(depth + 1, taken | place, left & ~(1 << p));
                    }
                }
            }
        }
    }

    /** The least box around some cubes. */
    private static final class Span {
        private final int[] low;
        private final int[] high;
        private boolean empty;

        Span() {
            low = new int[AXES];
            high = new int[AXES];
            empty = true;
        }

        void clear() {
            empty = true;
        }

        void cover(Span box, int[] at, int from) {
            for (int axis = 0; axis < AXES; axis++) {
                int boxLow = box.low[axis] + at[from + axis];
                int boxHigh = box.high[axis] + at[from + axis];
                low[axis] = empty ? boxLow : Math.min(low[axis], boxLow);
                high[axis] = empty ? boxHigh : Math.max(high[axis], boxHigh);
            }
            empty = false;
        }

        void fit(long set) {
            for (int axis = 0; axis < AXES; axis++) {
                low[axis] = Box.least(set, axis);
                high[axis] = Box.greatest(set, axis);
            }
            empty = false;
        }

        /** Whether no cell is in common when this box has gone so far along an axis. */
        boolean isApart(Span other, int axis, int by) {
            for (int a = 0; a < AXES; a++) {
                int gone = a == axis ? by : 0;
                if (low[a] + gone > other.high[a] || high[a] + gone < other.low[a]) {
                    return true;
                }
            }
            return false;
        }
    }

    /** The states that a look for a plan keeps, in the order in which they were found. */
    private static final class StateBook {
        private static final int WIDTH = PIECES * AXES;
        private static final int CHAINS = 512;
        private static final int NONE = -1;

        /** By state, piece and axis, how far the piece has gone; the row after the last is a draft. */
        private final int[] at;
        private final int[] parents;
        private final int[] moves;
        private final int[] levels;
        /** The states of one hash hang in a chain. */
        private final int[] heads;
        private final int[] nexts;
        private int count;

        StateBook() {
            at = new int[(MOST_STATES + 1) * WIDTH];
            parents = new int[MOST_STATES];
            moves = new int[MOST_STATES];
            levels = new int[MOST_STATES];
            heads = new int[CHAINS];
            nexts = new int[MOST_STATES];
        }

        int size() {
            return count;
        }

        int[] offsets() {
            return at;
        }

        int rowOf(int state, int piece) {
            return state * WIDTH + piece * AXES;
        }

        int levelOf(int state) {
            return levels[state];
        }

        int parentOf(int state) {
            return parents[state];
        }

        int moveTo(int state) {
            return moves[state];
        }

        void start() {
            Arrays.fill(heads, NONE);
            count = 0;
            for (int i = 0; i < WIDTH; i++) {
                at[i] = 0;
            }
            add(NONE, 0);
        }

        void draft(int from, int group, int axis, int by) {
            System.arraycopy(at, from * WIDTH, at, count * WIDTH, WIDTH);
            for (int p = 0; p < PIECES; p++) {
                if ((group >> p & 1) != 0) {
                    at[rowOf(count, p) + axis] += by;
                }
            }
        }

        boolean knowsDraft() {
            int state = heads[hashOfDraft()];
            for (int seen = 0; seen < MOST_STATES && state != NONE; seen++) {
                if (isDraft(state)) {
                    return true;
                }
                state = nexts[state];
            }
            return false;
        }

        /** The draft becomes a state. */
        void add(int parent, int byMove) {
            if (count >= MOST_STATES) {
                return;
            }
            int hash = hashOfDraft();
            parents[count] = parent;
            moves[count] = byMove;
            levels[count] = parent == NONE ? 0 : levels[parent] + 1;
            nexts[count] = heads[hash];
            heads[hash] = count;
            count++;
        }

        private int hashOfDraft() {
            int hash = 0;
            for (int i = 0; i < WIDTH; i++) {
                hash = hash * 31 + at[count * WIDTH + i];
            }
            return (hash ^ hash >>> 9) & CHAINS - 1;
        }

        private boolean isDraft(int state) {
            for (int i = 0; i < WIDTH; i++) {
                if (at[state * WIDTH + i] != at[count * WIDTH + i]) {
                    return false;
                }
            }
            return true;
        }
    }

    /** The look for a plan. */
    private static final class Unlocker {
        private static final int STUCK = -1;
        private static final int GIVEN_UP = -2;
        private static final int GOING_ON = 0;
        /** Far above any run: in what is kept and not yet apart, all is within some 40 cells. */
        private static final int MOST_RUN = 500;

        private final StateBook book;
        private final long[] sets;
        private final Span[] boxes;
        private final Span groupBox;
        private final Span restBox;
        /** By direction, piece and other piece, how many steps it can go before they meet. */
        private final int[] room;
        private final int[] found;
        private int foundCount;
        private int part;
        private int limit;

        Unlocker() {
            book = new StateBook();
            sets = new long[PIECES];
            boxes = new Span[PIECES];
            for (int p = 0; p < PIECES; p++) {
                boxes[p] = new Span();
            }
            groupBox = new Span();
            restBox = new Span();
            room = new int[DIRECTIONS * PIECES * PIECES];
            found = new int[MOST_STATES];
        }

        int countKept() {
            return book.size();
        }

        int countMoves() {
            return foundCount;
        }

        int moveAt(int k) {
            return found[k];
        }

        int look(long[] assembly, int ofPart, int mostStates) {
            part = ofPart;
            limit = mostStates;
            foundCount = 0;
            for (int p = 0; p < PIECES; p++) {
                sets[p] = assembly[p];
                boxes[p].fit(assembly[p]);
            }
            book.start();
            for (int state = 0; state < MOST_STATES && state < book.size(); state++) {
                int answer = expand(state);
                if (answer != GOING_ON) {
                    return answer;
                }
            }
            return STUCK;
        }

        /**
         * The groups with the highest piece are left out: such a group going one way is the same
         * as the others going the other way, whose mask is lower, so all that it reaches has been
         * found before. So the highest piece stays where it is, and equal states have equal rows.
         */
        private int expand(int state) {
            measureRoom(state);
            for (int group = 1; group < part; group++) {
                if ((group & ~part) == 0 && group < (part & ~group)) {
                    measureBoxes(state, group);
                    for (int direction = 0; direction < DIRECTIONS; direction++) {
                        int answer = tryRuns(state, group, direction);
                        if (answer != GOING_ON) {
                            return answer;
                        }
                    }
                }
            }
            return GOING_ON;
        }

        private int tryRuns(int state, int group, int direction) {
            int most = roomOfGroup(group, direction);
            int axis = direction / 2;
            for (int run = 1; run <= most; run++) {
                int by = direction % 2 == 0 ? run : -run;
                int code = 1000 * group + 100 * direction + run;
                if (groupBox.isApart(restBox, axis, by)) {
                    return writePlan(state, code);
                }
                book.draft(state, group, axis, by);
                if (!book.knowsDraft()) {
                    if (book.size() >= limit) {
                        return GIVEN_UP;
                    }
                    book.add(state, code);
                }
            }
            return GOING_ON;
        }

        private int writePlan(int last, int code) {
            int length = book.levelOf(last) + 1;
            if (length > MOST_STATES) {
                return GIVEN_UP;
            }
            found[length - 1] = code;
            int state = last;
            for (int k = length - 2; k >= 0; k--) {
                found[k] = book.moveTo(state);
                state = book.parentOf(state);
            }
            foundCount = length;
            return length;
        }

        private void measureBoxes(int state, int group) {
            groupBox.clear();
            restBox.clear();
            for (int p = 0; p < PIECES; p++) {
                if ((part >> p & 1) != 0) {
                    Span around = (group >> p & 1) != 0 ? groupBox : restBox;
                    around.cover(boxes[p], book.offsets(), book.rowOf(state, p));
                }
            }
        }

        private void measureRoom(int state) {
            for (int p = 0; p < PIECES; p++) {
                for (int q = p + 1; q < PIECES; q++) {
                    if ((part >> p & part >> q & 1) != 0) {
                        for (int direction = 0; direction < DIRECTIONS; direction++) {
                            int steps = roomOfPair(state, p, q, direction);
                            room[roomIndex(direction, p, q)] = steps;
                            room[roomIndex(direction ^ 1, q, p)] = steps;
                        }
                    }
                }
            }
        }

        private static int roomIndex(int direction, int p, int q) {
            return (direction * PIECES + p) * PIECES + q;
        }

        private int roomOfPair(int state, int p, int q, int direction) {
            int axis = direction / 2;
            int sign = direction % 2 == 0 ? 1 : -1;
            long set = sets[p];
            for (int a = 0; a < AXES; a++) {
                if (a != axis) {
                    set = Box.shifted(set, a, gap(state, p, q, a));
                }
            }
            int ahead = sign * gap(state, p, q, axis);
            for (int steps = Math.max(1, 1 - SIDE - ahead); steps < SIDE - ahead; steps++) {
                if ((Box.shifted(set, axis, sign * (ahead + steps)) & sets[q]) != 0L) {
                    return steps - 1;
                }
            }
            return MOST_RUN;
        }

        /** How much further p has gone than q. */
        private int gap(int state, int p, int q, int axis) {
            int[] at = book.offsets();
            return at[book.rowOf(state, p) + axis] - at[book.rowOf(state, q) + axis];
        }

        private int roomOfGroup(int group, int direction) {
            int rest = part & ~group;
            int least = MOST_RUN;
            for (int g = group; g != 0; g &= g - 1) {
                int from = roomIndex(direction, lowestPiece(g), 0);
                for (int r = rest; r != 0; r &= r - 1) {
                    least = Math.min(least, room[from + lowestPiece(r)]);
                }
                if (least == 0) {
                    return 0;
                }
            }
            return least;
        }
    }
}
