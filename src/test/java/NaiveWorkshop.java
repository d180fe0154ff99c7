import java.util.ArrayList;
import java.util.Arrays;
import java.util.Collections;
import java.util.HashSet;
import java.util.List;
import java.util.Set;
import java.util.TreeSet;

/**
 * The document written down as plainly as can be, with points in place of bits and with no regard
 * to speed or room: what the program is compared with.
 */
final class NaiveWorkshop {
    private static final int[][] WAYS = {{1, 0, 0}, {-1, 0, 0}, {0, 1, 0}, {0, -1, 0}, {0, 0, 1}, {0, 0, -1}};

    private static final List<int[][]> TURNS = matrices(false);
    private static final List<int[][]> TURNS_AND_MIRRORS = matrices(true);

    private final List<Set<Integer>> cubes = new ArrayList<>();
    private final boolean[] mirror = new boolean[6];
    private final int[] target = new int[64];
    private final long[] assembly = new long[6];
    private int tries = 0;
    private int states = 0;
    private List<Integer> moves = new ArrayList<>();

    NaiveWorkshop() {
        for (int p = 0; p < 6; p++) {
            cubes.add(new TreeSet<>());
        }
    }

    int cube(int piece, int cell, boolean on) {
        need(isPiece(piece) && cell >= 0 && cell < 64);
        Set<Integer> set = cubes.get(piece);
        if (set.contains(cell) == on || on && set.size() == 10) {
            throw new IllegalStateException();
        }
        if (on) {
            set.add(cell);
        } else {
            set.remove(cell);
        }
        assembly[piece] = 0;
        return set.size();
    }

    void mirror(int piece, boolean may) {
        need(isPiece(piece));
        mirror[piece] = may;
    }

    int shapes(int piece) {
        need(isPiece(piece));
        return shapesOf(piece).size();
    }

    long shape(int piece, int k) {
        need(isPiece(piece));
        List<Long> all = shapesOf(piece);
        if (k < 0 || k >= all.size()) {
            throw new IndexOutOfBoundsException();
        }
        return all.get(k);
    }

    void target(int cell, int kind) {
        need(cell >= 0 && cell < 64 && kind >= 0 && kind <= 2);
        target[cell] = kind;
    }

    int places(int piece) {
        need(isPiece(piece));
        return placesOf(piece).size();
    }

    int pack(int budget) {
        need(isBudget(budget));
        Hunt hunt = new Hunt(budget, -1);
        tries = hunt.tried;
        return hunt.starved ? -1 - hunt.found : hunt.found;
    }

    int tries() {
        return tries;
    }

    boolean assemble(int k, int budget) {
        need(k >= 0 && isBudget(budget));
        Hunt hunt = new Hunt(budget, k);
        tries = hunt.tried;
        if (hunt.result == null) {
            return false;
        }
        System.arraycopy(hunt.result, 0, assembly, 0, 6);
        return true;
    }

    void put(int piece, long set) {
        need(isPiece(piece));
        need(movedShapes(piece).contains(set));
        for (int p = 0; p < 6; p++) {
            if (p != piece && (assembly[p] & set) != 0) {
                throw new IllegalStateException();
            }
        }
        assembly[piece] = set;
    }

    void take(int piece) {
        need(isPiece(piece));
        if (assembly[piece] == 0) {
            throw new IllegalStateException();
        }
        assembly[piece] = 0;
    }

    long cells(int piece) {
        need(isPiece(piece));
        return assembly[piece];
    }

    int plan(int part, int limit) {
        need(part > 0 && part < 64 && Integer.bitCount(part) >= 2 && limit >= 1 && limit <= 300);
        for (int p = 0; p < 6; p++) {
            need((part >> p & 1) == 0 || assembly[p] != 0);
        }
        return look(part, limit);
    }

    int states() {
        return states;
    }

    int move(int k) {
        if (k < 0 || k >= moves.size()) {
            throw new IndexOutOfBoundsException();
        }
        return moves.get(k);
    }

    private static void need(boolean so) {
        if (!so) {
            throw new IllegalArgumentException();
        }
    }

    private static boolean isPiece(int piece) {
        return piece >= 0 && piece <= 5;
    }

    private static boolean isBudget(int budget) {
        return budget >= 1 && budget <= 200000;
    }

    private static List<int[]> points(long set) {
        List<int[]> all = new ArrayList<>();
        for (int z = 0; z < 4; z++) {
            for (int y = 0; y < 4; y++) {
                for (int x = 0; x < 4; x++) {
                    if ((set >>> (x + 4 * y + 16 * z)) % 2 != 0) {
                        all.add(new int[] {x, y, z});
                    }
                }
            }
        }
        return all;
    }

    /** The set moved by (x, y, z), or null when it is not in the box. */
    private static Long setOf(List<int[]> points, int x, int y, int z) {
        long set = 0;
        for (int[] a : points) {
            int[] b = {a[0] + x, a[1] + y, a[2] + z};
            for (int c : b) {
                if (c < 0 || c > 3) {
                    return null;
                }
            }
            set |= 1L << (b[0] + 4 * b[1] + 16 * b[2]);
        }
        return set;
    }

    private boolean isMade(int piece) {
        Set<Integer> left = new HashSet<>(cubes.get(piece));
        if (left.isEmpty()) {
            return false;
        }
        List<Integer> open = new ArrayList<>();
        open.add(left.iterator().next());
        left.remove(open.get(0));
        while (!open.isEmpty()) {
            int a = open.remove(0);
            for (Integer b : new ArrayList<>(left)) {
                int away = Math.abs(a % 4 - b % 4) + Math.abs(a / 4 % 4 - b / 4 % 4) + Math.abs(a / 16 - b / 16);
                if (away == 1) {
                    left.remove(b);
                    open.add(b);
                }
            }
        }
        return left.isEmpty();
    }

    private static List<Long> sorted(Set<Long> sets) {
        List<Long> all = new ArrayList<>(sets);
        Collections.sort(all, Long::compareUnsigned);
        return all;
    }

    private List<Long> shapesOf(int piece) {
        Set<Long> found = new HashSet<>();
        if (isMade(piece)) {
            for (int[][] m : mirror[piece] ? TURNS_AND_MIRRORS : TURNS) {
                List<int[]> turned = new ArrayList<>();
                int[] least = {99, 99, 99};
                for (int cell : cubes.get(piece)) {
                    int[] a = {cell % 4, cell / 4 % 4, cell / 16};
                    int[] b = new int[3];
                    for (int i = 0; i < 3; i++) {
                        b[i] = m[i][0] * a[0] + m[i][1] * a[1] + m[i][2] * a[2];
                        least[i] = Math.min(least[i], b[i]);
                    }
                    turned.add(b);
                }
                found.add(setOf(turned, -least[0], -least[1], -least[2]));
            }
        }
        return sorted(found);
    }

    /** All matrices of one sign a row and column; without the mirrors those of determinant 1. */
    private static List<int[][]> matrices(boolean mirrors) {
        List<int[][]> all = new ArrayList<>();
        for (int code = 0; code < 19683; code++) {
            int[][] m = new int[3][3];
            int rest = code;
            for (int i = 0; i < 9; i++) {
                m[i / 3][i % 3] = rest % 3 - 1;
                rest /= 3;
            }
            boolean one = true;
            for (int i = 0; i < 3; i++) {
                int row = 0;
                int column = 0;
                for (int j = 0; j < 3; j++) {
                    row += Math.abs(m[i][j]);
                    column += Math.abs(m[j][i]);
                }
                one &= row == 1 && column == 1;
            }
            int det = m[0][0] * (m[1][1] * m[2][2] - m[1][2] * m[2][1])
                    - m[0][1] * (m[1][0] * m[2][2] - m[1][2] * m[2][0])
                    + m[0][2] * (m[1][0] * m[2][1] - m[1][1] * m[2][0]);
            if (one && (mirrors || det == 1)) {
                all.add(m);
            }
        }
        return all;
    }

    private Set<Long> movedShapes(int piece) {
        Set<Long> all = new HashSet<>();
        for (long shape : shapesOf(piece)) {
            for (int by = 0; by < 64; by++) {
                Long set = setOf(points(shape), by % 4, by / 4 % 4, by / 16);
                if (set != null) {
                    all.add(set);
                }
            }
        }
        return all;
    }

    private List<Long> placesOf(int piece) {
        Set<Long> all = new HashSet<>();
        for (long set : movedShapes(piece)) {
            boolean within = true;
            for (int cell = 0; cell < 64; cell++) {
                within &= (set >>> cell & 1) == 0 || target[cell] != 0;
            }
            if (within) {
                all.add(set);
            }
        }
        return sorted(all);
    }

    /** A search. */
    private final class Hunt {
        private final List<List<Long>> places = new ArrayList<>();
        private final int budget;
        private final int wanted;
        private final long[] now = new long[6];
        private long[] result = null;
        private int tried = 0;
        private int found = 0;
        private boolean starved = false;

        Hunt(int budget, int wanted) {
            this.budget = budget;
            this.wanted = wanted;
            List<Integer> made = new ArrayList<>();
            for (int p = 0; p < 6; p++) {
                places.add(placesOf(p));
                if (isMade(p)) {
                    made.add(p);
                }
            }
            step(0L, made);
        }

        private boolean over() {
            return starved || result != null;
        }

        private void step(long taken, List<Integer> left) {
            int next = -1;
            for (int cell = 63; cell >= 0; cell--) {
                if (target[cell] == 1 && (taken >>> cell & 1) == 0) {
                    next = cell;
                }
            }
            if (left.isEmpty()) {
                if (next < 0) {
                    if (found == wanted) {
                        result = now.clone();
                    }
                    found++;
                }
                return;
            }
            for (int p : next < 0 ? left.subList(0, 1) : left) {
                for (long place : places.get(p)) {
                    if (next < 0 || (place >>> next & 1) != 0) {
                        attempt(p, place, taken, left);
                        if (over()) {
                            return;
                        }
                    }
                }
            }
        }

        private void attempt(int p, long place, long taken, List<Integer> left) {
            if (tried == budget) {
                starved = true;
                return;
            }
            tried++;
            if ((place & taken) == 0) {
                List<Integer> others = new ArrayList<>(left);
                others.remove(Integer.valueOf(p));
                now[p] = place;
                step(taken | place, others);
                now[p] = 0;
            }
        }
    }

    /** A state of a part: the cubes of each of its pieces, and how it was come by. */
    private static final class Node {
        private final List<List<int[]>> cubes = new ArrayList<>();
        private Node from = null;
        private int by = 0;

        Node moved(int group, int direction, int run) {
            Node to = new Node();
            for (int p = 0; p < 6; p++) {
                int far = (group >> p & 1) * run;
                List<int[]> shifted = new ArrayList<>();
                for (int[] a : cubes.get(p)) {
                    int[] way = WAYS[direction];
                    shifted.add(new int[] {a[0] + far * way[0], a[1] + far * way[1], a[2] + far * way[2]});
                }
                to.cubes.add(shifted);
            }
            to.from = this;
            to.by = 1000 * group + 100 * direction + run;
            return to;
        }

        /** All cubes as seen from the least corner of all of them. */
        String key() {
            int[][] box = box(63);
            StringBuilder text = new StringBuilder();
            for (List<int[]> piece : cubes) {
                for (int[] a : piece) {
                    text.append(a[0] - box[0][0]).append(',').append(a[1] - box[0][1]).append(',');
                    text.append(a[2] - box[0][2]).append(' ');
                }
                text.append('/');
            }
            return text.toString();
        }

        int[][] box(int mask) {
            int[][] box = {{9999, 9999, 9999}, {-9999, -9999, -9999}};
            for (int p = 0; p < 6; p++) {
                if ((mask >> p & 1) != 0) {
                    for (int[] a : cubes.get(p)) {
                        for (int i = 0; i < 3; i++) {
                            box[0][i] = Math.min(box[0][i], a[i]);
                            box[1][i] = Math.max(box[1][i], a[i]);
                        }
                    }
                }
            }
            return box;
        }

        boolean clashes(int group) {
            Set<List<Integer>> mine = new HashSet<>();
            for (int turn = 0; turn < 2; turn++) {
                for (int p = 0; p < 6; p++) {
                    for (int[] a : cubes.get(p)) {
                        List<Integer> point = Arrays.asList(a[0], a[1], a[2]);
                        boolean inGroup = (group >> p & 1) != 0;
                        if (turn == 0 && inGroup) {
                            mine.add(point);
                        } else if (turn == 1 && !inGroup && mine.contains(point)) {
                            return true;
                        }
                    }
                }
            }
            return false;
        }

        boolean isFree(int group, int part) {
            int[][] a = box(group);
            int[][] b = box(part & ~group);
            boolean common = true;
            for (int i = 0; i < 3; i++) {
                common &= Math.max(a[0][i], b[0][i]) <= Math.min(a[1][i], b[1][i]);
            }
            return !common;
        }
    }

    private int look(int part, int limit) {
        Node first = new Node();
        for (int p = 0; p < 6; p++) {
            first.cubes.add((part >> p & 1) != 0 ? points(assembly[p]) : new ArrayList<>());
        }
        List<Node> kept = new ArrayList<>();
        Set<String> keys = new HashSet<>();
        kept.add(first);
        keys.add(first.key());
        moves = new ArrayList<>();
        int answer = lookFrom(kept, keys, part, limit);
        states = kept.size();
        return answer;
    }

    private int lookFrom(List<Node> kept, Set<String> keys, int part, int limit) {
        for (int i = 0; i < kept.size(); i++) {
            for (int group = 1; group < part; group++) {
                for (int direction = 0; direction < 6 && (group & ~part) == 0; direction++) {
                    for (int run = 1; ; run++) {
                        Node to = kept.get(i).moved(group, direction, run);
                        if (to.clashes(group)) {
                            break;
                        }
                        if (to.isFree(group, part)) {
                            for (Node n = to; n.from != null; n = n.from) {
                                moves.add(0, n.by);
                            }
                            return moves.size();
                        }
                        if (keys.contains(to.key())) {
                            continue;
                        }
                        if (kept.size() == limit) {
                            return -2;
                        }
                        keys.add(to.key());
                        kept.add(to);
                    }
                }
            }
        }
        return -1;
    }
}
