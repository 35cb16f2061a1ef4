/**
 * Divides sums of products, as if their letters were numbers without any rules but the order of
 * factors and summands not mattering.
 *
 * <p>A cube is a number 0 .. 127, bit l for letter l. An expression is a slot: its cubes stand in
 * rising order, without gaps, at the start of the slot's cells.
 */
public final class KernelDesk {
    public static final int BAD = -1;
    public static final int FULL = -2;

    private static final int LETTERS = 7;
    private static final int CUBES = 128;
    private static final int EXPRESSIONS = 4;
    private static final int ROOM = 8;

    // Two slots behind the expressions, so that a result is whole before it overwrites what it
    // was made from.
    private static final int WORK = 4;
    private static final int SECOND_WORK = 5;
    private static final int SLOTS = 6;
    private static final int CELLS = 48;

    private final int[] cells = new int[CELLS];
    private final int[] sizes = new int[SLOTS];

    public KernelDesk() {
        // Java fills the sizes with 0: every expression is empty.
    }

    public boolean put(int e, int cube) {
        if (!isExpression(e) || !isCube(cube)) {
            return false;
        }
        if (contains(e, cube)) {
            return true;
        }
        if (sizes[e] >= ROOM) {
            return false;
        }
        insert(e, cube);
        return true;
    }

    public boolean take(int e, int cube) {
        if (!isExpression(e) || !contains(e, cube)) {
            return false;
        }
        remove(e, cube);
        return true;
    }

    public boolean clear(int e) {
        if (!isExpression(e)) {
            return false;
        }
        sizes[e] = 0;
        return true;
    }

    public int size(int e) {
        if (!isExpression(e)) {
            return BAD;
        }
        return sizes[e];
    }

    public int cube(int e, int i) {
        if (!isExpression(e) || i < 0 || i >= sizes[e]) {
            return BAD;
        }
        return cells[e * ROOM + i];
    }

    public int divideBy(int e, int f, int cube) {
        if (!isExpression(e) || !isExpression(f) || !isCube(cube)) {
            return BAD;
        }
        makeQuotientByCube(WORK, f, cube);
        copy(e, WORK);
        return sizes[e];
    }

    public int divide(int e, int f, int g) {
        if (!isExpression(e) || !canDivide(f, g)) {
            return BAD;
        }
        makeQuotient(WORK, f, g);
        copy(e, WORK);
        return sizes[e];
    }

    public int rest(int e, int f, int g) {
        if (!isExpression(e) || !canDivide(f, g)) {
            return BAD;
        }
        makeQuotient(WORK, f, g);
        makeRest(SECOND_WORK, f, WORK, g);
        copy(e, SECOND_WORK);
        return sizes[e];
    }

    public int common(int e) {
        if (!isExpression(e) || sizes[e] == 0) {
            return BAD;
        }
        return lettersInAll(e);
    }

    public boolean free(int e) {
        return isExpression(e) && isFree(e);
    }

    public int kernels(int e) {
        if (!isExpression(e)) {
            return BAD;
        }
        int count = 0;
        for (int c = 0; c < CUBES; c++) {
            if (isCokernel(e, c) && isFirstWithItsQuotient(e, c)) {
                count++;
            }
        }
        return count;
    }

    public int cokernels(int e) {
        if (!isExpression(e)) {
            return BAD;
        }
        int count = 0;
        for (int c = 0; c < CUBES; c++) {
            if (isCokernel(e, c)) {
                count++;
            }
        }
        return count;
    }

    public int nextCokernel(int e, int from) {
        if (!isExpression(e)) {
            return BAD;
        }
        int start = from < 0 ? 0 : from;
        for (int c = start; c < CUBES; c++) {
            if (isCokernel(e, c)) {
                return c;
            }
        }
        return BAD;
    }

    public int holding(int e, int cube) {
        if (!isExpression(e) || !isCube(cube)) {
            return BAD;
        }
        int size = sizes[e];
        int places = 0;
        for (int i = 0; i < size; i++) {
            if (holds(cells[e * ROOM + i], cube)) {
                places |= 1 << i;
            }
        }
        return places;
    }

    public int saving(int e, int g) {
        if (!canDivide(e, g)) {
            return BAD;
        }
        makeQuotient(WORK, e, g);
        makeRest(SECOND_WORK, e, WORK, g);
        return countLetters(e) - countLetters(WORK) - countLetters(SECOND_WORK) - countLetters(g);
    }

    private static boolean isExpression(int e) {
        return e >= 0 && e < EXPRESSIONS;
    }

    private static boolean isCube(int cube) {
        return cube >= 0 && cube < CUBES;
    }

    private static boolean holds(int outer, int inner) {
        return (outer & inner) == inner;
    }

    private boolean canDivide(int f, int g) {
        return isExpression(f) && isExpression(g) && sizes[g] > 0;
    }

    private boolean contains(int slot, int cube) {
        int size = sizes[slot];
        for (int i = 0; i < size; i++) {
            if (cells[slot * ROOM + i] == cube) {
                return true;
            }
        }
        return false;
    }

    private int countBelow(int slot, int cube) {
        int size = sizes[slot];
        int below = 0;
        for (int i = 0; i < size; i++) {
            if (cells[slot * ROOM + i] < cube) {
                below++;
            }
        }
        return below;
    }

    /** The caller has seen that the slot has room and not this cube. */
    private void insert(int slot, int cube) {
        int first = slot * ROOM;
        int place = countBelow(slot, cube);
        for (int i = sizes[slot]; i > place; i--) {
            cells[first + i] = cells[first + i - 1];
        }
        cells[first + place] = cube;
        sizes[slot]++;
    }

    /** The caller has seen that the slot has this cube. */
    private void remove(int slot, int cube) {
        int first = slot * ROOM;
        int last = sizes[slot] - 1;
        int place = countBelow(slot, cube);
        for (int i = place; i < last; i++) {
            cells[first + i] = cells[first + i + 1];
        }
        sizes[slot] = last;
    }

    /**
     * Only for a work slot that is filled from one expression, at most one cube for each of its
     * cubes and in their order: then there is room and the order stands.
     */
    private void append(int slot, int cube) {
        cells[slot * ROOM + sizes[slot]] = cube;
        sizes[slot]++;
    }

    private void copy(int to, int from) {
        int size = sizes[from];
        for (int i = 0; i < size; i++) {
            cells[to * ROOM + i] = cells[from * ROOM + i];
        }
        sizes[to] = size;
    }

    /**
     * Taking the same letters out of cubes that all have them lessens each by the same number, so
     * the cubes stay different and in order.
     */
    private void makeQuotientByCube(int to, int f, int cube) {
        int size = sizes[f];
        sizes[to] = 0;
        for (int i = 0; i < size; i++) {
            int whole = cells[f * ROOM + i];
            if (holds(whole, cube)) {
                append(to, whole & ~cube);
            }
        }
    }

    /** What is in the quotients by all cubes of g is in that by the first: no others are tried. */
    private void makeQuotient(int to, int f, int g) {
        int size = sizes[f];
        int divisor = cells[g * ROOM];
        sizes[to] = 0;
        for (int i = 0; i < size; i++) {
            int whole = cells[f * ROOM + i];
            int part = whole & ~divisor;
            if (holds(whole, divisor) && isInAllQuotients(part, f, g)) {
                append(to, part);
            }
        }
    }

    /** This also keeps out a part that has a letter of g: no quotient has letters of its divisor. */
    private boolean isInAllQuotients(int part, int f, int g) {
        int size = sizes[g];
        for (int i = 0; i < size; i++) {
            int divisor = cells[g * ROOM + i];
            if ((part & divisor) != 0 || !contains(f, part | divisor)) {
                return false;
            }
        }
        return true;
    }

    private void makeRest(int to, int f, int quotient, int g) {
        int size = sizes[f];
        sizes[to] = 0;
        for (int i = 0; i < size; i++) {
            int whole = cells[f * ROOM + i];
            if (!isJoin(whole, quotient, g)) {
                append(to, whole);
            }
        }
    }

    private boolean isJoin(int whole, int quotient, int g) {
        int parts = sizes[quotient];
        int divisors = sizes[g];
        for (int i = 0; i < parts; i++) {
            int part = cells[quotient * ROOM + i];
            for (int j = 0; j < divisors; j++) {
                if ((part | cells[g * ROOM + j]) == whole) {
                    return true;
                }
            }
        }
        return false;
    }

    private int lettersInAll(int slot) {
        int size = sizes[slot];
        int letters = CUBES - 1;
        for (int i = 0; i < size; i++) {
            letters &= cells[slot * ROOM + i];
        }
        return letters;
    }

    private boolean isFree(int slot) {
        return sizes[slot] >= 2 && lettersInAll(slot) == 0;
    }

    /** Leaves the quotient by the cube in WORK. */
    private boolean isCokernel(int e, int cube) {
        makeQuotientByCube(WORK, e, cube);
        return isFree(WORK);
    }

    /** Counting a kernel at its least cube alone counts it once. Needs the quotient in WORK. */
    private boolean isFirstWithItsQuotient(int e, int cube) {
        for (int c = 0; c < cube; c++) {
            makeQuotientByCube(SECOND_WORK, e, c);
            if (isSame(WORK, SECOND_WORK)) {
                return false;
            }
        }
        return true;
    }

    private boolean isSame(int slot, int other) {
        int size = sizes[slot];
        if (sizes[other] != size) {
            return false;
        }
        for (int i = 0; i < size; i++) {
            if (cells[slot * ROOM + i] != cells[other * ROOM + i]) {
                return false;
            }
        }
        return true;
    }

    private int countLetters(int slot) {
        int size = sizes[slot];
        int count = 0;
        for (int i = 0; i < size; i++) {
            int cube = cells[slot * ROOM + i];
            for (int l = 0; l < LETTERS; l++) {
                count += (cube >> l) & 1;
            }
        }
        return count;
    }
}
