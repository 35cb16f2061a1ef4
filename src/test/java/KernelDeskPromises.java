/** One method for each promise of the document; the answers due were worked out by hand. */
public final class KernelDeskPromises {
    private static final int BAD = -1;
    private static final int[] NO_EXPRESSIONS = {-1, 4, 5, 8, Integer.MIN_VALUE, Integer.MAX_VALUE};
    private static final int[] NO_CUBES = {-1, 128, 129, 255, Integer.MIN_VALUE, Integer.MAX_VALUE};

    // Letters, so that the cubes below read as products.
    private static final int A = 1;
    private static final int B = 2;
    private static final int C = 4;
    private static final int D = 8;
    private static final int E = 16;
    private static final int F = 32;
    private static final int G = 64;

    private static int wrong = 0;

    public static void main(String[] args) {
        aNewObject();
        put();
        take();
        clear();
        size();
        cube();
        divideBy();
        divide();
        rest();
        common();
        free();
        kernels();
        cokernels();
        nextCokernel();
        holding();
        saving();
        System.out.println(wrong == 0 ? "all answers are as due" : wrong + " answers are not as due");
        if (wrong != 0) {
            System.exit(1);
        }
    }

    private static void due(String what, int got, int want) {
        if (got != want) {
            wrong++;
            System.out.println(what + " answered " + got + ", due is " + want);
        }
    }

    private static void due(String what, boolean got, boolean want) {
        if (got != want) {
            wrong++;
            System.out.println(what + " answered " + got + ", due is " + want);
        }
    }

    private static void fill(KernelDesk x, int e, int... cubes) {
        due("clear(" + e + ")", x.clear(e), true);
        for (int cube : cubes) {
            due("put(" + e + ", " + cube + ")", x.put(e, cube), true);
        }
    }

    /** The cubes in rising order, and nothing behind them. */
    private static void dueCubes(String what, KernelDesk x, int e, int... cubes) {
        due(what + ": size(" + e + ")", x.size(e), cubes.length);
        for (int i = 0; i < cubes.length; i++) {
            due(what + ": cube(" + e + ", " + i + ")", x.cube(e, i), cubes[i]);
        }
        due(what + ": cube(" + e + ", " + cubes.length + ")", x.cube(e, cubes.length), BAD);
    }

    private static KernelDesk deskOf(int... cubes) {
        KernelDesk x = new KernelDesk();
        fill(x, 0, cubes);
        return x;
    }

    private static void aNewObject() {
        KernelDesk x = new KernelDesk();
        KernelDesk y = new KernelDesk();
        due("1: put", x.put(2, 5), true);
        for (int e = 0; e < 4; e++) {
            dueCubes("1: new", y, e);
        }
        dueCubes("1: the other one", x, 2, 5);
        due("1: BAD", KernelDesk.BAD, -1);
        due("1: FULL", KernelDesk.FULL, -2);
    }

    private static void put() {
        KernelDesk x = new KernelDesk();
        for (int e = 0; e < 4; e++) {
            fill(x, e, 127, 0, 64 + e);
        }
        for (int e = 0; e < 4; e++) {
            dueCubes("2: each its own", x, e, 0, 64 + e, 127);
        }
        due("2: put again", x.put(0, 64), true);
        dueCubes("2: put again", x, 0, 0, 64, 127);
        for (int bad : NO_EXPRESSIONS) {
            due("2: put(" + bad + ", 1)", x.put(bad, 1), false);
        }
        for (int bad : NO_CUBES) {
            due("2: put(1, " + bad + ")", x.put(1, bad), false);
        }
        for (int e = 0; e < 4; e++) {
            dueCubes("2: wrong inputs change nothing", x, e, 0, 64 + e, 127);
        }
        fill(x, 1, 80, 70, 60, 50, 40, 30, 20, 10);
        due("2: a ninth, least", x.put(1, 0), false);
        due("2: a ninth, between", x.put(1, 45), false);
        due("2: a ninth, greatest", x.put(1, 127), false);
        due("2: one of the eight", x.put(1, 80), true);
        due("2: one of the eight", x.put(1, 10), true);
        dueCubes("2: eight", x, 1, 10, 20, 30, 40, 50, 60, 70, 80);
        dueCubes("2: the one before", x, 0, 0, 64, 127);
        dueCubes("2: the one behind", x, 2, 0, 66, 127);
        due("2: room again", x.take(1, 30), true);
        due("2: room again", x.put(1, 45), true);
        dueCubes("2: room again", x, 1, 10, 20, 40, 45, 50, 60, 70, 80);
    }

    private static void take() {
        KernelDesk x = deskOf(3, 1, 127, 0, 64);
        fill(x, 1, 3);
        due("3: not in it", x.take(0, 2), false);
        due("3: not in this one", x.take(1, 64), false);
        due("3: of an empty one", x.take(2, 0), false);
        for (int bad : NO_EXPRESSIONS) {
            due("3: take(" + bad + ", 3)", x.take(bad, 3), false);
        }
        for (int bad : NO_CUBES) {
            due("3: take(0, " + bad + ")", x.take(0, bad), false);
        }
        dueCubes("3: nothing taken", x, 0, 0, 1, 3, 64, 127);
        due("3: between", x.take(0, 3), true);
        dueCubes("3: between", x, 0, 0, 1, 64, 127);
        due("3: least", x.take(0, 0), true);
        dueCubes("3: least", x, 0, 1, 64, 127);
        due("3: greatest", x.take(0, 127), true);
        dueCubes("3: greatest", x, 0, 1, 64);
        due("3: twice", x.take(0, 127), false);
        due("3: all", x.take(0, 1), true);
        due("3: all", x.take(0, 64), true);
        due("3: from the emptied one", x.take(0, 64), false);
        dueCubes("3: all", x, 0);
        dueCubes("3: the other one", x, 1, 3);
        fill(x, 3, 1, 2, 3, 4, 5, 6, 7, 8);
        due("3: last of eight", x.take(3, 8), true);
        due("3: first of eight", x.take(3, 1), true);
        dueCubes("3: of eight", x, 3, 2, 3, 4, 5, 6, 7);
    }

    private static void clear() {
        KernelDesk x = deskOf(1, 2, 3);
        fill(x, 1, 4);
        fill(x, 3, 1, 2, 3, 4, 5, 6, 7, 8);
        for (int bad : NO_EXPRESSIONS) {
            due("4: clear(" + bad + ")", x.clear(bad), false);
        }
        dueCubes("4: wrong inputs", x, 0, 1, 2, 3);
        due("4: clear(0)", x.clear(0), true);
        dueCubes("4: cleared", x, 0);
        due("4: an empty one", x.clear(0), true);
        dueCubes("4: the other one", x, 1, 4);
        due("4: a full one", x.clear(3), true);
        due("4: forgotten", x.take(3, 4), false);
        fill(x, 3, 9);
        dueCubes("4: put after it", x, 3, 9);
    }

    private static void size() {
        KernelDesk x = new KernelDesk();
        for (int n = 0; n < 8; n++) {
            due("5: size", x.size(3), n);
            due("5: put", x.put(3, 7 * n), true);
        }
        due("5: full", x.size(3), 8);
        due("5: ninth", x.put(3, 100), false);
        due("5: full", x.size(3), 8);
        due("5: other", x.size(2), 0);
        for (int bad : NO_EXPRESSIONS) {
            due("5: size(" + bad + ")", x.size(bad), BAD);
        }
    }

    private static void cube() {
        KernelDesk x = deskOf(64, 0, 127, 5);
        fill(x, 1, 9);
        dueCubes("6: in order", x, 0, 0, 5, 64, 127);
        int[] noPlaces = {-1, 4, 5, 7, 8, 9, 32, Integer.MIN_VALUE, Integer.MAX_VALUE};
        for (int i : noPlaces) {
            due("6: cube(0, " + i + ")", x.cube(0, i), BAD);
        }
        for (int bad : NO_EXPRESSIONS) {
            due("6: cube(" + bad + ", 0)", x.cube(bad, 0), BAD);
        }
        due("6: before expression 1", x.cube(1, -1), BAD);
        due("6: of an empty one", x.cube(2, 0), BAD);
    }

    private static void divideBy() {
        KernelDesk x = deskOf(A | B, A | C, A, B | C, A | B | G, 0);
        fill(x, 1, 99, 98, 97);
        due("7: by a", x.divideBy(1, 0, A), 4);
        dueCubes("7: by a", x, 1, 0, B, C, B | G);
        dueCubes("7: f stays", x, 0, 0, A, A | B, A | C, B | C, A | B | G);
        due("7: by ab", x.divideBy(2, 0, A | B), 2);
        dueCubes("7: by ab", x, 2, 0, G);
        due("7: by 1", x.divideBy(3, 0, 0), 6);
        dueCubes("7: by 1", x, 3, 0, A, A | B, A | C, B | C, A | B | G);
        due("7: by what none holds", x.divideBy(3, 0, F), 0);
        dueCubes("7: by what none holds", x, 3);
        due("7: by 127", x.divideBy(3, 0, 127), 0);
        due("7: of an empty one", x.divideBy(2, 3, 0), 0);
        dueCubes("7: of an empty one", x, 2);
        for (int bad : NO_EXPRESSIONS) {
            due("7: divideBy(" + bad + ", 0, 1)", x.divideBy(bad, 0, A), BAD);
            due("7: divideBy(1, " + bad + ", 1)", x.divideBy(1, bad, A), BAD);
        }
        for (int bad : NO_CUBES) {
            due("7: divideBy(1, 0, " + bad + ")", x.divideBy(1, 0, bad), BAD);
        }
        dueCubes("7: wrong inputs", x, 1, 0, B, C, B | G);
        due("7: into itself", x.divideBy(0, 0, B), 3);
        dueCubes("7: into itself", x, 0, A, C, A | G);
        fill(x, 0, 127, 126);
        due("7: all letters", x.divideBy(0, 0, 127), 1);
        dueCubes("7: all letters", x, 0, 0);
    }

    private static void divide() {
        // (a + b)(c + d + e) + f
        KernelDesk x = deskOf(A | C, A | D, A | E, B | C, B | D, B | E, F);
        fill(x, 1, A, B);
        fill(x, 2, 77);
        due("8: divide", x.divide(2, 0, 1), 3);
        dueCubes("8: divide", x, 2, C, D, E);
        dueCubes("8: f stays", x, 0, A | C, B | C, A | D, B | D, A | E, B | E, F);
        dueCubes("8: g stays", x, 1, A, B);
        fill(x, 3, C, E);
        due("8: by a part of a factor", x.divide(3, 0, 3), 2);
        dueCubes("8: into g", x, 3, A, B);
        fill(x, 3, A, F);
        due("8: nothing in common", x.divide(2, 0, 3), 0);
        dueCubes("8: nothing in common", x, 2);
        due("8: by an empty one", x.divide(1, 0, 2), BAD);
        due("8: empty by an empty one", x.divide(1, 2, 2), BAD);
        due("8: of an empty one", x.divide(2, 2, 1), 0);
        for (int bad : NO_EXPRESSIONS) {
            due("8: divide(" + bad + ", 0, 1)", x.divide(bad, 0, 1), BAD);
            due("8: divide(1, " + bad + ", 1)", x.divide(1, bad, 1), BAD);
            due("8: divide(1, 0, " + bad + ")", x.divide(1, 0, bad), BAD);
        }
        dueCubes("8: wrong inputs", x, 1, A, B);
        due("8: into f", x.divide(0, 0, 1), 3);
        dueCubes("8: into f", x, 0, C, D, E);
        due("8: by itself into itself", x.divide(0, 0, 0), 1);
        dueCubes("8: by itself into itself", x, 0, 0);

        // Over a joined b both quotients have cubes, but never one with a letter of the other.
        fill(x, 0, A | B, A | C, B | C, A | B | C);
        due("8: no letter of g", x.divide(2, 0, 1), 1);
        dueCubes("8: no letter of g", x, 2, C);
        fill(x, 0, 0, A, B, A | B);
        fill(x, 1, 0, A);
        due("8: g has the empty cube", x.divide(2, 0, 1), 2);
        dueCubes("8: g has the empty cube", x, 2, 0, B);
        fill(x, 1, 0);
        due("8: by 1", x.divide(2, 0, 1), 4);
        dueCubes("8: by 1", x, 2, 0, A, B, A | B);
        fill(x, 1, A, A | B);
        due("8: cubes that share letters", x.divide(2, 0, 1), 1);
        dueCubes("8: cubes that share letters", x, 2, 0);
        fill(x, 0, C, A | C, A | D, B | C, B | D);
        fill(x, 1, A, B, E);
        due("8: take from f", x.take(0, C), true);
        due("8: take from g", x.take(1, E), true);
        due("8: what was taken does not count", x.divide(2, 0, 1), 2);
        dueCubes("8: what was taken does not count", x, 2, C, D);
    }

    private static void rest() {
        KernelDesk x = deskOf(A | C, A | D, B | C, B | D, A | B, A | E, G);
        fill(x, 1, A, B);
        due("9: rest", x.rest(2, 0, 1), 3);
        dueCubes("9: rest", x, 2, A | B, A | E, G);
        dueCubes("9: f stays", x, 0, A | B, A | C, B | C, A | D, B | D, A | E, G);
        dueCubes("9: g stays", x, 1, A, B);
        fill(x, 3, E, F);
        due("9: an empty quotient", x.rest(2, 0, 3), 7);
        dueCubes("9: an empty quotient", x, 2, A | B, A | C, B | C, A | D, B | D, A | E, G);
        fill(x, 2);
        due("9: by an empty one", x.rest(1, 0, 2), BAD);
        due("9: empty by an empty one", x.rest(1, 2, 2), BAD);
        due("9: of an empty one", x.rest(3, 2, 1), 0);
        dueCubes("9: of an empty one", x, 3);
        for (int bad : NO_EXPRESSIONS) {
            due("9: rest(" + bad + ", 0, 1)", x.rest(bad, 0, 1), BAD);
            due("9: rest(1, " + bad + ", 1)", x.rest(1, bad, 1), BAD);
            due("9: rest(1, 0, " + bad + ")", x.rest(1, 0, bad), BAD);
        }
        dueCubes("9: wrong inputs", x, 1, A, B);
        due("9: into g", x.rest(1, 0, 1), 3);
        dueCubes("9: into g", x, 1, A | B, A | E, G);
        fill(x, 1, A, B);
        due("9: into f", x.rest(0, 0, 1), 3);
        dueCubes("9: into f", x, 0, A | B, A | E, G);
        due("9: by itself into itself", x.rest(0, 0, 0), 0);
        dueCubes("9: by itself into itself", x, 0);
        fill(x, 0, A | D, B | D, C | D);
        fill(x, 1, A, B, C);
        due("9: take from g", x.take(1, C), true);
        due("9: what was taken does not count", x.rest(2, 0, 1), 1);
        dueCubes("9: what was taken does not count", x, 2, C | D);
    }

    private static void common() {
        KernelDesk x = deskOf(A | B | G, A | G, A | C | G);
        due("10: common", x.common(0), A | G);
        due("10: put", x.put(0, A), true);
        due("10: common", x.common(0), A);
        due("10: put", x.put(0, 0), true);
        due("10: none", x.common(0), 0);
        due("10: an empty one", x.common(1), BAD);
        fill(x, 3, 127);
        due("10: one cube", x.common(3), 127);
        fill(x, 3, 0);
        due("10: the empty cube", x.common(3), 0);
        for (int bad : NO_EXPRESSIONS) {
            due("10: common(" + bad + ")", x.common(bad), BAD);
        }
    }

    private static void free() {
        KernelDesk x = deskOf(A | B, B | C, A | C);
        due("11: no letter in all", x.free(0), true);
        due("11: take", x.take(0, A | C), true);
        due("11: b in all", x.free(0), false);
        due("11: put", x.put(0, 0), true);
        due("11: with the empty cube", x.free(0), true);
        due("11: an empty one", x.free(1), false);
        fill(x, 1, 0);
        due("11: one cube", x.free(1), false);
        fill(x, 1, 0, G);
        due("11: two cubes", x.free(1), true);
        fill(x, 1, 127, G);
        due("11: the last letter in all", x.free(1), false);
        for (int bad : NO_EXPRESSIONS) {
            due("11: free(" + bad + ")", x.free(bad), false);
        }
    }

    private static void kernels() {
        // ac + ad + bc + bd: itself, c + d (by a and by b), a + b (by c and by d)
        KernelDesk x = deskOf(A | C, A | D, B | C, B | D);
        due("12: kernels", x.kernels(0), 3);
        dueCubes("12: stays", x, 0, A | C, B | C, A | D, B | D);
        fill(x, 1, A | B, A | C);
        due("12: not itself", x.kernels(1), 1);
        fill(x, 1, A | B);
        due("12: one cube", x.kernels(1), 0);
        due("12: an empty one", x.kernels(2), 0);
        fill(x, 1, A, B);
        due("12: itself alone", x.kernels(1), 1);
        // abc + abd + aef: by a, by ab; equal sizes but not equal kernels below
        fill(x, 1, A | B | C, A | B | D, A | E | F);
        due("12: in two levels", x.kernels(1), 2);
        fill(x, 1, A | C, A | D, B | E, B | F);
        due("12: of one size", x.kernels(1), 3);
        fill(x, 1, A | C, A | G, B | D, B | G);
        due("12: that differ in the least cube", x.kernels(1), 4);
        fill(x, 1, A | C, A | D, B | C, B | E);
        due("12: that differ in the greatest cube", x.kernels(1), 4);
        fill(x, 1, G | 63, G);
        due("12: by the last letter", x.kernels(1), 1);
        for (int bad : NO_EXPRESSIONS) {
            due("12: kernels(" + bad + ")", x.kernels(bad), BAD);
        }
    }

    private static void cokernels() {
        KernelDesk x = deskOf(A | C, A | D, B | C, B | D);
        due("13: 1, a, b, c, d", x.cokernels(0), 5);
        dueCubes("13: stays", x, 0, A | C, B | C, A | D, B | D);
        fill(x, 1, A | B, A | C);
        due("13: a", x.cokernels(1), 1);
        fill(x, 1, 127);
        due("13: one cube", x.cokernels(1), 0);
        due("13: an empty one", x.cokernels(2), 0);
        fill(x, 1, A | B | C, A | B | D, A | E | F);
        due("13: a, ab", x.cokernels(1), 2);
        fill(x, 1, 127, 126);
        due("13: by 126", x.cokernels(1), 1);
        for (int bad : NO_EXPRESSIONS) {
            due("13: cokernels(" + bad + ")", x.cokernels(bad), BAD);
        }
    }

    private static void nextCokernel() {
        KernelDesk x = deskOf(A | C, A | D, B | C, B | D);
        int[] from = {Integer.MIN_VALUE, -1, 0, 1, 2, 3, 4, 5, 8, 9, 127, 128, Integer.MAX_VALUE};
        int[] next = {0, 0, 0, 1, 2, 4, 4, 8, 8, BAD, BAD, BAD, BAD};
        for (int i = 0; i < from.length; i++) {
            due("14: nextCokernel(0, " + from[i] + ")", x.nextCokernel(0, from[i]), next[i]);
        }
        dueCubes("14: stays", x, 0, A | C, B | C, A | D, B | D);
        fill(x, 1, 127, 126);
        due("14: not the empty cube", x.nextCokernel(1, 0), 126);
        due("14: itself", x.nextCokernel(1, 126), 126);
        due("14: behind it", x.nextCokernel(1, 127), BAD);
        due("14: an empty one", x.nextCokernel(2, 0), BAD);
        for (int bad : NO_EXPRESSIONS) {
            due("14: nextCokernel(" + bad + ", 0)", x.nextCokernel(bad, 0), BAD);
        }
    }

    private static void holding() {
        KernelDesk x = deskOf(127, 0, A, A | B, B, C, A | C, G);
        // in order: 1, a, b, ab, c, ac, g, abcdefg
        due("15: all", x.holding(0, 0), 255);
        due("15: a", x.holding(0, A), 2 + 8 + 32 + 128);
        due("15: ab", x.holding(0, A | B), 8 + 128);
        due("15: g", x.holding(0, G), 64 + 128);
        due("15: all letters", x.holding(0, 127), 128);
        due("15: take", x.take(0, 127), true);
        due("15: none", x.holding(0, 127), 0);
        due("15: b and c", x.holding(0, B | C), 0);
        due("15: an empty one", x.holding(1, 0), 0);
        for (int bad : NO_EXPRESSIONS) {
            due("15: holding(" + bad + ", 0)", x.holding(bad, 0), BAD);
        }
        for (int bad : NO_CUBES) {
            due("15: holding(0, " + bad + ")", x.holding(0, bad), BAD);
        }
    }

    private static void saving() {
        // ac + ad + bc + bd + efg = (a + b)(c + d) + efg
        KernelDesk x = deskOf(A | C, A | D, B | C, B | D, E | F | G);
        fill(x, 1, A, B);
        fill(x, 3, 5);
        due("16: 11 - 2 - 3 - 2", x.saving(0, 1), 4);
        dueCubes("16: stays", x, 0, A | C, B | C, A | D, B | D, E | F | G);
        dueCubes("16: stays", x, 1, A, B);
        dueCubes("16: stays", x, 2);
        dueCubes("16: stays", x, 3, 5);
        fill(x, 1, A, G, 0);
        due("16: 11 - 0 - 11 - 2", x.saving(0, 1), -2);
        due("16: by itself", x.saving(0, 0), 0);
        fill(x, 1, 0);
        due("16: by 1", x.saving(0, 1), 0);
        due("16: by an empty one", x.saving(0, 2), BAD);
        due("16: empty by an empty one", x.saving(2, 2), BAD);
        fill(x, 1, 127, 126);
        due("16: of an empty one", x.saving(2, 1), -13);
        for (int bad : NO_EXPRESSIONS) {
            due("16: saving(" + bad + ", 1)", x.saving(bad, 1), BAD);
            due("16: saving(0, " + bad + ")", x.saving(0, bad), BAD);
        }
    }
}
