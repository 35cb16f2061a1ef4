/**
 * One method for each sentence of the document that names a boundary case; the sentence stands
 * above it. A case has an object of its own, or few enough calls, so that none goes beyond the
 * 512th call unless it is meant to.
 */
public final class KernelDeskBounds {
    private interface Call {
        int on(KernelDesk x);
    }

    private static final int BAD = -1;
    private static final int YES = 1;
    private static final int NO = 0;
    private static final int LEAST = Integer.MIN_VALUE;
    private static final int GREATEST = Integer.MAX_VALUE;
    private static final int CALLS = 512;
    private static final int STATES = 3;
    private static final long MILLIS = 120_000;

    // 4 and 5 might be more slots behind the four; times eight, those with 1 << 29 wrap around to
    // the cells of a slot; the others have low bits that are those of an expression.
    private static final int[] NO_EXPRESSIONS = {
        LEAST, LEAST + 1, -1 << 29, -4, -2, -1, 4, 5, 6, 7, 8, 256, 65537,
        1 << 29, (1 << 29) + 1, (1 << 30) + 3, GREATEST - 1, GREATEST,
    };
    // Most have the low seven, eight or sixteen bits of 0, 5 or 127.
    private static final int[] NO_CUBES = {
        LEAST, LEAST + 5, -128, -123, -2, -1, 128, 129, 133, 255, 256, 261, 65541, GREATEST - 1, GREATEST,
    };

    // Letters, so that the cubes below read as products.
    private static final int A = 1;
    private static final int B = 2;
    private static final int C = 4;
    private static final int D = 8;
    private static final int E = 16;
    private static final int F = 32;
    private static final int G = 64;

    private static final int[] NONE = {};
    private static final int[] EIGHT = {0, 5, 9, 31, 32, 64, 126, 127};
    /** (a + b)(c + d) + ae + g */
    private static final int[] WHOLE = {A | C, B | C, A | D, B | D, A | E, G};
    /** Each lacks one letter, and the last one none: the most cokernels that there can be. */
    private static final int[] MOST = {63, 95, 111, 119, 123, 125, 126, 127};

    private static int wrong = 0;
    private static volatile boolean ended = false;

    public static void main(String[] args) throws InterruptedException {
        // On a thread beside this one, so that a call that does not end is a failure too.
        Thread tests = new Thread(KernelDeskBounds::all);
        tests.setDaemon(true);
        tests.start();
        tests.join(MILLIS);
        if (!ended) {
            System.out.println(tests.isAlive() ? "a call did not end" : "a call threw");
            System.exit(1);
        }
        System.out.println(wrong == 0 ? "all answers are as due" : wrong + " answers are not as due");
        if (wrong != 0) {
            System.exit(1);
        }
    }

    private static void all() {
        newExpressionsAreEmpty();
        newObjectsShareNothing();

        putOfWhatIsThere();
        putIntoNoExpression();
        putOfNoCube();
        putToEightOthers();
        putToEightThatAreResults();

        takeTheLeastTheGreatestAndTheOnlyOne();
        takeWhatIsNotInIt();
        takeFromNoExpression();

        clearEmptyAndFull();
        clearNoExpression();

        sizeFromNoneToEight();
        sizeOfNoExpression();

        cubeFromTheLeastToTheGreatest();
        cubeWhereThereIsNone();
        cubeOfNoExpression();

        divideByIntoItself();
        divideByNumbersOfCubes();
        divideByWithNoExpression();
        divideByNoCube();

        divideReadsBeforeItWrites();
        divideNumbersOfCubes();
        divideByOneCube();
        divideKeepsLettersOfGOut();
        divideWithNoExpression();
        divideByAnEmptyOne();

        restReadsBeforeItWrites();
        restNumbersOfCubes();
        restWithNoExpression();
        restByAnEmptyOne();

        commonFromNoneToAllLetters();
        commonOfNoExpression();
        commonOfAnEmptyOne();

        freeNeedsTwoCubes();
        freeNeedsEachLetterToLack();
        freeOfNoExpression();

        kernelsFromNoneToMost();
        kernelsThatAreDifferent();
        kernelsOfNoExpression();

        cokernelsFromNoneToMost();
        cokernelsOfNoExpression();

        nextCokernelNotBelowFrom();
        nextCokernelWhereThereIsNone();
        nextCokernelOfNoExpression();

        holdingFromTheLeastPlaceToTheGreatest();
        holdingOfNoExpression();
        holdingNoCube();

        savingCountsAllFour();
        savingOfSameOrEmpty();
        savingChangesNothing();
        savingWithNoExpression();
        savingByAnEmptyOne();

        the512thCall();
        callsAfterThe512th();
        noCallThrowsOrFailsToEnd();
        ended = true;
    }

    private static void due(String what, int got, int want) {
        if (got != want) {
            wrong++;
            System.out.println(what + " answered " + got + ", due is " + want);
        }
    }

    private static void dueState(String what, KernelDesk x, String want) {
        String got = shown(x);
        if (!got.equals(want)) {
            wrong++;
            System.out.println(what + " left " + got + ", due is " + want);
        }
    }

    /** The cubes in rising order, and nothing before or behind them. */
    private static void dueCubes(String what, KernelDesk x, int e, int... cubes) {
        due(what + ": size(" + e + ")", x.size(e), cubes.length);
        due(what + ": cube(" + e + ", -1)", x.cube(e, -1), BAD);
        for (int i = 0; i < cubes.length; i++) {
            due(what + ": cube(" + e + ", " + i + ")", x.cube(e, i), cubes[i]);
        }
        due(what + ": cube(" + e + ", " + cubes.length + ")", x.cube(e, cubes.length), BAD);
    }

    private static String shown(KernelDesk x) {
        StringBuilder all = new StringBuilder();
        for (int e = 0; e < 4; e++) {
            all.append(e).append(':');
            int size = x.size(e);
            for (int i = 0; i < size; i++) {
                all.append(' ').append(x.cube(e, i));
            }
            all.append("; ");
        }
        return all.toString();
    }

    private static int number(boolean answer) {
        return answer ? YES : NO;
    }

    private static void fill(KernelDesk x, int e, int... cubes) {
        due("clear(" + e + ")", number(x.clear(e)), YES);
        for (int cube : cubes) {
            due("put(" + e + ", " + cube + ")", number(x.put(e, cube)), YES);
        }
    }

    private static KernelDesk desk(int[]... expressions) {
        KernelDesk x = new KernelDesk();
        for (int e = 0; e < expressions.length; e++) {
            fill(x, e, expressions[e]);
        }
        return x;
    }

    /** All empty; from empty to full; all full. Expressions 0 and 1 are not empty but in the first. */
    private static KernelDesk inState(int state) {
        if (state == 0) {
            return new KernelDesk();
        }
        if (state == 1) {
            return desk(new int[] {0, 5, 127}, new int[] {A}, NONE, EIGHT);
        }
        return desk(EIGHT, MOST, new int[] {0, 1, 2, 3, 4, 5, 6, 7}, EIGHT);
    }

    /** The call answers so in every state, and changes none. */
    private static void refused(String call, int want, Call made) {
        for (int state = 0; state < STATES; state++) {
            KernelDesk x = inState(state);
            String before = shown(x);
            due(call + " in state " + state, made.on(x), want);
            dueState(call + " in state " + state, x, before);
        }
    }

    // Promise 1: "All expressions are empty."

    private static void newExpressionsAreEmpty() {
        for (int e = 0; e < 4; e++) {
            KernelDesk x = new KernelDesk();
            dueCubes("1: new", x, e);
            due("1: common(" + e + ")", x.common(e), BAD);
            due("1: holding(" + e + ", 0)", x.holding(e, 0), 0);
            due("1: take(" + e + ", 0)", number(x.take(e, 0)), NO);
            due("1: divide by " + e, x.divide(0, 0, e), BAD);
            for (int cube = 0; cube < 8; cube++) {
                due("1: room for eight in " + e, number(x.put(e, 8 * cube)), YES);
            }
        }
    }

    private static void newObjectsShareNothing() {
        KernelDesk before = new KernelDesk();
        KernelDesk full = inState(2);
        KernelDesk after = new KernelDesk();
        dueState("1: one made before", before, "0:; 1:; 2:; 3:; ");
        dueState("1: one made after", after, "0:; 1:; 2:; 3:; ");
        due("1: clear", number(after.clear(2)), YES);
        dueCubes("1: the full one", full, 2, 0, 1, 2, 3, 4, 5, 6, 7);
    }

    // Promise 2: "answers true (also when it is there)"

    private static void putOfWhatIsThere() {
        for (int e = 0; e < 4; e++) {
            for (int n = 1; n <= 8; n++) {
                KernelDesk x = new KernelDesk();
                for (int i = 0; i < n; i++) {
                    due("2: put", number(x.put(e, EIGHT[i])), YES);
                }
                String before = shown(x);
                for (int i = 0; i < n; i++) {
                    due("2: put(" + e + ", " + EIGHT[i] + ") again", number(x.put(e, EIGHT[i])), YES);
                }
                dueState("2: put again", x, before);
            }
        }
    }

    // Promise 2: "false, changing nothing, when e is not 0 .. 3"

    private static void putIntoNoExpression() {
        KernelDesk x = new KernelDesk();
        due("2: put(0, 5)", number(x.put(0, 5)), YES);
        due("2: put(3, 9)", number(x.put(3, 9)), YES);
        dueState("2: the least and the greatest e", x, "0: 5; 1:; 2:; 3: 9; ");
        for (int e : NO_EXPRESSIONS) {
            refused("2: put(" + e + ", 0)", NO, y -> number(y.put(e, 0)));
            refused("2: put(" + e + ", 77)", NO, y -> number(y.put(e, 77)));
            refused("2: put(" + e + ", 127)", NO, y -> number(y.put(e, 127)));
            refused("2: put(" + e + ", 128)", NO, y -> number(y.put(e, 128)));
        }
    }

    // Promise 2: "false, changing nothing, when .. cube is not 0 .. 127"

    private static void putOfNoCube() {
        KernelDesk x = new KernelDesk();
        due("2: put(1, 127)", number(x.put(1, 127)), YES);
        due("2: put(1, 0)", number(x.put(1, 0)), YES);
        due("2: put(1, 126)", number(x.put(1, 126)), YES);
        due("2: put(1, 1)", number(x.put(1, 1)), YES);
        dueState("2: the least and the greatest cubes", x, "0:; 1: 0 1 126 127; 2:; 3:; ");
        for (int cube : NO_CUBES) {
            for (int i = 0; i < 4; i++) {
                int e = i;
                refused("2: put(" + e + ", " + cube + ")", NO, y -> number(y.put(e, cube)));
            }
        }
    }

    // Promise 2: "false, changing nothing, when .. there are eight others";
    // Terms: "each of at most eight cubes"

    private static void putToEightOthers() {
        int[] middle = {20, 30, 40, 50, 60, 70, 80, 90};
        for (int e = 0; e < 4; e++) {
            KernelDesk x = new KernelDesk();
            for (int i = 0; i < 7; i++) {
                due("2: put", number(x.put(e, middle[i])), YES);
            }
            due("2: put to seven others", number(x.put(e, middle[7])), YES);
            String before = shown(x);
            for (int cube = 0; cube < 128; cube++) {
                boolean there = cube >= 20 && cube <= 90 && cube % 10 == 0;
                due("2: put(" + e + ", " + cube + ") to eight", number(x.put(e, cube)), there ? YES : NO);
            }
            dueState("2: put to eight", x, before);
            int other = (e + 1) % 4;
            due("2: another one has room", number(x.put(other, 0)), YES);
            dueCubes("2: another one has room", x, other, 0);
            due("2: take", number(x.take(e, 50)), YES);
            due("2: room for one", number(x.put(e, 127)), YES);
            due("2: and no other", number(x.put(e, 0)), NO);
            dueCubes("2: room for one", x, e, 20, 30, 40, 60, 70, 80, 90, 127);
            due("2: clear", number(x.clear(e)), YES);
            due("2: room again", number(x.put(e, 0)), YES);
            dueCubes("2: room again", x, e, 0);
        }
    }

    private static void putToEightThatAreResults() {
        // 31 and 127 hold ab, but neither without ab is one of the eight: 1 + ab leaves all of them.
        KernelDesk x = desk(EIGHT, new int[] {0}, new int[] {0, A | B});
        due("2: divideBy", x.divideBy(3, 0, 0), 8);
        due("2: put to what divideBy left", number(x.put(3, 77)), NO);
        due("2: divide", x.divide(3, 0, 1), 8);
        due("2: put to what divide left", number(x.put(3, 77)), NO);
        due("2: rest", x.rest(3, 0, 2), 8);
        due("2: put to what rest left", number(x.put(3, 77)), NO);
        dueCubes("2: eight", x, 3, EIGHT);
        due("2: take", number(x.take(0, 31)), YES);
        due("2: rest", x.rest(3, 0, 2), 7);
        due("2: put to the seven that rest left", number(x.put(3, 77)), YES);
        dueCubes("2: eight again", x, 3, 0, 5, 9, 32, 64, 77, 126, 127);
    }

    // Promise 3: "Takes a cube out of expression e and answers true"

    private static void takeTheLeastTheGreatestAndTheOnlyOne() {
        for (int e = 0; e < 4; e++) {
            for (int out = 0; out < 8; out++) {
                KernelDesk x = new KernelDesk();
                fill(x, e, EIGHT);
                due("3: take(" + e + ", " + EIGHT[out] + ")", number(x.take(e, EIGHT[out])), YES);
                dueCubes("3: one of eight", x, e, without(EIGHT, out));
            }
            for (int cube : new int[] {0, 1, 126, 127}) {
                KernelDesk x = new KernelDesk();
                fill(x, e, cube);
                due("3: take(" + e + ", " + cube + ")", number(x.take(e, cube)), YES);
                dueState("3: the only one", x, "0:; 1:; 2:; 3:; ");
            }
        }
    }

    private static int[] without(int[] cubes, int out) {
        int[] left = new int[cubes.length - 1];
        for (int i = 0; i < left.length; i++) {
            left[i] = cubes[i < out ? i : i + 1];
        }
        return left;
    }

    // Promise 3: "false when it is not in it"

    private static void takeWhatIsNotInIt() {
        for (int cube : NO_CUBES) {
            for (int i = 0; i < 4; i++) {
                int e = i;
                refused("3: take(" + e + ", " + cube + ")", NO, y -> number(y.take(e, cube)));
            }
        }
        KernelDesk x = desk(EIGHT, new int[] {10, 20}, NONE, new int[] {30});
        String before = shown(x);
        for (int cube : EIGHT) {
            due("3: of an empty one", number(x.take(2, cube)), NO);
            due("3: in another one alone", number(x.take(1, cube)), NO);
        }
        for (int cube : new int[] {1, 4, 6, 8, 10, 30, 33, 63, 65, 125}) {
            due("3: beside those in it", number(x.take(0, cube)), NO);
        }
        dueState("3: not in it", x, before);
        due("3: take", number(x.take(1, 20)), YES);
        due("3: taken already, the greatest", number(x.take(1, 20)), NO);
        due("3: take", number(x.take(1, 10)), YES);
        due("3: taken already, the only one", number(x.take(1, 10)), NO);
        due("3: clear", number(x.clear(3)), YES);
        due("3: cleared", number(x.take(3, 30)), NO);
        due("3: divideBy", x.divideBy(0, 0, 127), 1);
        due("3: gone with a division", number(x.take(0, 127)), NO);
        dueState("3: not in it any more", x, "0: 0; 1:; 2:; 3:; ");
    }

    // Promise 3: "false when .. e is not 0 .. 3"

    private static void takeFromNoExpression() {
        KernelDesk x = desk(new int[] {5}, new int[] {5}, new int[] {5}, new int[] {5});
        due("3: take(0, 5)", number(x.take(0, 5)), YES);
        due("3: take(3, 5)", number(x.take(3, 5)), YES);
        dueState("3: the least and the greatest e", x, "0:; 1: 5; 2: 5; 3:; ");
        for (int e : NO_EXPRESSIONS) {
            refused("3: take(" + e + ", 0)", NO, y -> number(y.take(e, 0)));
            refused("3: take(" + e + ", 5)", NO, y -> number(y.take(e, 5)));
            refused("3: take(" + e + ", 127)", NO, y -> number(y.take(e, 127)));
        }
    }

    // Promise 4: "Makes expression e empty and answers true"

    private static void clearEmptyAndFull() {
        for (int e = 0; e < 4; e++) {
            KernelDesk x = desk(EIGHT, EIGHT, EIGHT, EIGHT);
            due("4: clear(" + e + "), full", number(x.clear(e)), YES);
            for (int other = 0; other < 4; other++) {
                dueCubes("4: clear(" + e + ")", x, other, other == e ? NONE : EIGHT);
            }
            due("4: clear(" + e + "), empty", number(x.clear(e)), YES);
            dueCubes("4: twice", x, e);
            due("4: put", number(x.put(e, 0)), YES);
            due("4: clear(" + e + "), the empty cube alone", number(x.clear(e)), YES);
            dueCubes("4: the empty cube alone", x, e);
        }
    }

    // Promise 4: "false when it is not 0 .. 3"

    private static void clearNoExpression() {
        for (int e : NO_EXPRESSIONS) {
            refused("4: clear(" + e + ")", NO, y -> number(y.clear(e)));
        }
    }

    // Promise 5: "The number of cubes of expression e"

    private static void sizeFromNoneToEight() {
        for (int e = 0; e < 4; e++) {
            KernelDesk x = new KernelDesk();
            for (int n = 0; n < 8; n++) {
                due("5: size(" + e + ")", x.size(e), n);
                due("5: put", number(x.put(e, EIGHT[7 - n])), YES);
                due("5: put again", number(x.put(e, EIGHT[7 - n])), YES);
            }
            due("5: size(" + e + "), full", x.size(e), 8);
            due("5: put a ninth", number(x.put(e, 77)), NO);
            due("5: size(" + e + "), full", x.size(e), 8);
            for (int n = 7; n >= 0; n--) {
                due("5: take", number(x.take(e, EIGHT[n])), YES);
                due("5: take again", number(x.take(e, EIGHT[n])), NO);
                due("5: size(" + e + ")", x.size(e), n);
            }
        }
    }

    // Promise 5: "BAD when it is not 0 .. 3"

    private static void sizeOfNoExpression() {
        for (int e : NO_EXPRESSIONS) {
            refused("5: size(" + e + ")", BAD, y -> y.size(e));
        }
        KernelDesk x = desk(WHOLE, new int[] {A, B});
        due("5: rest", x.rest(2, 0, 1), 2);
        for (int e : NO_EXPRESSIONS) {
            due("5: size(" + e + ") after a division", x.size(e), BAD);
        }
    }

    // Promise 6: "The i-th least cube (0 the least)"

    private static void cubeFromTheLeastToTheGreatest() {
        int[][] orders = {{0, 1, 2, 3, 4, 5, 6, 7}, {7, 6, 5, 4, 3, 2, 1, 0}, {3, 7, 0, 5, 1, 6, 2, 4}};
        for (int[] order : orders) {
            for (int e = 0; e < 4; e++) {
                KernelDesk x = new KernelDesk();
                for (int place : order) {
                    due("6: put", number(x.put(e, EIGHT[place])), YES);
                }
                for (int i = 0; i < 8; i++) {
                    due("6: cube(" + e + ", " + i + ")", x.cube(e, i), EIGHT[i]);
                }
            }
        }
    }

    // Promise 6: "BAD when there is none"

    private static void cubeWhereThereIsNone() {
        int[] never = {LEAST, LEAST + 1, -1 << 29, -32, -9, -8, -7, -1, 8, 9, 16, 31, 32, 48, 256, 1 << 29, GREATEST};
        for (int i : never) {
            for (int j = 0; j < 4; j++) {
                int e = j;
                refused("6: cube(" + e + ", " + i + ")", BAD, y -> y.cube(e, i));
            }
        }
        for (int n = 0; n < 8; n++) {
            // Full before, so that what was taken might still stand in its cell.
            KernelDesk x = desk(EIGHT, EIGHT, EIGHT, EIGHT);
            for (int taken = 7; taken >= n; taken--) {
                due("6: take", number(x.take(1, EIGHT[taken])), YES);
            }
            for (int i = 0; i < 8; i++) {
                due("6: cube(1, " + i + ") of " + n, x.cube(1, i), i < n ? EIGHT[i] : BAD);
            }
        }
        KernelDesk x = desk(EIGHT);
        due("6: clear", number(x.clear(0)), YES);
        due("6: cube(0, 0), cleared", x.cube(0, 0), BAD);
    }

    // Promise 6: "BAD when .. e is not 0 .. 3"

    private static void cubeOfNoExpression() {
        for (int e : NO_EXPRESSIONS) {
            for (int i : new int[] {LEAST, -8, -1, 0, 1, 7, 8, GREATEST}) {
                refused("6: cube(" + e + ", " + i + ")", BAD, y -> y.cube(e, i));
            }
        }
        KernelDesk x = desk(WHOLE, new int[] {A, B});
        due("6: rest", x.rest(2, 0, 1), 2);
        for (int e : NO_EXPRESSIONS) {
            due("6: cube(" + e + ", 0) after a division", x.cube(e, 0), BAD);
        }
    }

    // Promise 7: "goes into expression e (f may be e)"

    private static void divideByIntoItself() {
        for (int e = 0; e < 4; e++) {
            for (int f = 0; f < 4; f++) {
                KernelDesk x = desk(EIGHT, EIGHT, EIGHT, EIGHT);
                fill(x, f, WHOLE);
                due("7: divideBy(" + e + ", " + f + ", a)", x.divideBy(e, f, A), 3);
                for (int other = 0; other < 4; other++) {
                    int[] want = other == e ? new int[] {C, D, E} : other == f ? WHOLE : EIGHT;
                    dueCubes("7: divideBy(" + e + ", " + f + ", a)", x, other, want);
                }
            }
        }
    }

    // Promise 7: "Answers the number of its cubes"

    private static void divideByNumbersOfCubes() {
        KernelDesk x = desk(EIGHT, MOST, NONE, new int[] {77});
        due("7: eight by the empty cube", x.divideBy(3, 0, 0), 8);
        dueCubes("7: eight by the empty cube", x, 3, EIGHT);
        due("7: one, into what was full", x.divideBy(3, 0, 127), 1);
        dueCubes("7: one, into what was full", x, 3, 0);
        due("7: none", x.divideBy(3, 3, 64), 0);
        dueCubes("7: none", x, 3);
        due("7: of an empty one by the empty cube", x.divideBy(0, 2, 0), 0);
        dueCubes("7: of an empty one, into what was full", x, 0);
        due("7: of an empty one by all letters", x.divideBy(2, 2, 127), 0);
        due("7: seven by the first letter", x.divideBy(3, 1, A), 7);
        dueCubes("7: seven by the first letter", x, 3, 62, 94, 110, 118, 122, 124, 126);
        due("7: seven by the last letter", x.divideBy(3, 1, G), 7);
        dueCubes("7: seven by the last letter", x, 3, 31, 47, 55, 59, 61, 62, 63);
        due("7: two by 126", x.divideBy(1, 1, 126), 2);
        dueCubes("7: two by 126", x, 1, 0, A);
    }

    // Promise 7: "BAD, changing nothing, when e or f is not 0 .. 3"

    private static void divideByWithNoExpression() {
        for (int bad : NO_EXPRESSIONS) {
            for (int i = 0; i < 4; i++) {
                int good = i;
                refused("7: divideBy(" + bad + ", " + good + ", 1)", BAD, y -> y.divideBy(bad, good, A));
                refused("7: divideBy(" + good + ", " + bad + ", 1)", BAD, y -> y.divideBy(good, bad, A));
                refused("7: divideBy(" + good + ", " + bad + ", 0)", BAD, y -> y.divideBy(good, bad, 0));
            }
            refused("7: divideBy(" + bad + ", " + bad + ", 1)", BAD, y -> y.divideBy(bad, bad, A));
        }
    }

    // Promise 7: "BAD, changing nothing, when .. cube is not 0 .. 127"

    private static void divideByNoCube() {
        for (int cube : NO_CUBES) {
            for (int i = 0; i < 4; i++) {
                int e = i;
                refused("7: divideBy(" + e + ", 0, " + cube + ")", BAD, y -> y.divideBy(e, 0, cube));
                refused("7: divideBy(" + e + ", 3, " + cube + ")", BAD, y -> y.divideBy(e, 3, cube));
            }
        }
    }

    // Promise 8: "goes into expression e (read before it is written)"

    private static void divideReadsBeforeItWrites() {
        for (int e = 0; e < 4; e++) {
            for (int f = 0; f < 4; f++) {
                for (int g = 0; g < 4; g++) {
                    String call = "8: divide(" + e + ", " + f + ", " + g + ")";
                    int[] divisor = f == g ? WHOLE : new int[] {A, B};
                    int[] quotient = f == g ? new int[] {0} : new int[] {C, D};
                    KernelDesk x = deskForDivision(f, g, divisor);
                    due(call, x.divide(e, f, g), quotient.length);
                    dueAfterDivision(call, x, e, f, g, divisor, quotient);
                }
            }
        }
    }

    private static KernelDesk deskForDivision(int f, int g, int[] divisor) {
        KernelDesk x = desk(EIGHT, EIGHT, EIGHT, EIGHT);
        fill(x, f, WHOLE);
        fill(x, g, divisor);
        return x;
    }

    private static void dueAfterDivision(
            String call, KernelDesk x, int e, int f, int g, int[] divisor, int[] result) {
        for (int other = 0; other < 4; other++) {
            int[] want = other == e ? result : other == g ? divisor : other == f ? WHOLE : EIGHT;
            dueCubes(call, x, other, want);
        }
    }

    // Promise 8: "Answers the number of its cubes"

    private static void divideNumbersOfCubes() {
        KernelDesk x = desk(EIGHT, new int[] {0}, new int[] {3}, NONE);
        due("8: eight by 1", x.divide(3, 0, 1), 8);
        dueCubes("8: eight by 1", x, 3, EIGHT);
        due("8: eight by eight", x.divide(3, 3, 0), 1);
        dueCubes("8: eight by eight", x, 3, 0);
        fill(x, 3, EIGHT);
        fill(x, 2, 0, 5, 9, 31, 32, 64, 126, 125);
        due("8: eight by eight that differ in one", x.divide(3, 3, 2), 0);
        dueCubes("8: none, into what was full", x, 3);
        due("8: of an empty one", x.divide(0, 3, 1), 0);
        dueCubes("8: of an empty one, into what was full", x, 0);

        // (the eight cubes of a, b, c) g: the greatest divisor that leaves a letter
        KernelDesk y = desk(new int[] {64, 65, 66, 67, 68, 69, 70, 71}, new int[] {0, 1, 2, 3, 4, 5, 6, 7});
        due("8: by eight", y.divide(2, 0, 1), 1);
        dueCubes("8: by eight", y, 2, G);
        fill(y, 1, G);
        due("8: by one letter", y.divide(2, 0, 1), 8);
        dueCubes("8: by one letter", y, 2, 0, 1, 2, 3, 4, 5, 6, 7);
        fill(y, 0, 127);
        due("8: one cube by another", y.divide(2, 0, 1), 1);
        dueCubes("8: one cube by another", y, 2, 63);
        fill(y, 1, 127);
        due("8: one cube by itself", y.divide(2, 0, 1), 1);
        dueCubes("8: one cube by itself", y, 2, 0);
        fill(y, 0, 126);
        due("8: one cube by a greater one", y.divide(2, 0, 1), 0);
        dueCubes("8: one cube by a greater one", y, 2);
    }

    // Terms: "an expression g that is not empty": the empty cube alone is a cube, too

    private static void divideByOneCube() {
        for (int cube = 0; cube < 128; cube++) {
            KernelDesk x = desk(MOST, new int[] {cube});
            int asExpression = x.divide(2, 0, 1);
            int asCube = x.divideBy(3, 0, cube);
            due("8: divide by the one cube " + cube, asExpression, asCube);
            due("8: size of the quotient by the one cube " + cube, x.size(2), asCube);
            for (int i = 0; i < asCube; i++) {
                due("8: quotient by the one cube " + cube, x.cube(2, i), x.cube(3, i));
            }
        }
    }

    // Terms: "and have no letter that any cube of g has"

    private static void divideKeepsLettersOfGOut() {
        KernelDesk x = desk(new int[] {A | B}, new int[] {A, B});
        due("8: ab by a + b", x.divide(2, 0, 1), 0);
        dueCubes("8: ab by a + b", x, 2);
        fill(x, 0, B, A | B);
        fill(x, 1, 0, A);
        due("8: b + ab by 1 + a", x.divide(2, 0, 1), 1);
        dueCubes("8: b + ab by 1 + a", x, 2, B);
        fill(x, 0, A, A | B);
        due("8: a + ab by 1 + a", x.divide(2, 0, 1), 0);
        fill(x, 0, A, A | G, G);
        due("8: a + ag + g by 1 + a", x.divide(2, 0, 1), 1);
        dueCubes("8: a + ag + g by 1 + a", x, 2, G);
        fill(x, 1, 0, G);
        due("8: a + ag + g by 1 + g", x.divide(2, 0, 1), 1);
        dueCubes("8: a + ag + g by 1 + g", x, 2, A);
    }

    // Promise 8: "BAD, changing nothing, when one of e, f, g is not 0 .. 3"

    private static void divideWithNoExpression() {
        for (int bad : NO_EXPRESSIONS) {
            for (int i = 0; i < 4; i++) {
                int good = i;
                refused("8: divide(" + bad + ", " + good + ", 1)", BAD, y -> y.divide(bad, good, 1));
                refused("8: divide(" + good + ", " + bad + ", 1)", BAD, y -> y.divide(good, bad, 1));
                refused("8: divide(" + good + ", 0, " + bad + ")", BAD, y -> y.divide(good, 0, bad));
                refused("8: divide(0, " + good + ", " + bad + ")", BAD, y -> y.divide(0, good, bad));
            }
            refused("8: divide of three times " + bad, BAD, y -> y.divide(bad, bad, bad));
        }
    }

    // Promise 8: "BAD, changing nothing, when .. g is empty"

    private static void divideByAnEmptyOne() {
        for (int e = 0; e < 4; e++) {
            for (int f = 0; f < 4; f++) {
                for (int g = 0; g < 4; g++) {
                    String call = "8: divide(" + e + ", " + f + ", " + g + "), g empty";
                    KernelDesk x = inState(2);
                    due("8: clear", number(x.clear(g)), YES);
                    String before = shown(x);
                    due(call, x.divide(e, f, g), BAD);
                    dueState(call, x, before);
                    due("8: clear", number(x.clear(f)), YES);
                    due("8: both empty", x.divide(e, f, g), BAD);
                }
            }
        }
    }

    // Promise 9: "goes into expression e", as in divide: read before it is written

    private static void restReadsBeforeItWrites() {
        for (int e = 0; e < 4; e++) {
            for (int f = 0; f < 4; f++) {
                for (int g = 0; g < 4; g++) {
                    String call = "9: rest(" + e + ", " + f + ", " + g + ")";
                    int[] divisor = f == g ? WHOLE : new int[] {A, B};
                    int[] rest = f == g ? NONE : new int[] {A | E, G};
                    KernelDesk x = deskForDivision(f, g, divisor);
                    due(call, x.rest(e, f, g), rest.length);
                    dueAfterDivision(call, x, e, f, g, divisor, rest);
                }
            }
        }
    }

    // Promise 9: "answers .. as in divide": the number of its cubes

    private static void restNumbersOfCubes() {
        KernelDesk x = desk(EIGHT, new int[] {A | B}, new int[] {0}, NONE);
        due("9: by a cube that six don't hold", x.rest(3, 0, 1), 6);
        dueCubes("9: by a cube that six don't hold", x, 3, 0, 5, 9, 32, 64, 126);
        fill(x, 1, 0, A | B);
        due("9: an empty quotient leaves all eight", x.rest(3, 0, 1), 8);
        dueCubes("9: an empty quotient leaves all eight", x, 3, EIGHT);
        due("9: by 1, into what was full", x.rest(3, 0, 2), 0);
        dueCubes("9: by 1, into what was full", x, 3);
        due("9: of an empty one, into what was full", x.rest(0, 3, 1), 0);
        dueCubes("9: of an empty one, into what was full", x, 0);
        fill(x, 0, 64, 65, 66, 67, 68, 69, 70, 71);
        fill(x, 1, 0, 1, 2, 3, 4, 5, 6, 7);
        due("9: eight by eight", x.rest(3, 0, 1), 0);
        dueCubes("9: eight by eight", x, 3);
        due("9: take", number(x.take(0, 71)), YES);
        due("9: seven by eight", x.rest(3, 0, 1), 7);
        dueCubes("9: seven by eight", x, 3, 64, 65, 66, 67, 68, 69, 70);
    }

    // Promise 9: "BAD as in divide": one of e, f, g is not 0 .. 3

    private static void restWithNoExpression() {
        for (int bad : NO_EXPRESSIONS) {
            for (int i = 0; i < 4; i++) {
                int good = i;
                refused("9: rest(" + bad + ", " + good + ", 1)", BAD, y -> y.rest(bad, good, 1));
                refused("9: rest(" + good + ", " + bad + ", 1)", BAD, y -> y.rest(good, bad, 1));
                refused("9: rest(" + good + ", 0, " + bad + ")", BAD, y -> y.rest(good, 0, bad));
                refused("9: rest(0, " + good + ", " + bad + ")", BAD, y -> y.rest(0, good, bad));
            }
            refused("9: rest of three times " + bad, BAD, y -> y.rest(bad, bad, bad));
        }
    }

    // Promise 9: "BAD as in divide": g is empty

    private static void restByAnEmptyOne() {
        for (int e = 0; e < 4; e++) {
            for (int f = 0; f < 4; f++) {
                for (int g = 0; g < 4; g++) {
                    String call = "9: rest(" + e + ", " + f + ", " + g + "), g empty";
                    KernelDesk x = inState(2);
                    due("9: clear", number(x.clear(g)), YES);
                    String before = shown(x);
                    due(call, x.rest(e, f, g), BAD);
                    dueState(call, x, before);
                    due("9: clear", number(x.clear(f)), YES);
                    due("9: both empty", x.rest(e, f, g), BAD);
                }
            }
        }
    }

    // Promise 10: "The letters that are in all cubes of expression e, as a cube"

    private static void commonFromNoneToAllLetters() {
        for (int e = 0; e < 4; e++) {
            for (int cube = 0; cube < 128; cube++) {
                KernelDesk x = new KernelDesk();
                fill(x, e, cube);
                due("10: common(" + e + ") of " + cube + " alone", x.common(e), cube);
                fill(x, e, cube, 127);
                due("10: common(" + e + ") of " + cube + " and 127", x.common(e), cube);
                fill(x, e, cube, 0);
                due("10: common(" + e + ") of " + cube + " and 0", x.common(e), 0);
            }
        }
        KernelDesk x = desk(MOST, EIGHT, new int[] {1, 3, 5, 7, 9, 11, 13, 15}, new int[] {127, 126});
        due("10: none in all eight", x.common(0), 0);
        due("10: the empty cube among eight", x.common(1), 0);
        due("10: the first letter in all eight", x.common(2), A);
        due("10: all letters but the first", x.common(3), 126);
        for (int i = 0; i < 7; i++) {
            fill(x, 3, without(MOST, i));
            due("10: the one letter that is in all seven", x.common(3), 127 - MOST[i]);
        }
    }

    // Promise 10: "BAD when e is not 0 .. 3"

    private static void commonOfNoExpression() {
        for (int e : NO_EXPRESSIONS) {
            refused("10: common(" + e + ")", BAD, y -> y.common(e));
        }
        KernelDesk x = desk(WHOLE, new int[] {A, B});
        due("10: rest", x.rest(2, 0, 1), 2);
        for (int e : NO_EXPRESSIONS) {
            due("10: common(" + e + ") after a division", x.common(e), BAD);
        }
    }

    // Promise 10: "BAD when e is .. empty"

    private static void commonOfAnEmptyOne() {
        for (int e = 0; e < 4; e++) {
            KernelDesk x = desk(EIGHT, EIGHT, EIGHT, EIGHT);
            fill(x, e, 5);
            due("10: common(" + e + ")", x.common(e), 5);
            due("10: take", number(x.take(e, 5)), YES);
            due("10: common(" + e + "), the only one taken", x.common(e), BAD);
            fill(x, e, EIGHT);
            due("10: clear", number(x.clear(e)), YES);
            due("10: common(" + e + "), cleared", x.common(e), BAD);
            dueCubes("10: common changes nothing", x, e);
        }
    }

    // Terms: "FREE when it has at least two cubes"

    private static void freeNeedsTwoCubes() {
        for (int e = 0; e < 4; e++) {
            KernelDesk x = new KernelDesk();
            due("11: free(" + e + "), empty", number(x.free(e)), NO);
            fill(x, e, 0);
            due("11: free(" + e + "), the empty cube alone", number(x.free(e)), NO);
            fill(x, e, 127);
            due("11: free(" + e + "), all letters alone", number(x.free(e)), NO);
            fill(x, e, 0, 127);
            due("11: free(" + e + "), two", number(x.free(e)), YES);
            due("11: take", number(x.take(e, 127)), YES);
            due("11: free(" + e + "), one left", number(x.free(e)), NO);
            fill(x, e, MOST);
            due("11: free(" + e + "), eight", number(x.free(e)), YES);
            due("11: clear", number(x.clear(e)), YES);
            due("11: free(" + e + "), cleared", number(x.free(e)), NO);
        }
    }

    // Terms: "and no letter is in all of them"

    private static void freeNeedsEachLetterToLack() {
        for (int i = 0; i < 7; i++) {
            KernelDesk x = desk(without(MOST, i), MOST, new int[] {MOST[i], 127 - MOST[i]}, new int[] {MOST[i], 127});
            due("11: one letter in all seven", number(x.free(0)), NO);
            due("11: none in all eight", number(x.free(1)), YES);
            due("11: none in both", number(x.free(2)), YES);
            due("11: all but one in both", number(x.free(3)), NO);
        }
    }

    // Promise 11: "false when it is not 0 .. 3"

    private static void freeOfNoExpression() {
        for (int e : NO_EXPRESSIONS) {
            refused("11: free(" + e + ")", NO, y -> number(y.free(e)));
        }
        KernelDesk x = desk(WHOLE, new int[] {A, B});
        due("11: rest", x.rest(2, 0, 1), 2);
        for (int e : NO_EXPRESSIONS) {
            due("11: free(" + e + ") after a division", number(x.free(e)), NO);
        }
    }

    // Promise 12: "The number of different kernels", from none to the most: no quotient by all
    // seven letters has two cubes, so that there are at most 127

    private static void kernelsFromNoneToMost() {
        for (int e = 0; e < 4; e++) {
            KernelDesk x = new KernelDesk();
            due("12: kernels(" + e + "), empty", x.kernels(e), 0);
            fill(x, e, 0);
            due("12: kernels(" + e + "), the empty cube alone", x.kernels(e), 0);
            fill(x, e, 127);
            due("12: kernels(" + e + "), all letters alone", x.kernels(e), 0);
            fill(x, e, 0, 127);
            due("12: kernels(" + e + "), itself", x.kernels(e), 1);
            fill(x, e, 126, 127);
            due("12: kernels(" + e + "), by 126 alone", x.kernels(e), 1);
            fill(x, e, MOST);
            due("12: kernels(" + e + "), the most", x.kernels(e), 127);
            dueCubes("12: kernels changes nothing", x, e, MOST);
        }
    }

    // Promise 12: "different"

    private static void kernelsThatAreDifferent() {
        // Each of the four letters that divide has the same kernel f + g.
        KernelDesk x = desk(new int[] {A | F, A | G, B | F, B | G, C | F, C | G, D | F, D | G});
        due("12: itself, f + g, a + b + c + d", x.kernels(0), 3);
        due("12: by 1, a, b, c, d, f, g", x.cokernels(0), 7);
        fill(x, 0, A | F, A | G, B | F, B | G, C | F, C | G, D | F, D | E);
        due("12: one that differs in a cube", x.kernels(0), 5);
        fill(x, 0, A, A | F, B, B | F, C | F, C | G);
        due("12: 1 + f twice, f + g, a + b + c, itself", x.kernels(0), 4);
    }

    // Promise 12: "BAD when it is not 0 .. 3"

    private static void kernelsOfNoExpression() {
        for (int e : NO_EXPRESSIONS) {
            refused("12: kernels(" + e + ")", BAD, y -> y.kernels(e));
        }
    }

    // Promise 13: "The number of cubes, by which the quotient of expression e is free"

    private static void cokernelsFromNoneToMost() {
        for (int e = 0; e < 4; e++) {
            KernelDesk x = new KernelDesk();
            due("13: cokernels(" + e + "), empty", x.cokernels(e), 0);
            fill(x, e, 0);
            due("13: cokernels(" + e + "), the empty cube alone", x.cokernels(e), 0);
            fill(x, e, 127);
            due("13: cokernels(" + e + "), all letters alone", x.cokernels(e), 0);
            fill(x, e, 0, 127);
            due("13: cokernels(" + e + "), the least alone", x.cokernels(e), 1);
            fill(x, e, 126, 127);
            due("13: cokernels(" + e + "), 126 alone", x.cokernels(e), 1);
            fill(x, e, MOST);
            due("13: cokernels(" + e + "), the most", x.cokernels(e), 127);
            dueCubes("13: cokernels changes nothing", x, e, MOST);
        }
    }

    // Promise 13: "BAD when it is not 0 .. 3"

    private static void cokernelsOfNoExpression() {
        for (int e : NO_EXPRESSIONS) {
            refused("13: cokernels(" + e + ")", BAD, y -> y.cokernels(e));
        }
    }

    // Promise 14: "The least such cube that is not below from"

    private static void nextCokernelNotBelowFrom() {
        KernelDesk x = desk(MOST, new int[] {126, 127}, new int[] {0, 127}, new int[] {A | C, A | D, B | C, B | D});
        for (int from = 0; from < 127; from++) {
            due("14: nextCokernel(0, " + from + ")", x.nextCokernel(0, from), from);
            due("14: nextCokernel(1, " + from + ")", x.nextCokernel(1, from), 126);
        }
        for (int from : new int[] {LEAST, LEAST + 1, -128, -2, -1}) {
            due("14: nextCokernel(0, " + from + ")", x.nextCokernel(0, from), 0);
            due("14: nextCokernel(1, " + from + ")", x.nextCokernel(1, from), 126);
            due("14: nextCokernel(2, " + from + ")", x.nextCokernel(2, from), 0);
        }
        int[] next = {0, A, B, C, C, D, D, D, D};
        for (int from = 0; from < next.length; from++) {
            due("14: nextCokernel(3, " + from + ")", x.nextCokernel(3, from), next[from]);
        }
        dueCubes("14: nextCokernel changes nothing", x, 3, A | C, B | C, A | D, B | D);
    }

    // Promise 14: "BAD when there is none"

    private static void nextCokernelWhereThereIsNone() {
        for (int from : new int[] {127, 128, 129, 255, 256, 1 << 29, GREATEST - 1, GREATEST}) {
            for (int i = 0; i < 4; i++) {
                int e = i;
                refused("14: nextCokernel(" + e + ", " + from + ")", BAD, y -> y.nextCokernel(e, from));
            }
        }
        for (int e = 0; e < 4; e++) {
            KernelDesk x = new KernelDesk();
            due("14: empty", x.nextCokernel(e, 0), BAD);
            due("14: empty, from the least", x.nextCokernel(e, LEAST), BAD);
            fill(x, e, 127);
            due("14: one cube", x.nextCokernel(e, 0), BAD);
            fill(x, e, 0, 127);
            due("14: behind the only one", x.nextCokernel(e, 1), BAD);
            fill(x, e, A | C, A | D, B | C, B | D);
            due("14: behind the last one", x.nextCokernel(e, D + 1), BAD);
        }
    }

    // Promise 14: "BAD when .. e is not 0 .. 3"

    private static void nextCokernelOfNoExpression() {
        for (int e : NO_EXPRESSIONS) {
            for (int from : new int[] {LEAST, -1, 0, 126, 127, GREATEST}) {
                refused("14: nextCokernel(" + e + ", " + from + ")", BAD, y -> y.nextCokernel(e, from));
            }
        }
    }

    // Promise 15: "The cubes of expression e that hold a cube, by their places"; Terms: "0 the least"

    private static void holdingFromTheLeastPlaceToTheGreatest() {
        for (int e = 0; e < 4; e++) {
            KernelDesk x = new KernelDesk();
            due("15: holding(" + e + ", 0), empty", x.holding(e, 0), 0);
            due("15: holding(" + e + ", 127), empty", x.holding(e, 127), 0);
            for (int n = 1; n <= 8; n++) {
                due("15: put", number(x.put(e, EIGHT[8 - n])), YES);
                due("15: holding(" + e + ", 0), all of " + n, x.holding(e, 0), (1 << n) - 1);
                due("15: holding(" + e + ", 127), the last of " + n, x.holding(e, 127), 1 << (n - 1));
            }
            due("15: take", number(x.take(e, 127)), YES);
            due("15: holding(" + e + ", 127), none", x.holding(e, 127), 0);
            due("15: holding(" + e + ", 0), all seven", x.holding(e, 0), 127);
            dueCubes("15: holding changes nothing", x, e, 0, 5, 9, 31, 32, 64, 126);
            fill(x, e, A, B, C, D, E, F, G, 0);
            for (int l = 0; l < 7; l++) {
                due("15: the one of the letter " + l, x.holding(e, 1 << l), 1 << (l + 1));
            }
            fill(x, e, MOST);
            for (int i = 0; i < 8; i++) {
                due("15: holds itself and below 127", x.holding(e, MOST[i]), 1 << i | 128);
            }
            due("15: clear", number(x.clear(e)), YES);
            due("15: holding(" + e + ", 0), cleared", x.holding(e, 0), 0);
        }
    }

    // Promise 15: "BAD when e is not 0 .. 3"

    private static void holdingOfNoExpression() {
        for (int e : NO_EXPRESSIONS) {
            for (int cube : new int[] {LEAST, -1, 0, 5, 127, 128, GREATEST}) {
                refused("15: holding(" + e + ", " + cube + ")", BAD, y -> y.holding(e, cube));
            }
        }
    }

    // Promise 15: "BAD when .. cube is not 0 .. 127"

    private static void holdingNoCube() {
        for (int cube : NO_CUBES) {
            for (int i = 0; i < 4; i++) {
                int e = i;
                refused("15: holding(" + e + ", " + cube + ")", BAD, y -> y.holding(e, cube));
            }
        }
    }

    // Promise 16: "minus that of the quotient and the rest of e divided by g and of g (all four
    // counted cube by cube)"

    private static void savingCountsAllFour() {
        KernelDesk x = desk(WHOLE, new int[] {A, B});
        due("16: 11 - 2 - 3 - 2", x.saving(0, 1), 4);
        // (abcde + abcd)(1 + f + g + fg)
        fill(x, 0, 31, 15, 31 | F, 15 | F, 31 | G, 15 | G, 127, 15 | F | G);
        fill(x, 1, 31, 15);
        due("16: 44 - 4 - 0 - 9", x.saving(0, 1), 31);
    }

    private static void savingOfSameOrEmpty() {
        for (int e = 0; e < 4; e++) {
            int g = (e + 1) % 4;
            KernelDesk x = new KernelDesk();
            fill(x, g, MOST);
            due("16: an empty one by the most letters", x.saving(e, g), -49);
            fill(x, e, EIGHT);
            due("16: an empty quotient", x.saving(e, g), -49);
            due("16: by itself", x.saving(e, e), 0);
            fill(x, g, 0);
            due("16: by 1", x.saving(e, g), 0);
            fill(x, e, 0);
            due("16: 1 by 1", x.saving(e, g), 0);
            fill(x, g, A);
            due("16: one letter more, which is no BAD", x.saving(e, g), -1);
            due("16: clear", number(x.clear(e)), YES);
            fill(x, g, 0);
            due("16: an empty one by 1", x.saving(e, g), 0);
            fill(x, e, 127);
            fill(x, g, 127);
            due("16: all letters by all letters", x.saving(e, g), 0);
        }
    }

    private static void savingChangesNothing() {
        for (int e = 0; e < 4; e++) {
            for (int g = 0; g < 4; g++) {
                KernelDesk x = deskForDivision(e, g, e == g ? WHOLE : new int[] {A, B});
                String before = shown(x);
                due("16: saving(" + e + ", " + g + ")", x.saving(e, g), e == g ? 0 : 4);
                dueState("16: saving(" + e + ", " + g + ")", x, before);
            }
        }
    }

    // Promise 16: "BAD as in divide": e or g is not 0 .. 3

    private static void savingWithNoExpression() {
        for (int bad : NO_EXPRESSIONS) {
            for (int i = 0; i < 4; i++) {
                int good = i;
                refused("16: saving(" + bad + ", " + good + ")", BAD, y -> y.saving(bad, good));
                refused("16: saving(" + good + ", " + bad + ")", BAD, y -> y.saving(good, bad));
            }
            refused("16: saving of twice " + bad, BAD, y -> y.saving(bad, bad));
        }
    }

    // Promise 16: "BAD as in divide": g is empty

    private static void savingByAnEmptyOne() {
        for (int e = 0; e < 4; e++) {
            for (int g = 0; g < 4; g++) {
                KernelDesk x = inState(2);
                due("16: clear", number(x.clear(g)), YES);
                String before = shown(x);
                due("16: saving(" + e + ", " + g + "), g empty", x.saving(e, g), BAD);
                dueState("16: saving(" + e + ", " + g + "), g empty", x, before);
                due("16: clear", number(x.clear(e)), YES);
                due("16: saving(" + e + ", " + g + "), both empty", x.saving(e, g), BAD);
            }
        }
    }

    // What it is: "An object is used for at most 512 calls after it has been made"

    /** After 511 calls: 0 is WHOLE, 1 is a + b, 2 is empty, 3 is the eight. */
    private static KernelDesk afterCalls(int calls) {
        KernelDesk x = new KernelDesk();
        int made = 0;
        for (int cube : WHOLE) {
            x.put(0, cube);
            made++;
        }
        for (int cube : EIGHT) {
            x.put(3, cube);
            made++;
        }
        x.put(1, A);
        x.put(1, B);
        made += 2;
        for (int i = 0; made < calls; i++) {
            // A put of each turn is undone by the take behind it, or refused.
            switch (i % 6) {
                case 0: x.put(1, C); break;
                case 1: x.take(1, C); break;
                case 2: x.rest(2, 0, 1); break;
                case 3: x.kernels(0); break;
                case 4: x.put(3, 77); break;
                default: x.clear(2); break;
            }
            made++;
        }
        return x;
    }

    private static void dueAsThe512th(String call, int want, Call made) {
        // 16 calls and 82 whole turns of six are 508: three more, of which the last is a rest.
        KernelDesk x = afterCalls(CALLS - 1);
        due("the 512th call, " + call, made.on(x), want);
    }

    private static void the512thCall() {
        dueAsThe512th("put", YES, x -> number(x.put(0, 127)));
        dueAsThe512th("put to eight", NO, x -> number(x.put(3, 77)));
        dueAsThe512th("take", YES, x -> number(x.take(0, G)));
        dueAsThe512th("take of what is not in it", NO, x -> number(x.take(1, C)));
        dueAsThe512th("clear", YES, x -> number(x.clear(3)));
        dueAsThe512th("size", 8, x -> x.size(3));
        dueAsThe512th("size of the rest", 2, x -> x.size(2));
        dueAsThe512th("cube", 127, x -> x.cube(3, 7));
        dueAsThe512th("divideBy", 3, x -> x.divideBy(2, 0, A));
        dueAsThe512th("divide", 2, x -> x.divide(2, 0, 1));
        dueAsThe512th("rest", 2, x -> x.rest(0, 0, 1));
        dueAsThe512th("common", 0, x -> x.common(0));
        dueAsThe512th("free", YES, x -> number(x.free(0)));
        dueAsThe512th("kernels", 4, x -> x.kernels(0));
        dueAsThe512th("cokernels", 5, x -> x.cokernels(0));
        dueAsThe512th("nextCokernel", C, x -> x.nextCokernel(0, 3));
        dueAsThe512th("holding", 1 | 4 | 16, x -> x.holding(0, A));
        dueAsThe512th("saving", 4, x -> x.saving(0, 1));
    }

    // What it is: "what later calls answer is free"; LANGUAGE.md, rule 7: none may throw, though

    private static void callsAfterThe512th() {
        KernelDesk x = afterCalls(CALLS);
        int[] arguments = {LEAST, -1, 0, 1, 2, 3, 4, 5, 127, 128, GREATEST};
        for (int a : arguments) {
            for (int b : arguments) {
                for (int c : arguments) {
                    x.put(a, b);
                    x.divideBy(a, b, c);
                    x.divide(a, b, c);
                    x.rest(a, b, c);
                    x.put(b, c);
                }
                twoArgumentCalls(x, a, b);
            }
            oneArgumentCalls(x, a);
        }
    }

    private static void oneArgumentCalls(KernelDesk x, int a) {
        x.size(a);
        x.common(a);
        x.free(a);
        x.kernels(a);
        x.cokernels(a);
        x.clear(a);
    }

    private static void twoArgumentCalls(KernelDesk x, int a, int b) {
        x.put(a, b);
        x.cube(a, b);
        x.nextCokernel(a, b);
        x.holding(a, b);
        x.saving(a, b);
        x.take(a, b);
    }

    // LANGUAGE.md, rule 7: "No call may ever throw or fail to end, for any arguments in any state"

    private static void noCallThrowsOrFailsToEnd() {
        int[] arguments = {
            LEAST, LEAST + 1, -1 << 29, -129, -128, -9, -8, -2, -1, 0, 1, 2, 3, 4, 5, 7, 8, 9, 31, 32,
            126, 127, 128, 255, 256, 1 << 29, (1 << 29) + 1, 1 << 30, GREATEST - 1, GREATEST,
        };
        for (int state = 0; state < STATES; state++) {
            for (int a : arguments) {
                oneArgumentCalls(inState(state), a);
                for (int b : arguments) {
                    twoArgumentCalls(inState(state), a, b);
                    for (int c : arguments) {
                        KernelDesk x = inState(state);
                        x.divideBy(a, b, c);
                        x.divide(b, c, a);
                        x.rest(c, a, b);
                        dueSound("after calls with " + a + ", " + b + ", " + c, x);
                    }
                }
            }
        }
    }

    /** At most eight cubes, each one, rising. */
    private static void dueSound(String what, KernelDesk x) {
        for (int e = 0; e < 4; e++) {
            int size = x.size(e);
            due(what + ": at most eight in " + e, number(size >= 0 && size <= 8), YES);
            int before = -1;
            for (int i = 0; i < size; i++) {
                int cube = x.cube(e, i);
                due(what + ": a cube above " + before + " in " + e, number(cube > before && cube <= 127), YES);
                before = cube;
            }
        }
    }
}
