import java.util.ArrayList;
import java.util.HashSet;
import java.util.List;
import java.util.Set;
import java.util.TreeSet;

/**
 * Long runs of calls, each answer and the whole state compared with a model that copies the
 * document's terms word by word. The runs are always the same ones.
 */
public final class KernelDeskAgainstModel {
    private static final int RUNS = 6000;
    private static final int CALLS = 512;
    private static final int BAD = -1;
    private static final int[] EDGES = {-1, 4, 7, 8, 127, 128, 1000, Integer.MIN_VALUE, Integer.MAX_VALUE};

    private static int wrong = 0;
    private static long seed = 20261115L;

    private final KernelDesk desk = new KernelDesk();
    private final List<Set<Integer>> model = new ArrayList<>();
    private final int run;
    private int calls = 0;

    private KernelDeskAgainstModel(int run) {
        this.run = run;
        for (int e = 0; e < 4; e++) {
            model.add(new TreeSet<>());
        }
    }

    public static void main(String[] args) {
        for (int run = 0; run < RUNS && wrong < 20; run++) {
            new KernelDeskAgainstModel(run).play();
        }
        System.out.println(wrong == 0 ? "all answers are as due" : wrong + " answers are not as due");
        if (wrong != 0) {
            System.exit(1);
        }
    }

    private static int below(int n) {
        seed = seed * 6364136223846793005L + 1442695040888963407L;
        return (int) ((seed >>> 33) % n);
    }

    private void play() {
        // Few letters make quotients that are not empty likely.
        int letters = 2 + below(6);
        if (run % 2 == 0) {
            putProduct(letters);
        }
        // A step and the look at the whole state behind it take at most 41 calls.
        while (calls + 41 <= CALLS) {
            int steps = run % 3 == 0 ? 1 : 6;
            for (int s = 0; s < steps && calls + 41 <= CALLS; s++) {
                step(letters);
            }
            compareState();
        }
    }

    private void putProduct(int letters) {
        int split = below(1 << letters);
        for (int i = 0; i < 2; i++) {
            put(1, below(1 << letters) & split);
        }
        for (int i = 0; i < 4; i++) {
            put(2, below(1 << letters) & ~split);
        }
        for (int g : new TreeSet<>(model.get(1))) {
            for (int q : new TreeSet<>(model.get(2))) {
                put(0, g | q);
            }
        }
    }

    private static int anExpression() {
        return below(25) == 0 ? EDGES[below(EDGES.length)] : below(4);
    }

    private static int aCube(int letters) {
        return below(25) == 0 ? EDGES[below(EDGES.length)] : below(1 << letters);
    }

    private void step(int letters) {
        int e = anExpression();
        int f = anExpression();
        int g = anExpression();
        int cube = aCube(letters);
        switch (below(24)) {
            case 0: take(e, cube); break;
            case 1: if (below(6) == 0) clear(e); break;
            case 2: due("size(" + e + ")", desk.size(e), isExpression(e) ? model.get(e).size() : BAD); break;
            case 3: cube(e, aCube(3)); break;
            case 4: divideBy(e, f, cube & below(128)); break;
            case 5: divideBy(e, f, cube); break;
            case 6: case 7: divide(e, f, g); break;
            case 8: case 9: rest(e, f, g); break;
            case 10: common(e); break;
            case 11: due("free(" + e + ")", desk.free(e) ? 1 : 0, isExpression(e) && isFree(model.get(e)) ? 1 : 0); break;
            case 12: kernels(e); break;
            case 13: cokernels(e); break;
            case 14: nextCokernel(e, cube); break;
            case 15: holding(e, cube & below(128)); break;
            case 16: holding(e, cube); break;
            case 17: case 18: saving(e, g); break;
            default: put(e, cube); break;
        }
    }

    private void due(String call, int got, int want) {
        calls++;
        if (got != want) {
            wrong++;
            System.out.println("run " + run + ": " + call + " answered " + got + ", due is " + want);
        }
    }

    private void compareState() {
        for (int e = 0; e < 4; e++) {
            List<Integer> cubes = new ArrayList<>(model.get(e));
            due("size(" + e + ")", desk.size(e), cubes.size());
            for (int i = 0; i < cubes.size(); i++) {
                due("cube(" + e + ", " + i + ")", desk.cube(e, i), cubes.get(i));
            }
        }
    }

    private void put(int e, int cube) {
        boolean can = isExpression(e) && isCube(cube)
                && (model.get(e).contains(cube) || model.get(e).size() < 8);
        if (can) {
            model.get(e).add(cube);
        }
        due("put(" + e + ", " + cube + ")", desk.put(e, cube) ? 1 : 0, can ? 1 : 0);
    }

    private void take(int e, int cube) {
        boolean can = isExpression(e) && model.get(e).remove(cube);
        due("take(" + e + ", " + cube + ")", desk.take(e, cube) ? 1 : 0, can ? 1 : 0);
    }

    private void clear(int e) {
        if (isExpression(e)) {
            model.get(e).clear();
        }
        due("clear(" + e + ")", desk.clear(e) ? 1 : 0, isExpression(e) ? 1 : 0);
    }

    private void cube(int e, int i) {
        int want = BAD;
        if (isExpression(e) && i >= 0 && i < model.get(e).size()) {
            want = new ArrayList<>(model.get(e)).get(i);
        }
        due("cube(" + e + ", " + i + ")", desk.cube(e, i), want);
    }

    private void divideBy(int e, int f, int cube) {
        int want = BAD;
        if (isExpression(e) && isExpression(f) && isCube(cube)) {
            model.set(e, quotient(model.get(f), cube));
            want = model.get(e).size();
        }
        due("divideBy(" + e + ", " + f + ", " + cube + ")", desk.divideBy(e, f, cube), want);
    }

    private void divide(int e, int f, int g) {
        int want = BAD;
        if (isExpression(e) && canDivide(f, g)) {
            model.set(e, quotient(model.get(f), model.get(g)));
            want = model.get(e).size();
        }
        due("divide(" + e + ", " + f + ", " + g + ")", desk.divide(e, f, g), want);
    }

    private void rest(int e, int f, int g) {
        int want = BAD;
        if (isExpression(e) && canDivide(f, g)) {
            model.set(e, restOf(model.get(f), model.get(g)));
            want = model.get(e).size();
        }
        due("rest(" + e + ", " + f + ", " + g + ")", desk.rest(e, f, g), want);
    }

    private void common(int e) {
        int want = BAD;
        if (isExpression(e) && !model.get(e).isEmpty()) {
            want = 0;
            for (int l = 0; l < 7; l++) {
                want += inAll(model.get(e), l) ? 1 << l : 0;
            }
        }
        due("common(" + e + ")", desk.common(e), want);
    }

    private void kernels(int e) {
        int want = BAD;
        if (isExpression(e)) {
            Set<Set<Integer>> kernels = new HashSet<>();
            for (int c : cokernelsOf(model.get(e))) {
                kernels.add(quotient(model.get(e), c));
            }
            want = kernels.size();
        }
        due("kernels(" + e + ")", desk.kernels(e), want);
    }

    private void cokernels(int e) {
        int want = isExpression(e) ? cokernelsOf(model.get(e)).size() : BAD;
        due("cokernels(" + e + ")", desk.cokernels(e), want);
    }

    private void nextCokernel(int e, int from) {
        int want = BAD;
        if (isExpression(e)) {
            Integer next = cokernelsOf(model.get(e)).ceiling(from);
            want = next == null ? BAD : next;
        }
        due("nextCokernel(" + e + ", " + from + ")", desk.nextCokernel(e, from), want);
    }

    private void holding(int e, int cube) {
        int want = BAD;
        if (isExpression(e) && isCube(cube)) {
            want = 0;
            int place = 1;
            for (int whole : model.get(e)) {
                want += (cube & ~whole) == 0 ? place : 0;
                place *= 2;
            }
        }
        due("holding(" + e + ", " + cube + ")", desk.holding(e, cube), want);
    }

    private void saving(int e, int g) {
        int want = BAD;
        if (canDivide(e, g)) {
            want = lettersOf(model.get(e))
                    - lettersOf(quotient(model.get(e), model.get(g)))
                    - lettersOf(restOf(model.get(e), model.get(g)))
                    - lettersOf(model.get(g));
        }
        due("saving(" + e + ", " + g + ")", desk.saving(e, g), want);
    }

    private static boolean isExpression(int e) {
        return 0 <= e && e <= 3;
    }

    private static boolean isCube(int cube) {
        return 0 <= cube && cube <= 127;
    }

    private boolean canDivide(int f, int g) {
        return isExpression(f) && isExpression(g) && !model.get(g).isEmpty();
    }

    private static Set<Integer> quotient(Set<Integer> f, int cube) {
        Set<Integer> result = new TreeSet<>();
        for (int whole : f) {
            if ((cube & ~whole) == 0) {
                result.add(whole & ~cube);
            }
        }
        return result;
    }

    private static Set<Integer> quotient(Set<Integer> f, Set<Integer> g) {
        Set<Integer> result = new TreeSet<>();
        for (int cube = 0; cube <= 127; cube++) {
            result.add(cube);
        }
        int lettersOfG = 0;
        for (int cube : g) {
            result.retainAll(quotient(f, cube));
            lettersOfG |= cube;
        }
        Set<Integer> apart = new TreeSet<>();
        for (int cube : result) {
            if ((cube & lettersOfG) == 0) {
                apart.add(cube);
            }
        }
        return apart;
    }

    private static Set<Integer> restOf(Set<Integer> f, Set<Integer> g) {
        Set<Integer> result = new TreeSet<>(f);
        for (int part : quotient(f, g)) {
            for (int cube : g) {
                result.remove(part | cube);
            }
        }
        return result;
    }

    private static boolean inAll(Set<Integer> f, int letter) {
        for (int cube : f) {
            if ((cube >> letter & 1) == 0) {
                return false;
            }
        }
        return true;
    }

    private static boolean isFree(Set<Integer> f) {
        for (int l = 0; l < 7; l++) {
            if (inAll(f, l)) {
                return false;
            }
        }
        return f.size() >= 2;
    }

    private static TreeSet<Integer> cokernelsOf(Set<Integer> f) {
        TreeSet<Integer> result = new TreeSet<>();
        for (int c = 0; c <= 127; c++) {
            if (isFree(quotient(f, c))) {
                result.add(c);
            }
        }
        return result;
    }

    private static int lettersOf(Set<Integer> f) {
        int count = 0;
        for (int cube : f) {
            count += Integer.bitCount(cube);
        }
        return count;
    }
}
