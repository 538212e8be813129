import java.util.ArrayList;
import java.util.List;

// The document's words taken literally: elements are polynomials, held as the numbers before their
// monomials; S(shape) is found by trying all ways to put numbers into its cells. It shares no way
// of reckoning with ShapeRing.
final class Model {
    static final int SIDE = 10;
    static final int GREATEST_SIZE = 9;
    static final int[] CODES = allCodes();
    private static final int[][] SHAPE_POLYNOMIALS = allShapePolynomials();
    private static final int[][] SHAPE_PRODUCTS = new int[CODES.length * CODES.length][];

    private int[] zero = new int[SIDE * SIDE * SIDE];
    private int[] one = new int[SIDE * SIDE * SIDE];

    static int at(int i, int j, int k) {
        return (i * SIDE + j) * SIDE + k;
    }

    static int sizeOf(int code) {
        return code % 10 + code / 10 % 10 + code / 100;
    }

    static int indexOf(int code) {
        for (int s = 0; s < CODES.length; s++) {
            if (CODES[s] == code) {
                return s;
            }
        }
        return -1;
    }

    // In rising order of size, and of the rows within a size.
    private static int[] allCodes() {
        List<Integer> codes = new ArrayList<>();
        for (int size = 0; size <= GREATEST_SIZE; size++) {
            for (int a = 0; a <= size; a++) {
                for (int b = 0; a + b <= size; b++) {
                    int c = size - a - b;
                    if (a >= b && b >= c) {
                        codes.add(a + 10 * b + 100 * c);
                    }
                }
            }
        }
        return codes.stream().mapToInt(Integer::intValue).toArray();
    }

    private static int[][] allShapePolynomials() {
        int[][] all = new int[CODES.length][];
        for (int s = 0; s < CODES.length; s++) {
            all[s] = shapePolynomial(CODES[s]);
        }
        return all;
    }

    private static int[] shapePolynomial(int code) {
        int[] rows = {code % 10, code / 10 % 10, code / 100};
        int[] sum = new int[SIDE * SIDE * SIDE];
        int ways = 1;
        for (int cell = 0; cell < sizeOf(code); cell++) {
            ways *= 3;
        }
        for (int way = 0; way < ways; way++) {
            countFilling(rows, way, sum);
        }
        return sum;
    }

    // The digits of way, to the base 3, are what stands in the cells, row after row.
    private static void countFilling(int[] rows, int way, int[] sum) {
        int[][] cells = new int[3][SIDE];
        int[] put = new int[4];
        int rest = way;
        for (int row = 0; row < 3; row++) {
            for (int column = 0; column < rows[row]; column++) {
                int n = rest % 3 + 1;
                rest /= 3;
                if (column > 0 && cells[row][column - 1] > n) {
                    return;
                }
                if (row > 0 && cells[row - 1][column] >= n) {
                    return;
                }
                cells[row][column] = n;
                put[n]++;
            }
        }
        sum[at(put[1], put[2], put[3])]++;
    }

    private static int[] times(int[] f, int[] g) {
        int[] sum = new int[f.length];
        for (int m = 0; m < f.length; m++) {
            for (int n = 0; f[m] != 0 && n < g.length; n++) {
                if (g[n] != 0) {
                    // The exponents never reach 10 together, so the places add like them.
                    sum[m + n] += f[m] * g[n];
                }
            }
        }
        return sum;
    }

    // The coefficients, in the order of CODES: of each size, the shape whose rows come last in
    // order is the only one left with its own rows as exponents.
    static int[] coefficientsOf(int[] f) {
        int[] rest = f.clone();
        int[] found = new int[CODES.length];
        for (int s = CODES.length - 1; s >= 0; s--) {
            int code = CODES[s];
            found[s] = rest[at(code % 10, code / 10 % 10, code / 100)];
            for (int m = 0; m < rest.length; m++) {
                rest[m] -= found[s] * SHAPE_POLYNOMIALS[s][m];
            }
        }
        for (int m = 0; m < rest.length; m++) {
            if (rest[m] != 0) {
                throw new IllegalStateException("the model is wrong: not a sum of shapes");
            }
        }
        return found;
    }

    private static int[] polynomialOf(int[] coefficients) {
        int[] sum = new int[SIDE * SIDE * SIDE];
        for (int s = 0; s < CODES.length; s++) {
            for (int m = 0; m < sum.length; m++) {
                sum[m] += coefficients[s] * SHAPE_POLYNOMIALS[s][m];
            }
        }
        return sum;
    }

    private static int[] productOfShapes(int p, int q) {
        int at = p * CODES.length + q;
        if (SHAPE_PRODUCTS[at] == null) {
            SHAPE_PRODUCTS[at] = coefficientsOf(times(SHAPE_POLYNOMIALS[p], SHAPE_POLYNOMIALS[q]));
        }
        return SHAPE_PRODUCTS[at];
    }

    private static int shapeNumber(int p, int q, int r) {
        if (sizeOf(CODES[p]) + sizeOf(CODES[q]) > GREATEST_SIZE) {
            return 0;
        }
        return productOfShapes(p, q)[r];
    }

    private int[] get(int e) {
        return e == 0 ? zero : one;
    }

    private void set(int e, int[] f) {
        if (e == 0) {
            zero = f;
        } else {
            one = f;
        }
    }

    private static boolean isBad(int e) {
        return e != 0 && e != 1;
    }

    private static boolean isBad(int e, int code) {
        return isBad(e) || indexOf(code) < 0;
    }

    int add(int e, int code, int n) {
        if (isBad(e, code)) {
            return -1;
        }
        for (int m = 0; m < zero.length; m++) {
            get(e)[m] += n * SHAPE_POLYNOMIALS[indexOf(code)][m];
        }
        return 0;
    }

    int scale(int e, int n) {
        if (isBad(e)) {
            return -1;
        }
        for (int m = 0; m < zero.length; m++) {
            get(e)[m] *= n;
        }
        return 0;
    }

    int combine(int n) {
        for (int m = 0; m < zero.length; m++) {
            zero[m] += n * one[m];
        }
        return 0;
    }

    int swap() {
        int[] kept = zero;
        zero = one;
        one = kept;
        return 0;
    }

    private int multiply(int e, int[] g, int sizeOfG) {
        if (degree(e) != -4 && degree(e) + sizeOfG > GREATEST_SIZE) {
            return -2;
        }
        set(e, times(get(e), g));
        return 0;
    }

    int timesShape(int e, int code) {
        if (isBad(e, code)) {
            return -1;
        }
        return multiply(e, SHAPE_POLYNOMIALS[indexOf(code)], sizeOf(code));
    }

    int timesPower(int e, int r) {
        if (isBad(e) || r < 1 || r > 9) {
            return -1;
        }
        int[] sum = new int[zero.length];
        sum[at(r, 0, 0)] = 1;
        sum[at(0, r, 0)] = 1;
        sum[at(0, 0, r)] = 1;
        return multiply(e, sum, r);
    }

    int product() {
        if (degree(1) == -4) {
            zero = new int[zero.length];
            return 0;
        }
        return multiply(0, one, degree(1));
    }

    int skew(int e, int code) {
        if (isBad(e, code)) {
            return -1;
        }
        int[] old = coefficientsOf(get(e));
        int[] made = new int[CODES.length];
        for (int q = 0; q < CODES.length; q++) {
            for (int r = 0; r < CODES.length; r++) {
                made[q] += shapeNumber(indexOf(code), q, r) * old[r];
            }
        }
        set(e, polynomialOf(made));
        return 0;
    }

    int part(int e, int n) {
        if (isBad(e) || n < 0 || n > 9) {
            return -1;
        }
        int[] made = new int[zero.length];
        for (int i = 0; i <= n; i++) {
            for (int j = 0; i + j <= n; j++) {
                made[at(i, j, n - i - j)] = get(e)[at(i, j, n - i - j)];
            }
        }
        set(e, made);
        return 0;
    }

    int coefficient(int e, int code) {
        return isBad(e, code) ? -1 : coefficientsOf(get(e))[indexOf(code)];
    }

    int degree(int e) {
        if (isBad(e)) {
            return -1;
        }
        int top = -4;
        for (int i = 0; i < SIDE; i++) {
            for (int j = 0; j < SIDE; j++) {
                for (int k = 0; k < SIDE; k++) {
                    if (get(e)[at(i, j, k)] != 0) {
                        top = Math.max(top, i + j + k);
                    }
                }
            }
        }
        return top;
    }

    int shapes(int e) {
        if (isBad(e)) {
            return -1;
        }
        int count = 0;
        for (int n : coefficientsOf(get(e))) {
            count += n != 0 ? 1 : 0;
        }
        return count;
    }

    int monomial(int e, int i, int j, int k) {
        if (isBad(e)) {
            return -1;
        }
        boolean inside = i >= 0 && i < SIDE && j >= 0 && j < SIDE && k >= 0 && k < SIDE;
        return inside ? get(e)[at(i, j, k)] : 0;
    }

    int value(int e, int x, int y, int z) {
        if (isBad(e)) {
            return -1;
        }
        int sum = 0;
        for (int i = 0; i < SIDE; i++) {
            for (int j = 0; j < SIDE; j++) {
                for (int k = 0; k < SIDE; k++) {
                    sum += get(e)[at(i, j, k)] * power(x, i) * power(y, j) * power(z, k);
                }
            }
        }
        return sum;
    }

    private static int power(int base, int exponent) {
        int power = 1;
        for (int n = 0; n < exponent; n++) {
            power *= base;
        }
        return power;
    }

    int inner() {
        int[] first = coefficientsOf(zero);
        int[] second = coefficientsOf(one);
        int sum = 0;
        for (int s = 0; s < CODES.length; s++) {
            sum += first[s] * second[s];
        }
        return sum;
    }

    int number(int p, int q, int r) {
        if (indexOf(p) < 0 || indexOf(q) < 0 || indexOf(r) < 0) {
            return -1;
        }
        return shapeNumber(indexOf(p), indexOf(q), indexOf(r));
    }
}
