public final class ShapeRing {
    public static final int BAD_ARG = -1;
    public static final int FULL = -2;
    public static final int NONE = -4;

    private static final int GREATEST_SIZE = 9;
    private static final int SHAPES = 53;
    private static final int COEFFICIENTS = 106;
    private static final int NO_SHAPE = -1;
    private static final int FIRST = 0;
    private static final int SECOND = 1;

    // The shapes are numbered from 0, so that loops over them meet no codes between shapes.
    private final int[] rowA = new int[SHAPES];
    private final int[] rowB = new int[SHAPES];
    private final int[] rowC = new int[SHAPES];
    private final int[] sizes = new int[SHAPES];
    private final int[] codes = new int[SHAPES];

    // Element 0 fills the first half, element 1 the second.
    private final int[] coefficients = new int[COEFFICIENTS];

    // A product is gathered here, because its factors are read until it is complete.
    private final int[] result = new int[SHAPES];

    public ShapeRing() {
        int s = 0;
        for (int a = 0; a <= GREATEST_SIZE; a++) {
            for (int b = 0; b <= a; b++) {
                for (int c = 0; c <= b; c++) {
                    if (a + b + c <= GREATEST_SIZE && s < SHAPES) {
                        rowA[s] = a;
                        rowB[s] = b;
                        rowC[s] = c;
                        sizes[s] = a + b + c;
                        codes[s] = a + 10 * b + 100 * c;
                        s++;
                    }
                }
            }
        }
    }

    public int add(int e, int code, int n) {
        int s = shapeWithCode(code);
        if (isNoElement(e) || s == NO_SHAPE) {
            return BAD_ARG;
        }
        coefficients[e * SHAPES + s] += n;
        return 0;
    }

    public int scale(int e, int n) {
        if (isNoElement(e)) {
            return BAD_ARG;
        }
        for (int s = 0; s < SHAPES; s++) {
            coefficients[e * SHAPES + s] *= n;
        }
        return 0;
    }

    public int combine(int n) {
        for (int s = 0; s < SHAPES; s++) {
            coefficients[s] += n * coefficients[SHAPES + s];
        }
        return 0;
    }

    public int swap() {
        for (int s = 0; s < SHAPES; s++) {
            int kept = coefficients[s];
            coefficients[s] = coefficients[SHAPES + s];
            coefficients[SHAPES + s] = kept;
        }
        return 0;
    }

    public int timesShape(int e, int code) {
        int s = shapeWithCode(code);
        if (isNoElement(e) || s == NO_SHAPE) {
            return BAD_ARG;
        }
        if (isTooGreat(e, sizes[s])) {
            return FULL;
        }
        clearResult();
        gatherTimesShape(e, s, 1);
        storeResult(e);
        return 0;
    }

    public int timesPower(int e, int r) {
        if (isNoElement(e) || r < 1 || r > GREATEST_SIZE) {
            return BAD_ARG;
        }
        if (isTooGreat(e, r)) {
            return FULL;
        }
        clearResult();
        // x^r + y^r + z^r = S(r, 0, 0) - S(r-1, 1, 0) + S(r-2, 1, 1), without what is no shape.
        gatherTimesCode(e, r, 1);
        gatherTimesCode(e, r - 1 + 10, -1);
        gatherTimesCode(e, r - 2 + 110, 1);
        storeResult(e);
        return 0;
    }

    public int product() {
        int top = topSize(SECOND);
        if (top != NONE && isTooGreat(FIRST, top)) {
            return FULL;
        }
        clearResult();
        for (int s = 0; s < SHAPES; s++) {
            gatherTimesShape(FIRST, s, coefficients[SHAPES + s]);
        }
        storeResult(FIRST);
        return 0;
    }

    public int skew(int e, int code) {
        int p = shapeWithCode(code);
        if (isNoElement(e) || p == NO_SHAPE) {
            return BAD_ARG;
        }
        clearResult();
        for (int q = 0; q < SHAPES; q++) {
            for (int r = 0; r < SHAPES; r++) {
                result[q] += productNumber(p, q, r) * coefficients[e * SHAPES + r];
            }
        }
        storeResult(e);
        return 0;
    }

    public int part(int e, int n) {
        if (isNoElement(e) || n < 0 || n > GREATEST_SIZE) {
            return BAD_ARG;
        }
        for (int s = 0; s < SHAPES; s++) {
            if (sizes[s] != n) {
                coefficients[e * SHAPES + s] = 0;
            }
        }
        return 0;
    }

    public int coefficient(int e, int code) {
        int s = shapeWithCode(code);
        if (isNoElement(e) || s == NO_SHAPE) {
            return BAD_ARG;
        }
        return coefficients[e * SHAPES + s];
    }

    public int degree(int e) {
        if (isNoElement(e)) {
            return BAD_ARG;
        }
        return topSize(e);
    }

    public int shapes(int e) {
        if (isNoElement(e)) {
            return BAD_ARG;
        }
        int count = 0;
        for (int s = 0; s < SHAPES; s++) {
            if (coefficients[e * SHAPES + s] != 0) {
                count++;
            }
        }
        return count;
    }

    public int monomial(int e, int i, int j, int k) {
        if (isNoElement(e)) {
            return BAD_ARG;
        }
        return numberBefore(e, i, j, k);
    }

    public int value(int e, int x, int y, int z) {
        if (isNoElement(e)) {
            return BAD_ARG;
        }
        int sum = 0;
        int powerX = 1;
        for (int i = 0; i <= GREATEST_SIZE; i++) {
            int powerXY = powerX;
            for (int j = 0; i + j <= GREATEST_SIZE; j++) {
                int powerXYZ = powerXY;
                for (int k = 0; i + j + k <= GREATEST_SIZE; k++) {
                    sum += numberBefore(e, i, j, k) * powerXYZ;
                    powerXYZ *= z;
                }
                powerXY *= y;
            }
            powerX *= x;
        }
        return sum;
    }

    public int inner() {
        int sum = 0;
        for (int s = 0; s < SHAPES; s++) {
            sum += coefficients[s] * coefficients[SHAPES + s];
        }
        return sum;
    }

    public int number(int p, int q, int r) {
        int shapeP = shapeWithCode(p);
        int shapeQ = shapeWithCode(q);
        int shapeR = shapeWithCode(r);
        if (shapeP == NO_SHAPE || shapeQ == NO_SHAPE || shapeR == NO_SHAPE) {
            return BAD_ARG;
        }
        return productNumber(shapeP, shapeQ, shapeR);
    }

    private boolean isNoElement(int e) {
        return e != FIRST && e != SECOND;
    }

    private int shapeWithCode(int code) {
        for (int s = 0; s < SHAPES; s++) {
            if (codes[s] == code) {
                return s;
            }
        }
        return NO_SHAPE;
    }

    private int topSize(int e) {
        int top = NONE;
        for (int s = 0; s < SHAPES; s++) {
            if (coefficients[e * SHAPES + s] != 0 && sizes[s] > top) {
                top = sizes[s];
            }
        }
        return top;
    }

    private boolean isTooGreat(int e, int more) {
        int top = topSize(e);
        return top != NONE && top + more > GREATEST_SIZE;
    }

    private void clearResult() {
        for (int s = 0; s < SHAPES; s++) {
            result[s] = 0;
        }
    }

    private void storeResult(int e) {
        for (int s = 0; s < SHAPES; s++) {
            coefficients[e * SHAPES + s] = result[s];
        }
    }

    private void gatherTimesCode(int e, int code, int n) {
        int s = shapeWithCode(code);
        if (s != NO_SHAPE) {
            gatherTimesShape(e, s, n);
        }
    }

    private void gatherTimesShape(int e, int p, int n) {
        for (int q = 0; q < SHAPES; q++) {
            int factor = n * coefficients[e * SHAPES + q];
            // Most factors are 0, and a whole product would be slow without passing them over.
            if (factor != 0) {
                for (int r = 0; r < SHAPES; r++) {
                    result[r] += factor * productNumber(p, q, r);
                }
            }
        }
    }

    // Let A(u, v, w) be x^u y^v z^w and its five exchanges, each with its sign. Then S(Q) times
    // A(2, 1, 0) is A(Q + (2, 1, 0)), and S(P) times that is the sum of A(Q + (2, 1, 0) + m) over
    // the fillings of P, m being how often each number is put. So S(R) has a part from each order
    // of the exponents R + (2, 1, 0), less where the order is odd.
    private int productNumber(int p, int q, int r) {
        if (sizes[p] + sizes[q] != sizes[r]) {
            return 0;
        }
        int u = rowA[r] + 2;
        int v = rowB[r] + 1;
        int w = rowC[r];
        int i = rowA[q] + 2;
        int j = rowB[q] + 1;
        int k = rowC[q];
        int even = fillings(p, u - i, v - j, w - k)
            + fillings(p, v - i, w - j, u - k)
            + fillings(p, w - i, u - j, v - k);
        int odd = fillings(p, v - i, u - j, w - k)
            + fillings(p, u - i, w - j, v - k)
            + fillings(p, w - i, v - j, u - k);
        return even - odd;
    }

    private int numberBefore(int e, int i, int j, int k) {
        int sum = 0;
        for (int s = 0; s < SHAPES; s++) {
            sum += coefficients[e * SHAPES + s] * fillings(s, i, j, k);
        }
        return sum;
    }

    // How many fillings of shape s put i times 1, j times 2 and k times 3. The cells with 1 lie in
    // the first row, those with 1 or 2 in the first two, so their number in the second row tells
    // the whole filling.
    private int fillings(int s, int i, int j, int k) {
        // Taken away one by one, because a sum of great exponents could wrap to the size.
        int left = sizes[s] - i;
        if (i < 0 || j < 0 || k < 0 || j > left || k != left - j) {
            return 0;
        }
        int count = 0;
        for (int second = rowC[s]; second <= rowB[s]; second++) {
            int first = i + j - second;
            if (first >= rowB[s] && first <= rowA[s] && second <= i && i <= first) {
                count++;
            }
        }
        return count;
    }
}
