// The sentences of promises 11 to 17 that name a boundary case, a test for each.
public final class AnswersEdgesTest {
    private static final int LEAST = Rings.LEAST;
    private static final int GREATEST = Rings.GREATEST;
    private static final int BAD = ShapeRing.BAD_ARG;
    private static final int NONE = ShapeRing.NONE;

    private final Check check = new Check();
    private final Rings rings = new Rings(check);

    public static void main(String[] args) {
        AnswersEdgesTest test = new AnswersEdgesTest();
        test.questionsChangeNothing();
        test.coefficientOfZero();
        test.coefficientLikeARefusal();
        test.degreeOfZero();
        test.shapesFromNoneToAll();
        test.monomialBelowZero();
        test.monomialAboveNine();
        test.monomialThatWraps();
        test.valueAtZero();
        test.valueAtTheEnds();
        test.valueOfZero();
        test.innerOfZero();
        test.innerOfAll();
        test.numberRefused();
        test.numberOfUnequalSizes();
        test.numberWhateverTheElements();
        test.check.end("AnswersEdgesTest");
    }

    private void questionsChangeNothing() {
        rings.dueUnchanged("coefficient", ring -> ring.coefficient(0, 12),
            Rings.denseCoefficient(0, Model.indexOf(12)));
        rings.dueUnchanged("degree", ring -> ring.degree(1), 9);
        rings.dueUnchanged("shapes", ring -> ring.shapes(1), 53);
        Model model = Rings.denseModel();
        rings.dueUnchanged("monomial", ring -> ring.monomial(0, 2, 3, 4), model.monomial(0, 2, 3, 4));
        rings.dueUnchanged("value", ring -> ring.value(0, 2, 3, 4), model.value(0, 2, 3, 4));
        rings.dueUnchanged("inner", ShapeRing::inner, model.inner());
        rings.dueUnchanged("number", ring -> ring.number(12, 12, 123), 2);
    }

    // Promise 11: "Element e's coefficient for the shape with this code."
    private void coefficientOfZero() {
        ShapeRing ring = Rings.of(12, 0, 12, 1);
        for (int code : Model.CODES) {
            check.due("0: coefficient(0, " + code + ")", ring.coefficient(0, code), 0);
            check.due("coefficient(1, " + code + ")", ring.coefficient(1, code), code == 12 ? 1 : 0);
        }
        ShapeRing ends = Rings.of(0, LEAST, 333, GREATEST);
        check.due("the least", ends.coefficient(0, 0), LEAST);
        check.due("the greatest", ends.coefficient(1, 333), GREATEST);
    }

    // A coefficient may be the same number as the code of a refusal, and is a coefficient still.
    private void coefficientLikeARefusal() {
        for (int n = -5; n <= 0; n++) {
            ShapeRing ring = Rings.of(2, n, 9, n);
            check.due("coefficient(0, 2)", ring.coefficient(0, 2), n);
            check.due("monomial(0, 1, 1, 0)", ring.monomial(0, 1, 1, 0), n);
            check.due("value(1, 0, 0, 1)", ring.value(1, 0, 0, 1), n);
            check.due("degree(0)", ring.degree(0), n == 0 ? NONE : 2);
            check.due("degree(1)", ring.degree(1), n == 0 ? NONE : 9);
        }
    }

    // Promise 12: "The degree of element e; NONE if it is 0."
    private void degreeOfZero() {
        ShapeRing ring = Rings.of(0, 1, 333, LEAST);
        check.due("a number has degree 0", ring.degree(0), 0);
        check.due("the greatest degree", ring.degree(1), 9);
        ring.add(0, 0, -1);
        check.due("0 has none", ring.degree(0), NONE);
        check.due("0 has none, the other one has", ring.degree(1), 9);
        ring.scale(1, 2);
        check.due("0 by wrapping has none", ring.degree(1), NONE);
        ring.add(1, 333, -1);
        check.due("below 0 is not 0", ring.degree(1), 9);
        ring.add(1, 9, 1);
        check.due("a sum of coefficients of 0 is not 0", ring.degree(1), 9);
    }

    // Promise 13: "How many shapes have a coefficient other than 0 in element e."
    private void shapesFromNoneToAll() {
        ShapeRing ring = new ShapeRing();
        int count = 0;
        for (int code : Model.CODES) {
            check.due("shapes(0)", ring.shapes(0), count);
            ring.add(0, code, count % 2 == 0 ? LEAST : -1);
            count++;
        }
        check.due("all", ring.shapes(0), 53);
        check.due("none", ring.shapes(1), 0);
        ring.scale(0, 2);
        check.due("every other one wrapped to 0", ring.shapes(0), 26);
        ring.swap();
        check.due("none", ring.shapes(0), 0);
        check.due("swapped", ring.shapes(1), 26);
    }

    // Promise 14: "(0 if i, j or k is below 0)".
    private void monomialBelowZero() {
        int[] below = {-1, -2, -9, -10, LEAST, LEAST + 1, LEAST + 9};
        for (int n : below) {
            ShapeRing ring = Rings.dense();
            for (int size = 0; size <= 9; size++) {
                // What is left for the others makes the sum right.
                int rest = size - n;
                check.due("i is " + n, ring.monomial(0, n, rest, 0), 0);
                check.due("i is " + n, ring.monomial(1, n, 0, rest), 0);
                check.due("j is " + n, ring.monomial(1, rest, n, 0), 0);
                check.due("j is " + n, ring.monomial(0, 0, n, rest), 0);
                check.due("k is " + n, ring.monomial(0, 0, rest, n), 0);
                check.due("k is " + n, ring.monomial(1, rest, 0, n), 0);
            }
            for (int m : below) {
                check.due("two below 0", ring.monomial(0, n, m, -n - m), 0);
                check.due("two below 0", ring.monomial(0, n, -n - m, m), 0);
                check.due("two below 0", ring.monomial(0, 9 - n - m, n, m), 0);
            }
            check.due("all below 0", ring.monomial(0, n, n, n), 0);
        }
    }

    // Promise 14: "The number before x^i y^j z^k in element e": no shape has a size above 9.
    private void monomialAboveNine() {
        Model model = Rings.denseModel();
        for (int i = 0; i <= 11; i++) {
            for (int j = 0; j <= 11; j++) {
                ShapeRing ring = Rings.dense();
                for (int k = 0; k <= 11; k++) {
                    int want = i + j + k > 9 ? 0 : model.monomial(0, i, j, k);
                    check.due("monomial(0, " + i + ", " + j + ", " + k + ")",
                        ring.monomial(0, i, j, k), want);
                }
            }
        }
        ShapeRing nine = Rings.of(9, 3, 333, 4);
        check.due("x^9", nine.monomial(0, 9, 0, 0), 3);
        check.due("z^9", nine.monomial(0, 0, 0, 9), 3);
        check.due("x^10", nine.monomial(0, 10, 0, 0), 0);
        check.due("x^3 y^3 z^3", nine.monomial(1, 3, 3, 3), 4);
        check.due("x^3 y^3 z^4", nine.monomial(1, 3, 3, 4), 0);
    }

    // No sum of exponents is a size because it wraps.
    private void monomialThatWraps() {
        int[] great = {GREATEST, GREATEST - 1, GREATEST - 9, 1 << 30, (1 << 30) + 3, 65536, 256};
        for (int n : great) {
            ShapeRing ring = Rings.dense();
            for (int size = 0; size <= 9; size++) {
                int rest = size - n - n;
                check.due("two of " + n, ring.monomial(0, n, n, rest), 0);
                check.due("two of " + n, ring.monomial(0, n, rest, n), 0);
                check.due("two of " + n, ring.monomial(0, rest, n, n), 0);
                check.due(n + " alone", ring.monomial(1, n, 0, size), 0);
                check.due(n + " alone", ring.monomial(1, 0, n, size), 0);
                check.due(n + " alone", ring.monomial(1, size, 0, n), 0);
            }
        }
        ShapeRing empty = new ShapeRing();
        check.due("of 0", empty.monomial(0, 0, 0, 0), 0);
        check.due("of 0", empty.monomial(0, GREATEST, GREATEST, 2), 0);
    }

    // Promise 15: "The value of element e at these numbers for x, y and z."
    private void valueAtZero() {
        ShapeRing dense = Rings.dense();
        int number = Rings.denseCoefficient(0, 0);
        check.due("only the number is left", dense.value(0, 0, 0, 0), number);
        for (int code : Model.CODES) {
            ShapeRing ring = Rings.of(code, 6, 0, 0);
            // With y and z 0, only the filling with nothing but 1 is left.
            int want = code < 10 ? 6 : 0;
            check.due(code + " at 1, 0, 0", ring.value(0, 1, 0, 0), want);
            check.due(code + " at 0, 1, 0", ring.value(0, 0, 1, 0), want);
            check.due(code + " at 0, 0, 1", ring.value(0, 0, 0, 1), want);
            check.due(code + " at 0, 0, 0", ring.value(0, 0, 0, 0), code == 0 ? 6 : 0);
        }
    }

    private void valueAtTheEnds() {
        int[] ends = {LEAST, LEAST + 1, -2, -1, 0, 1, 3, 65536, GREATEST};
        for (int x : ends) {
            for (int y : ends) {
                ShapeRing ring = Rings.of(1, 1, 111, 1);
                ring.add(1, 12, 1);
                for (int z : ends) {
                    String at = "value at " + x + ", " + y + ", " + z;
                    check.due(at, ring.value(0, x, y, z), x + y + z);
                    check.due(at, ring.value(1, x, y, z), (x + y) * (y + z) * (x + z) + x * y * z);
                }
            }
        }
        ShapeRing nine = Rings.of(9, 1, 333, GREATEST);
        check.due("9 at -1", nine.value(0, -1, 0, 0), -1);
        check.due("9 at 1, 1, 1", nine.value(0, 1, 1, 1), 55);
        check.due("9 at 12", nine.value(0, 12, 0, 0), (int) 5159780352L);
        check.due("333 at -1, 1, 1", nine.value(1, -1, 1, 1), -GREATEST);
        check.due("333 at 2", nine.value(1, 2, 2, 2), -512);
    }

    private void valueOfZero() {
        ShapeRing ring = Rings.of(0, 0, 12, 1);
        int[] ends = {LEAST, -1, 0, 1, GREATEST};
        for (int x : ends) {
            check.due("0 at " + x, ring.value(0, x, x, x), 0);
        }
    }

    // Promise 16: "The sum, over all shapes, of the product of both elements' coefficients."
    private void innerOfZero() {
        ShapeRing ring = Rings.of(12, 5, 12, 0);
        check.due("element 1 is 0", ring.inner(), 0);
        ring.swap();
        check.due("element 0 is 0", ring.inner(), 0);
        check.due("both are 0", new ShapeRing().inner(), 0);
        ring.add(0, 11, 4);
        check.due("no shape in both", ring.inner(), 0);
        ShapeRing ends = Rings.of(0, LEAST, 0, LEAST);
        check.due("the least by the least", ends.inner(), 0);
        ends.add(1, 0, -1);
        check.due("the least by the greatest", ends.inner(), LEAST);
        ends.add(0, 0, -1);
        check.due("the greatest by the greatest", ends.inner(), 1);
    }

    private void innerOfAll() {
        int sum = 0;
        for (int s = 0; s < Model.CODES.length; s++) {
            sum += Rings.denseCoefficient(0, s) * Rings.denseCoefficient(1, s);
            int code = Model.CODES[s];
            for (int other : Model.CODES) {
                ShapeRing ring = Rings.of(code, 3, other, -5);
                check.due("inner of " + code + ", " + other, ring.inner(), code == other ? -15 : 0);
            }
        }
        check.due("all shapes", Rings.dense().inner(), sum);
    }

    // Promise 17: "BAD_ARG if one of the three is not the code of a shape."
    private void numberRefused() {
        int[] wrong = {-1, 10, 21, 55, 100, 110, 334, 1000, LEAST, GREATEST};
        ShapeRing ring = new ShapeRing();
        for (int code : wrong) {
            check.due("p is " + code, ring.number(code, 12, 123), BAD);
            check.due("q is " + code, ring.number(12, code, 123), BAD);
            check.due("r is " + code, ring.number(12, 12, code), BAD);
            check.due("sizes unequal, p is " + code, ring.number(code, 333, 0), BAD);
            check.due("sizes unequal, q is " + code, ring.number(333, code, 0), BAD);
            check.due("sizes unequal, r is " + code, ring.number(333, 333, code), BAD);
            check.due("only r is a shape", ring.number(code, code, 1), BAD);
            check.due("only q is a shape", ring.number(code, 1, code), BAD);
            check.due("only p is a shape", ring.number(1, code, code), BAD);
            check.due("none is a shape", ring.number(code, code, code), BAD);
        }
    }

    // Promise 17: "N(P, Q, R) for the shapes with these codes".
    private void numberOfUnequalSizes() {
        for (int p = 0; p <= 9; p++) {
            for (int q = 0; q <= 9; q++) {
                ShapeRing ring = new ShapeRing();
                for (int r = 0; r <= 9; r++) {
                    // Rows alone: S(p) times S(q) has S(p + q) once.
                    check.due("number(" + p + ", " + q + ", " + r + ")",
                        ring.number(p, q, r), p + q == r ? 1 : 0);
                }
            }
        }
        ShapeRing ring = new ShapeRing();
        check.due("the size fits, but a row is too long", ring.number(3, 1, 22), 0);
        check.due("the size fits, but p is not within r", ring.number(111, 1, 22), 0);
        check.due("the size fits, but q is not within r", ring.number(1, 111, 22), 0);
    }

    private void numberWhateverTheElements() {
        ShapeRing[] states = {new ShapeRing(), Rings.of(333, 1, 9, LEAST), Rings.dense()};
        for (ShapeRing ring : states) {
            check.due("number(12, 12, 123)", ring.number(12, 12, 123), 2);
            check.due("number(1, 1, 1)", ring.number(1, 1, 1), 0);
            check.due("number(0, 0, 0)", ring.number(0, 0, 0), 1);
        }
    }
}
