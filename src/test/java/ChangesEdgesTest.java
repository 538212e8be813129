// The sentences of promises 1 to 10 that name a boundary case, a test for each.
public final class ChangesEdgesTest {
    private static final int LEAST = Rings.LEAST;
    private static final int GREATEST = Rings.GREATEST;
    private static final int BAD = ShapeRing.BAD_ARG;
    private static final int FULL = ShapeRing.FULL;
    private static final int NONE = ShapeRing.NONE;

    private final Check check = new Check();
    private final Rings rings = new Rings(check);

    public static void main(String[] args) {
        ChangesEdgesTest test = new ChangesEdgesTest();
        test.newElementsAreZero();
        test.addAtTheEnds();
        test.scaleAtTheEnds();
        test.combineAtTheEnds();
        test.swapWithZero();
        test.timesShapeFull();
        test.timesShapeOfZero();
        test.timesShapeThatWraps();
        test.timesPowerRange();
        test.timesPowerFull();
        test.timesPowerOfZero();
        test.timesPowerOrder();
        test.productFull();
        test.productWithZero();
        test.productThatWraps();
        test.skewOfGreatestSize();
        test.skewByTooGreat();
        test.skewOfZero();
        test.partRange();
        test.partOfEachSize();
        test.partOfNothing();
        test.check.end("ChangesEdgesTest");
    }

    // Promise 1: "Both elements are 0."
    private void newElementsAreZero() {
        ShapeRing ring = new ShapeRing();
        rings.dueElement("new", ring, 0);
        rings.dueElement("new", ring, 1);
        for (int e = 0; e <= 1; e++) {
            check.due("new: degree(" + e + ")", ring.degree(e), NONE);
            check.due("new: shapes(" + e + ")", ring.shapes(e), 0);
            check.due("new: monomial(" + e + ", 0, 0, 0)", ring.monomial(e, 0, 0, 0), 0);
            check.due("new: value(" + e + ", 1, 2, 3)", ring.value(e, 1, 2, 3), 0);
        }
        check.due("new: inner()", ring.inner(), 0);
        Rings.dense();
        check.due("new, after another one was filled", new ShapeRing().shapes(0), 0);
    }

    // Promise 2: "Adds n times S(shape with this code) to element e. Answers 0."
    private void addAtTheEnds() {
        ShapeRing ring = new ShapeRing();
        check.due("nothing", ring.add(0, 333, 0), 0);
        check.due("nothing is no shape", ring.degree(0), NONE);
        check.due("the least", ring.add(0, 0, LEAST), 0);
        check.due("the greatest", ring.add(0, 333, GREATEST), 0);
        check.due("to the other one", ring.add(1, 9, -1), 0);
        rings.dueElement("add", ring, 0, 0, LEAST, 333, GREATEST);
        rings.dueElement("add", ring, 1, 9, -1);
        check.due("wraps to 0", ring.add(0, 0, LEAST), 0);
        check.due("taken away", ring.add(1, 9, 1), 0);
        rings.dueElement("wraps", ring, 0, 333, GREATEST);
        check.due("0 again", ring.degree(1), NONE);
        ShapeRing dense = Rings.dense();
        for (int code : Model.CODES) {
            check.due("add(0, " + code + ", 0)", dense.add(0, code, 0), 0);
        }
        rings.dueDense("nothing added", dense);
    }

    // Promise 3: "Multiplies element e by the number n. Answers 0."
    private void scaleAtTheEnds() {
        ShapeRing dense = Rings.dense();
        check.due("scale(0, 1)", dense.scale(0, 1), 0);
        check.due("scale(1, 1)", dense.scale(1, 1), 0);
        rings.dueDense("by 1", dense);
        check.due("scale(1, 0)", dense.scale(1, 0), 0);
        check.due("by 0", dense.shapes(1), 0);
        check.due("by 0: the other one", dense.shapes(0), 53);
        ShapeRing ring = Rings.of(333, 1 << 16, 0, LEAST);
        ring.add(0, 0, 3);
        check.due("scale(0, 65536)", ring.scale(0, 1 << 16), 0);
        check.due("degree 9 wraps away", ring.degree(0), 0);
        check.due("scale(0, least)", ring.scale(0, LEAST), 0);
        check.due("all wraps away", ring.degree(0), NONE);
        check.due("scale(1, -1)", ring.scale(1, -1), 0);
        rings.dueElement("the least by -1", ring, 1, 0, LEAST);
        check.due("0 by the greatest", ring.scale(0, GREATEST), 0);
        rings.dueElement("0 by the greatest", ring, 0);
    }

    // Promise 4: "Adds n times element 1 to element 0. Answers 0."
    private void combineAtTheEnds() {
        ShapeRing dense = Rings.dense();
        check.due("combine(0)", dense.combine(0), 0);
        rings.dueDense("by 0", dense);
        ShapeRing ring = Rings.of(333, 1, 333, 1);
        ring.add(1, 0, GREATEST);
        check.due("combine(-1)", ring.combine(-1), 0);
        rings.dueElement("333 lost", ring, 0, 0, -GREATEST);
        check.due("combine(least)", ring.combine(LEAST), 0);
        rings.dueElement("by the least", ring, 0, 0, 1, 333, LEAST);
        rings.dueElement("element 1 stays", ring, 1, 0, GREATEST, 333, 1);
        ShapeRing zero = Rings.of(9, 7, 9, 0);
        check.due("element 1 is 0", zero.combine(GREATEST), 0);
        rings.dueElement("element 1 is 0", zero, 0, 9, 7);
        zero.swap();
        check.due("element 0 is 0", zero.combine(2), 0);
        rings.dueElement("element 0 is 0", zero, 0, 9, 14);
        rings.dueElement("element 0 is 0", zero, 1, 9, 7);
    }

    // Promise 5: "Exchanges the elements. Answers 0."
    private void swapWithZero() {
        ShapeRing ring = Rings.of(333, 8, 0, 0);
        check.due("swap()", ring.swap(), 0);
        check.due("0 came", ring.degree(0), NONE);
        rings.dueElement("333 came", ring, 1, 333, 8);
        ShapeRing empty = new ShapeRing();
        check.due("both 0", empty.swap(), 0);
        check.due("both 0", empty.shapes(0) + empty.shapes(1), 0);
        ShapeRing dense = Rings.dense();
        check.due("swap()", dense.swap(), 0);
        for (int s = 0; s < Model.CODES.length; s++) {
            check.due("swapped", dense.coefficient(0, Model.CODES[s]), Rings.denseCoefficient(1, s));
            check.due("swapped", dense.coefficient(1, Model.CODES[s]), Rings.denseCoefficient(0, s));
        }
        check.due("and back", dense.swap(), 0);
        rings.dueDense("and back", dense);
    }

    // Promise 6: "FULL if element e is not 0 and its degree and the shape's size are together above
    // 9. Otherwise 0."
    private void timesShapeFull() {
        for (int degree = 0; degree <= 9; degree++) {
            for (int code : Model.CODES) {
                for (int e = 0; e <= 1; e++) {
                    boolean full = degree + Model.sizeOf(code) > 9;
                    int top = Rings.CODE_OF_SIZE[degree];
                    // A number beside the top shape: what counts is the greatest size.
                    ShapeRing ring = Rings.of(top, 1, top, 1);
                    ring.add(e, 0, 1 << 20);
                    String name = "degree " + degree + ": timesShape(" + e + ", " + code + ")";
                    check.due(name, ring.timesShape(e, code), full ? FULL : 0);
                    check.due(name + ", degree", ring.degree(e),
                        full ? degree : degree + Model.sizeOf(code));
                    check.due(name + ", the other one", ring.shapes(1 - e), 1);
                }
            }
        }
    }

    private void timesShapeOfZero() {
        for (int code : Model.CODES) {
            ShapeRing ring = Rings.of(0, 0, 333, 1);
            check.due("0: timesShape(0, " + code + ")", ring.timesShape(0, code), 0);
            check.due("0: timesShape(0, " + code + "), shapes", ring.shapes(0), 0);
            check.due("0: the other one", ring.coefficient(1, 333), 1);
            ring.swap();
            check.due("0: timesShape(1, " + code + ")", ring.timesShape(1, code), 0);
            check.due("0: timesShape(1, " + code + "), shapes", ring.shapes(1), 0);
        }
        ShapeRing lost = Rings.of(333, LEAST, 0, 1);
        lost.add(0, 333, LEAST);
        check.due("0 by wrapping", lost.timesShape(0, 333), 0);
        ShapeRing left = Rings.of(333, 1, 0, 1);
        left.add(0, 1, 1);
        left.add(0, 333, -1);
        check.due("degree 1 after 333 went", left.timesShape(0, 8), 0);
        rings.dueElement("degree 1 after 333 went", left, 0, 9, 1, 18, 1);
    }

    // The degrees alone decide, even where all that is above 9 would wrap to 0.
    private void timesShapeThatWraps() {
        ShapeRing ring = Rings.of(24, LEAST, 12, LEAST);
        check.due("6 and 6", ring.timesShape(0, 123), FULL);
        rings.dueElement("6 and 6", ring, 0, 24, LEAST);
        check.due("3 and 6", ring.timesShape(1, 123), 0);
        check.due("3 and 6, twice", ring.coefficient(1, 234), 0);
        check.due("3 and 6, once", ring.coefficient(1, 135), LEAST);
        check.due("3 and 6, once", ring.coefficient(1, 144), LEAST);
    }

    // Promise 7: "r not 1 to 9 answers BAD_ARG".
    private void timesPowerRange() {
        int[] wrong = {0, -1, -9, 10, 11, 256 + 1, 65536 + 1, LEAST, LEAST + 1, GREATEST};
        for (int r : wrong) {
            ShapeRing ring = Rings.of(0, 1, 0, 0);
            check.due("timesPower(0, " + r + ")", ring.timesPower(0, r), BAD);
            check.due("0: timesPower(1, " + r + ")", ring.timesPower(1, r), BAD);
            rings.dueElement("power " + r, ring, 0, 0, 1);
            rings.dueElement("power " + r, ring, 1);
        }
        for (int r = 1; r <= 9; r++) {
            ShapeRing ring = Rings.of(0, 1, 0, -3);
            check.due("timesPower(0, " + r + ")", ring.timesPower(0, r), 0);
            check.due("x^" + r, ring.monomial(0, r, 0, 0), 1);
            check.due("y^" + r, ring.monomial(0, 0, r, 0), 1);
            check.due("z^" + r, ring.monomial(0, 0, 0, r), 1);
            check.due("at 1, 1, 1", ring.value(0, 1, 1, 1), 3);
            check.due("shapes", ring.shapes(0), r < 3 ? r : 3);
            check.due("timesPower(1, " + r + ")", ring.timesPower(1, r), 0);
            check.due("-3 at 1, 0, 0", ring.value(1, 1, 0, 0), -3);
        }
    }

    // Promise 7: "element e is not 0 and its degree and r are together above 9 answers FULL.
    // Otherwise 0."
    private void timesPowerFull() {
        for (int degree = 0; degree <= 9; degree++) {
            for (int r = 1; r <= 9; r++) {
                for (int e = 0; e <= 1; e++) {
                    boolean full = degree + r > 9;
                    int top = Rings.CODE_OF_SIZE[degree];
                    ShapeRing ring = Rings.of(top, 1, top, 1);
                    ring.add(e, 0, 1 << 20);
                    String name = "degree " + degree + ": timesPower(" + e + ", " + r + ")";
                    check.due(name, ring.timesPower(e, r), full ? FULL : 0);
                    check.due(name + ", degree", ring.degree(e), full ? degree : degree + r);
                    check.due(name + ", the other one", ring.shapes(1 - e), 1);
                    if (full) {
                        check.due(name + ", kept", ring.shapes(e), degree == 0 ? 1 : 2);
                    }
                }
            }
        }
    }

    private void timesPowerOfZero() {
        for (int r = 1; r <= 9; r++) {
            ShapeRing ring = Rings.of(0, 0, 333, 1);
            check.due("0: timesPower(0, " + r + ")", ring.timesPower(0, r), 0);
            check.due("0: timesPower(0, " + r + "), shapes", ring.shapes(0), 0);
            ring.swap();
            check.due("0: timesPower(1, " + r + ")", ring.timesPower(1, r), 0);
            check.due("0: timesPower(1, " + r + "), shapes", ring.shapes(1), 0);
            check.due("the other one", ring.coefficient(0, 333), 1);
        }
    }

    // Promise 7: "Tested in this order".
    private void timesPowerOrder() {
        ShapeRing ring = Rings.of(333, 1, 9, 1);
        check.due("r before FULL", ring.timesPower(0, 10), BAD);
        check.due("r before FULL", ring.timesPower(1, GREATEST), BAD);
        check.due("r below 1 is not FULL", ring.timesPower(0, 0), BAD);
        check.due("e before FULL", ring.timesPower(2, 9), BAD);
        check.due("e, then r", ring.timesPower(-1, 10), BAD);
        check.due("then FULL", ring.timesPower(0, 1), FULL);
        check.due("then FULL", ring.timesPower(1, 9), FULL);
    }

    // Promise 8: "FULL if neither is 0 and their degrees are together above 9. Otherwise 0."
    private void productFull() {
        for (int first = 0; first <= 9; first++) {
            for (int second = 0; second <= 9; second++) {
                ShapeRing ring = Rings.of(Rings.CODE_OF_SIZE[first], 1, Rings.CODE_OF_SIZE[second], 1);
                ring.add(0, 0, 1 << 20);
                ring.add(1, 0, 1 << 20);
                boolean full = first + second > 9;
                String name = "degrees " + first + ", " + second;
                int shapes = ring.shapes(0);
                check.due(name + ": product()", ring.product(), full ? FULL : 0);
                check.due(name + ": degree(0)", ring.degree(0), full ? first : first + second);
                check.due(name + ": degree(1)", ring.degree(1), second);
                check.due(name + ": shapes(1)", ring.shapes(1), second == 0 ? 1 : 2);
                if (full) {
                    check.due(name + ": shapes(0)", ring.shapes(0), shapes);
                }
            }
        }
    }

    private void productWithZero() {
        for (int size = 0; size <= 9; size++) {
            int code = Rings.CODE_OF_SIZE[size];
            ShapeRing first = Rings.of(code, 0, code, 4);
            check.due("0 by size " + size, first.product(), 0);
            check.due("0 by size " + size + ": shapes(0)", first.shapes(0), 0);
            check.due("0 by size " + size + ": stays", first.coefficient(1, code), 4);
            ShapeRing second = Rings.of(code, 4, code, 0);
            check.due("size " + size + " by 0", second.product(), 0);
            check.due("size " + size + " by 0: shapes(0)", second.shapes(0), 0);
            check.due("size " + size + " by 0: shapes(1)", second.shapes(1), 0);
        }
        ShapeRing both = new ShapeRing();
        check.due("0 by 0", both.product(), 0);
        check.due("0 by 0: shapes(0)", both.shapes(0), 0);
    }

    private void productThatWraps() {
        ShapeRing ring = Rings.of(5, 1 << 16, 5, 1 << 16);
        check.due("5 and 5, though all wraps to 0", ring.product(), FULL);
        rings.dueElement("5 and 5", ring, 0, 5, 1 << 16);
        ring.part(1, 4);
        ring.add(1, 4, 1 << 16);
        check.due("5 and 4", ring.product(), 0);
        check.due("all wraps to 0", ring.degree(0), NONE);
        check.due("0 is not full", ring.product(), 0);
    }

    // Promise 9: "the sum, over all shapes R of sizes up to 9".
    private void skewOfGreatestSize() {
        for (int p : Model.CODES) {
            ShapeRing ring = Rings.dense();
            Model model = Rings.denseModel();
            check.due("skew(0, " + p + ")", ring.skew(0, p), model.skew(0, p));
            check.due("skew(1, " + p + ")", ring.skew(1, p), model.skew(1, p));
            rings.dueSame("skew by " + p, ring, model);
        }
        ShapeRing nine = Rings.of(9, 5, 333, 6);
        check.due("skew(0, 9)", nine.skew(0, 9), 0);
        check.due("skew(1, 333)", nine.skew(1, 333), 0);
        rings.dueElement("9 by itself", nine, 0, 0, 5);
        rings.dueElement("333 by itself", nine, 1, 0, 6);
    }

    private void skewByTooGreat() {
        for (int p : Model.CODES) {
            ShapeRing ring = Rings.dense();
            int size = Model.sizeOf(p);
            if (size > 0) {
                ring.part(0, size - 1);
                check.due("size " + (size - 1) + ": skew(0, " + p + ")", ring.skew(0, p), 0);
                check.due("nothing is left", ring.degree(0), NONE);
            }
            ring.part(1, size);
            check.due("size " + size + ": skew(1, " + p + ")", ring.skew(1, p), 0);
            rings.dueElement("a number is left", ring, 1,
                0, Rings.denseCoefficient(1, Model.indexOf(p)));
        }
    }

    private void skewOfZero() {
        for (int p : Model.CODES) {
            ShapeRing ring = Rings.of(0, 0, 0, 7);
            check.due("0: skew(0, " + p + ")", ring.skew(0, p), 0);
            check.due("0: skew(0, " + p + "), shapes", ring.shapes(0), 0);
            check.due("the other one", ring.coefficient(1, 0), 7);
            check.due("a number: skew(1, " + p + ")", ring.skew(1, p), 0);
            check.due("a number: skew(1, " + p + "), left", ring.coefficient(1, 0), p == 0 ? 7 : 0);
            check.due("a number: skew(1, " + p + "), shapes", ring.shapes(1), p == 0 ? 1 : 0);
        }
        ShapeRing dense = Rings.dense();
        check.due("skew(0, 0)", dense.skew(0, 0), 0);
        check.due("skew(1, 0)", dense.skew(1, 0), 0);
        rings.dueDense("skew by the empty shape", dense);
    }

    // Promise 10: "n not 0 to 9 answers BAD_ARG."
    private void partRange() {
        int[] wrong = {-1, -2, 10, 11, 256, 65536, LEAST, LEAST + 9, GREATEST};
        for (int n : wrong) {
            rings.dueUnchanged("part(0, " + n + ")", ring -> ring.part(0, n), BAD);
            rings.dueUnchanged("part(1, " + n + ")", ring -> ring.part(1, n), BAD);
            ShapeRing empty = new ShapeRing();
            check.due("empty: part(0, " + n + ")", empty.part(0, n), BAD);
        }
    }

    // Promise 10: "Element e loses all shapes whose size is not n: their coefficients become 0."
    private void partOfEachSize() {
        for (int n = 0; n <= 9; n++) {
            for (int e = 0; e <= 1; e++) {
                ShapeRing ring = Rings.dense();
                check.due("part(" + e + ", " + n + ")", ring.part(e, n), 0);
                for (int s = 0; s < Model.CODES.length; s++) {
                    int code = Model.CODES[s];
                    boolean stays = Model.sizeOf(code) == n;
                    check.due("part(" + e + ", " + n + "): " + code, ring.coefficient(e, code),
                        stays ? Rings.denseCoefficient(e, s) : 0);
                    check.due("part(" + e + ", " + n + "): " + code + " in the other one",
                        ring.coefficient(1 - e, code), Rings.denseCoefficient(1 - e, s));
                }
                check.due("part(" + e + ", " + n + "), again", ring.part(e, n), 0);
                check.due("part(" + e + ", " + n + "), degree", ring.degree(e), n);
            }
        }
    }

    private void partOfNothing() {
        ShapeRing ring = Rings.of(333, 1, 0, 1);
        check.due("no shape of size 8", ring.part(0, 8), 0);
        check.due("no shape of size 8", ring.degree(0), NONE);
        check.due("no shape of size 1", ring.part(1, 1), 0);
        check.due("no shape of size 1", ring.degree(1), NONE);
        for (int n = 0; n <= 9; n++) {
            check.due("0: part(0, " + n + ")", ring.part(0, n), 0);
            check.due("0: part(1, " + n + ")", ring.part(1, n), 0);
        }
        check.due("0 stays 0", ring.shapes(0) + ring.shapes(1), 0);
    }
}
