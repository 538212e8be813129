// A few worked cases for each promise: ordinary ones, some edges, and wrong arguments.
public final class PromisesTest {
    // Rows that rise, sizes above 9, digits too many, and below 0.
    private static final int[] WRONG_CODES = {
        10, 20, 21, 100, 101, 110, 109, 120, 211, 210, 19, 55, 46, 118, 334, 344, 400, 444, 999,
        1000, 1001, 1111, -1, -10, -11, -111, 1 << 30, Integer.MIN_VALUE, Integer.MAX_VALUE
    };

    private final Check check = new Check();
    private final Rings rings = new Rings(check);

    public static void main(String[] args) {
        PromisesTest test = new PromisesTest();
        test.newObject();
        test.add();
        test.scale();
        test.combine();
        test.swap();
        test.timesShape();
        test.timesPower();
        test.product();
        test.productOfZero();
        test.skew();
        test.part();
        test.coefficient();
        test.degree();
        test.shapes();
        test.monomial();
        test.value();
        test.inner();
        test.number();
        test.wrongElements();
        test.wrongCodes();
        test.wrapping();
        test.separateObjects();
        test.check.end("PromisesTest");
    }

    private void newObject() {
        ShapeRing ring = new ShapeRing();
        rings.dueElement("new", ring, 0);
        rings.dueElement("new", ring, 1);
        check.due("new: degree(0)", ring.degree(0), ShapeRing.NONE);
        check.due("new: degree(1)", ring.degree(1), ShapeRing.NONE);
        check.due("new: shapes(0)", ring.shapes(0), 0);
        check.due("new: value(1, 1, 1, 1)", ring.value(1, 1, 1, 1), 0);
        check.due("new: inner()", ring.inner(), 0);
    }

    private void add() {
        ShapeRing ring = new ShapeRing();
        check.due("add(0, 12, 5)", ring.add(0, 12, 5), 0);
        check.due("add(0, 12, -2)", ring.add(0, 12, -2), 0);
        check.due("add(0, 333, 4)", ring.add(0, 333, 4), 0);
        check.due("add(0, 9, 6)", ring.add(0, 9, 6), 0);
        check.due("add(0, 0, -1)", ring.add(0, 0, -1), 0);
        check.due("add(1, 111, 8)", ring.add(1, 111, 8), 0);
        rings.dueElement("add", ring, 0, 12, 3, 333, 4, 9, 6, 0, -1);
        rings.dueElement("add", ring, 1, 111, 8);
        check.due("add(0, 12, -3)", ring.add(0, 12, -3), 0);
        check.due("add(0, 1, 0)", ring.add(0, 1, 0), 0);
        rings.dueElement("add", ring, 0, 333, 4, 9, 6, 0, -1);
    }

    private void scale() {
        ShapeRing ring = Rings.of(12, 3, 2, 5);
        ring.add(0, 1, -4);
        check.due("scale(0, -6)", ring.scale(0, -6), 0);
        rings.dueElement("scale", ring, 0, 12, -18, 1, 24);
        rings.dueElement("scale", ring, 1, 2, 5);
        check.due("scale(1, 0)", ring.scale(1, 0), 0);
        rings.dueElement("scale", ring, 1);
        rings.dueElement("scale", ring, 0, 12, -18, 1, 24);
    }

    private void combine() {
        ShapeRing ring = Rings.of(12, 3, 2, 5);
        ring.add(1, 12, 1);
        check.due("combine(-2)", ring.combine(-2), 0);
        rings.dueElement("combine", ring, 0, 12, 1, 2, -10);
        rings.dueElement("combine", ring, 1, 12, 1, 2, 5);
        check.due("combine(0)", ring.combine(0), 0);
        rings.dueElement("combine", ring, 0, 12, 1, 2, -10);
    }

    private void swap() {
        ShapeRing ring = Rings.of(12, 3, 333, 5);
        check.due("swap()", ring.swap(), 0);
        rings.dueElement("swap", ring, 0, 333, 5);
        rings.dueElement("swap", ring, 1, 12, 3);
        check.due("swap()", ring.swap(), 0);
        rings.dueElement("swapped back", ring, 0, 12, 3);
        rings.dueElement("swapped back", ring, 1, 333, 5);
    }

    private void timesShape() {
        ShapeRing ring = Rings.of(12, 1, 5, 2);
        check.due("timesShape(0, 12)", ring.timesShape(0, 12), 0);
        rings.dueElement("timesShape", ring, 0, 24, 1, 33, 1, 114, 1, 123, 2, 222, 1);
        rings.dueElement("timesShape", ring, 1, 5, 2);
        check.due("5 and 5", ring.timesShape(1, 5), ShapeRing.FULL);
        rings.dueElement("refused", ring, 1, 5, 2);
        check.due("by 1", ring.timesShape(1, 0), 0);
        rings.dueElement("by 1", ring, 1, 5, 2);
        check.due("5 and 4", ring.timesShape(1, 4), 0);
        rings.dueElement("5 and 4", ring, 1, 9, 2, 18, 2, 27, 2, 36, 2, 45, 2);
        ShapeRing nothing = new ShapeRing();
        check.due("0 is never full", nothing.timesShape(0, 333), 0);
        rings.dueElement("0 is never full", nothing, 0);
    }

    private void timesPower() {
        ShapeRing ring = Rings.of(0, 1, 12, 3);
        check.due("timesPower(0, 1)", ring.timesPower(0, 1), 0);
        rings.dueElement("power 1", ring, 0, 1, 1);
        check.due("timesPower(0, 2)", ring.timesPower(0, 2), 0);
        rings.dueElement("powers 1, 2", ring, 0, 3, 1, 111, -1);
        check.due("timesPower(1, 3)", ring.timesPower(1, 3), 0);
        rings.dueElement("12 by 3", ring, 1, 15, 3, 33, -3, 222, -3);
        int[] wrong = {0, -1, 10, Integer.MIN_VALUE, Integer.MAX_VALUE};
        for (int r : wrong) {
            check.due("timesPower(1, " + r + ")", ring.timesPower(1, r), ShapeRing.BAD_ARG);
        }
        check.due("6 and 4", ring.timesPower(1, 4), ShapeRing.FULL);
        check.due("6 and 9", ring.timesPower(1, 9), ShapeRing.FULL);
        rings.dueElement("refused", ring, 1, 15, 3, 33, -3, 222, -3);
        check.due("6 and 3", ring.timesPower(1, 3), 0);
        ShapeRing nothing = new ShapeRing();
        check.due("0 is never full", nothing.timesPower(1, 9), 0);
        check.due("0 and 10", nothing.timesPower(1, 10), ShapeRing.BAD_ARG);
        rings.dueElement("0 is never full", nothing, 1);
        nothing.add(1, 0, 1);
        check.due("timesPower(1, 9)", nothing.timesPower(1, 9), 0);
        rings.dueElement("power 9", nothing, 1, 9, 1, 18, -1, 117, 1);
    }

    private void product() {
        ShapeRing ring = Rings.of(1, 2, 1, 3);
        ring.add(0, 0, 1);
        ring.add(1, 11, -1);
        check.due("product()", ring.product(), 0);
        rings.dueElement("product", ring, 0, 1, 3, 2, 6, 11, 5, 12, -2, 111, -2);
        rings.dueElement("product", ring, 1, 1, 3, 11, -1);
        ShapeRing full = Rings.of(5, 1, 14, 1);
        check.due("5 and 5", full.product(), ShapeRing.FULL);
        rings.dueElement("refused", full, 0, 5, 1);
        rings.dueElement("refused", full, 1, 14, 1);
        ShapeRing just = Rings.of(333, -2, 0, 7);
        check.due("9 and 0", just.product(), 0);
        rings.dueElement("9 and 0", just, 0, 333, -14);
        rings.dueElement("9 and 0", just, 1, 0, 7);
        ShapeRing low = Rings.of(9, 1, 0, 1);
        low.add(1, 1, 1);
        check.due("9 and 1", low.product(), ShapeRing.FULL);
        rings.dueElement("9 and 1", low, 0, 9, 1);
    }

    private void productOfZero() {
        ShapeRing first = new ShapeRing();
        first.add(1, 333, 3);
        check.due("0 by 9", first.product(), 0);
        rings.dueElement("0 by 9", first, 0);
        rings.dueElement("0 by 9", first, 1, 333, 3);
        ShapeRing second = new ShapeRing();
        second.add(0, 333, 3);
        check.due("9 by 0", second.product(), 0);
        rings.dueElement("9 by 0", second, 0);
        ShapeRing none = new ShapeRing();
        check.due("0 by 0", none.product(), 0);
        rings.dueElement("0 by 0", none, 0);
    }

    private void skew() {
        ShapeRing ring = Rings.of(123, 1, 12, 5);
        check.due("skew(0, 12)", ring.skew(0, 12), 0);
        rings.dueElement("skew", ring, 0, 3, 1, 12, 2, 111, 1);
        rings.dueElement("skew", ring, 1, 12, 5);
        check.due("by 1", ring.skew(1, 0), 0);
        rings.dueElement("by 1", ring, 1, 12, 5);
        check.due("by itself", ring.skew(1, 12), 0);
        rings.dueElement("by itself", ring, 1, 0, 5);
        check.due("by a greater one", ring.skew(1, 1), 0);
        rings.dueElement("by a greater one", ring, 1);
        ShapeRing mixed = Rings.of(9, 2, 0, 1);
        mixed.add(0, 333, 3);
        mixed.add(0, 1, 4);
        check.due("skew(0, 1)", mixed.skew(0, 1), 0);
        rings.dueElement("mixed", mixed, 0, 8, 2, 233, 3, 0, 4);
    }

    private void part() {
        ShapeRing ring = Rings.of(123, 1, 12, 5);
        ring.add(0, 6, 2);
        ring.add(0, 0, 3);
        ring.add(0, 9, 4);
        int[] wrong = {-1, 10, Integer.MIN_VALUE, Integer.MAX_VALUE};
        for (int n : wrong) {
            check.due("part(0, " + n + ")", ring.part(0, n), ShapeRing.BAD_ARG);
        }
        rings.dueElement("refused", ring, 0, 123, 1, 6, 2, 0, 3, 9, 4);
        check.due("part(0, 6)", ring.part(0, 6), 0);
        rings.dueElement("part", ring, 0, 123, 1, 6, 2);
        rings.dueElement("part", ring, 1, 12, 5);
        check.due("part(1, 0)", ring.part(1, 0), 0);
        rings.dueElement("nothing left", ring, 1);
        ShapeRing ends = Rings.of(0, 3, 0, 6);
        ends.add(0, 9, 4);
        ends.add(1, 333, 4);
        check.due("part(0, 0)", ends.part(0, 0), 0);
        check.due("part(1, 9)", ends.part(1, 9), 0);
        rings.dueElement("part 0", ends, 0, 0, 3);
        rings.dueElement("part 9", ends, 1, 333, 4);
    }

    private void coefficient() {
        ShapeRing ring = new ShapeRing();
        int n = 100;
        for (int code : Model.CODES) {
            ring.add(0, code, n);
            ring.add(1, code, -n);
            n++;
        }
        n = 100;
        for (int code : Model.CODES) {
            check.due("coefficient(0, " + code + ")", ring.coefficient(0, code), n);
            check.due("coefficient(1, " + code + ")", ring.coefficient(1, code), -n);
            n++;
        }
        check.due("shapes in all", n - 100, 53);
    }

    private void degree() {
        ShapeRing ring = Rings.of(0, 7, 333, 1);
        check.due("a number", ring.degree(0), 0);
        check.due("333", ring.degree(1), 9);
        ring.add(0, 22, 1);
        ring.add(0, 3, 1);
        check.due("3 and 22", ring.degree(0), 4);
        ring.add(0, 22, -1);
        check.due("22 lost", ring.degree(0), 3);
        ring.scale(0, 0);
        check.due("0", ring.degree(0), ShapeRing.NONE);
        check.due("the other one", ring.degree(1), 9);
    }

    private void shapes() {
        ShapeRing ring = Rings.of(0, 7, 333, -1);
        ring.add(0, 22, 1);
        ring.add(0, 13, -1);
        check.due("three", ring.shapes(0), 3);
        check.due("one", ring.shapes(1), 1);
        ring.add(0, 22, -1);
        check.due("one lost", ring.shapes(0), 2);
        for (int code : Model.CODES) {
            ring.add(1, code, 9);
        }
        check.due("all", ring.shapes(1), 53);
    }

    private void monomial() {
        ShapeRing ring = Rings.of(12, 1, 0, 5);
        check.due("x y z", ring.monomial(0, 1, 1, 1), 2);
        check.due("x^2 y", ring.monomial(0, 2, 1, 0), 1);
        check.due("y z^2", ring.monomial(0, 0, 1, 2), 1);
        check.due("x^3", ring.monomial(0, 3, 0, 0), 0);
        check.due("1 in 0", ring.monomial(0, 0, 0, 0), 0);
        check.due("1 in 1", ring.monomial(1, 0, 0, 0), 5);
        check.due("i below 0", ring.monomial(0, -1, 2, 2), 0);
        check.due("j below 0", ring.monomial(0, 2, -1, 2), 0);
        check.due("k below 0", ring.monomial(0, 2, 2, -1), 0);
        check.due("above 9", ring.monomial(0, 10, 0, 0), 0);
        int top = Integer.MAX_VALUE;
        int low = Integer.MIN_VALUE;
        check.due("sum wraps to 0", ring.monomial(1, top, top, 2), 0);
        check.due("sum wraps to 0", ring.monomial(1, 2, top, top), 0);
        check.due("sum wraps to 0", ring.monomial(1, top, 2, top), 0);
        check.due("sum wraps to 0", ring.monomial(1, low, low, 0), 0);
        check.due("sum wraps to 0", ring.monomial(1, 0, low, low), 0);
        check.due("sum is 0", ring.monomial(1, 1, -1, 0), 0);
        check.due("sum wraps to 3", ring.monomial(0, top, top, 5), 0);
        check.due("wrong element, i below 0", ring.monomial(2, -1, 0, 0), ShapeRing.BAD_ARG);
    }

    private void value() {
        ShapeRing ring = Rings.of(12, 1, 0, 5);
        check.due("(x+y)(y+z)(x+z)", ring.value(0, 2, 3, 5), 5 * 8 * 7);
        check.due("exchanged", ring.value(0, 5, 2, 3), 5 * 8 * 7);
        check.due("a number", ring.value(1, 8, 9, 10), 5);
        check.due("at 0", ring.value(0, 0, 0, 0), 0);
        check.due("a number at 0", ring.value(1, 0, 0, 0), 5);
        check.due("-1, 1", ring.value(0, -1, 1, 4), 0);
        check.due("wraps", ring.value(0, 1 << 16, 1 << 15, 0), 0);
        int x = 123456789;
        int y = -987654321;
        int z = 55555;
        check.due("wraps", ring.value(0, x, y, z), (x + y) * (y + z) * (x + z));
        int least = Integer.MIN_VALUE;
        check.due("the least", ring.value(0, least, 1, 1), (least + 1) * 2 * (least + 1));
        ShapeRing nine = Rings.of(333, 1, 9, 1);
        check.due("333", nine.value(0, 2, 3, -1), -216);
        check.due("9", nine.value(1, 3, 0, 0), 19683);
    }

    private void inner() {
        ShapeRing ring = Rings.of(12, 3, 12, 5);
        ring.add(0, 333, 2);
        ring.add(1, 333, -7);
        ring.add(0, 0, 4);
        ring.add(1, 0, 10);
        ring.add(0, 1, 100);
        ring.add(1, 2, 100);
        check.due("inner()", ring.inner(), 15 - 14 + 40);
        rings.dueElement("inner", ring, 0, 12, 3, 333, 2, 0, 4, 1, 100);
        rings.dueElement("inner", ring, 1, 12, 5, 333, -7, 0, 10, 2, 100);
        ring.add(1, 1, 1 << 30);
        check.due("wraps", ring.inner(), 41);
        ring.add(1, 1, Integer.MAX_VALUE);
        check.due("wraps", ring.inner(), 41 - 100);
    }

    private void number() {
        ShapeRing ring = Rings.of(12, 3, 2, 5);
        check.due("number(12, 12, 123)", ring.number(12, 12, 123), 2);
        check.due("number(1, 2, 3)", ring.number(1, 2, 3), 1);
        check.due("number(1, 2, 111)", ring.number(1, 2, 111), 0);
        check.due("number(0, 333, 333)", ring.number(0, 333, 333), 1);
        check.due("number(0, 0, 0)", ring.number(0, 0, 0), 1);
        check.due("sizes differ", ring.number(1, 2, 2), 0);
        check.due("sizes above 9", ring.number(333, 333, 333), 0);
        for (int code : WRONG_CODES) {
            check.due("number(" + code + ", 0, 0)", ring.number(code, 0, 0), ShapeRing.BAD_ARG);
            check.due("number(0, " + code + ", 0)", ring.number(0, code, 0), ShapeRing.BAD_ARG);
            check.due("number(0, 0, " + code + ")", ring.number(0, 0, code), ShapeRing.BAD_ARG);
        }
        rings.dueElement("number", ring, 0, 12, 3);
        rings.dueElement("number", ring, 1, 2, 5);
    }

    private void wrongElements() {
        for (int e : Rings.WRONG_ELEMENTS) {
            ShapeRing ring = Rings.of(12, 3, 9, 5);
            int bad = ShapeRing.BAD_ARG;
            check.due("add", ring.add(e, 1, 1), bad);
            check.due("scale", ring.scale(e, 2), bad);
            check.due("timesShape", ring.timesShape(e, 9), bad);
            check.due("timesPower", ring.timesPower(e, 9), bad);
            check.due("skew", ring.skew(e, 1), bad);
            check.due("part", ring.part(e, 1), bad);
            check.due("coefficient", ring.coefficient(e, 12), bad);
            check.due("degree", ring.degree(e), bad);
            check.due("shapes", ring.shapes(e), bad);
            check.due("monomial", ring.monomial(e, 2, 1, 0), bad);
            check.due("value", ring.value(e, 1, 1, 1), bad);
            rings.dueElement("element " + e, ring, 0, 12, 3);
            rings.dueElement("element " + e, ring, 1, 9, 5);
        }
    }

    private void wrongCodes() {
        for (int code : WRONG_CODES) {
            ShapeRing ring = Rings.of(12, 3, 9, 5);
            int bad = ShapeRing.BAD_ARG;
            check.due("add " + code, ring.add(0, code, 1), bad);
            check.due("timesShape " + code, ring.timesShape(1, code), bad);
            check.due("skew " + code, ring.skew(0, code), bad);
            check.due("coefficient " + code, ring.coefficient(0, code), bad);
            rings.dueElement("code " + code, ring, 0, 12, 3);
            rings.dueElement("code " + code, ring, 1, 9, 5);
        }
    }

    private void wrapping() {
        ShapeRing ring = Rings.of(1, Integer.MAX_VALUE, 1, 1 << 16);
        ring.add(0, 1, 1);
        rings.dueElement("add wraps", ring, 0, 1, Integer.MIN_VALUE);
        ring.scale(0, 2);
        check.due("scaled to 0", ring.degree(0), ShapeRing.NONE);
        ring.add(0, 1, 1 << 16);
        check.due("product()", ring.product(), 0);
        check.due("a product that wraps to 0", ring.shapes(0), 0);
        ring.add(0, 1, 1);
        ring.combine(1 << 16);
        rings.dueElement("combine wraps", ring, 0, 1, 1);
        ring.combine(1 << 15);
        rings.dueElement("combine wraps", ring, 0, 1, Integer.MIN_VALUE + 1);
        // A coefficient that wraps to 0 does not count for the degree.
        ring.add(0, 9, 1 << 31);
        ring.scale(0, 2);
        check.due("9 wrapped away", ring.timesShape(0, 8), 0);
        rings.dueElement("9 wrapped away", ring, 0, 9, 2, 18, 2);
    }

    private void separateObjects() {
        ShapeRing one = Rings.of(12, 3, 9, 5);
        ShapeRing other = new ShapeRing();
        other.add(0, 12, 1);
        other.timesShape(0, 12);
        rings.dueElement("untouched", one, 0, 12, 3);
        rings.dueElement("untouched", one, 1, 9, 5);
    }
}
