import java.util.HashSet;
import java.util.Set;

// The sentences of 'What it is' and 'Terms' that name a boundary case, a test for each.
public final class TermsEdgesTest {
    private static final int LEAST = Rings.LEAST;
    private static final int GREATEST = Rings.GREATEST;
    private static final int BAD = ShapeRing.BAD_ARG;
    private static final int FULL = ShapeRing.FULL;
    private static final int[] ARGUMENTS = {LEAST, -1, 0, 1, 2, 9, 10, GREATEST};

    private final Check check = new Check();
    private final Rings rings = new Rings(check);

    public static void main(String[] args) {
        TermsEdgesTest test = new TermsEdgesTest();
        test.lastOfItsCalls();
        test.rowsNeverRise();
        test.sizeIsAtMostNine();
        test.everyOtherCodeIsRefused();
        test.codesThatWrapAreRefused();
        test.emptyShapeIsOne();
        test.columnsRise();
        test.numbersWrap();
        test.productsWrap();
        test.degreePassesOverZeros();
        test.numbersOfShapes();
        test.noCallThrows();
        test.refusedCallsChangeNothing();
        test.elementIsTestedFirst();
        test.codeIsTestedBeforeFull();
        test.constants();
        test.check.end("TermsEdgesTest");
    }

    // "An object is used for at most 512 calls after it has been made".
    private void lastOfItsCalls() {
        ShapeRing ring = new ShapeRing();
        for (int call = 1; call <= 509; call++) {
            check.due("call " + call, ring.add(call % 2, 12, 1), 0);
        }
        check.due("call 510", ring.timesShape(0, 12), 0);
        check.due("call 511", ring.coefficient(1, 12), 255);
        check.due("call 512", ring.coefficient(0, 123), 2 * 254);
        ShapeRing asked = Rings.of(12, 1, 333, -3);
        for (int call = 3; call <= 511; call++) {
            check.due("call " + call, asked.value(0, 1, 1, 1), 8);
        }
        check.due("call 512", asked.value(1, 1, 1, 1), -3);
    }

    // "A SHAPE is a, b, c with a >= b >= c >= 0".
    private void rowsNeverRise() {
        for (int a = 0; a <= 9; a++) {
            for (int b = 0; a + b <= 9; b++) {
                for (int c = 0; a + b + c <= 9; c++) {
                    dueCode(a + 10 * b + 100 * c, a >= b && b >= c);
                }
            }
        }
        dueCode(-1, false);
        dueCode(10 - 1 + 100 * -1, false);
        dueCode(-10 + 1, false);
    }

    // "its SIZE is a + b + c, at most 9. Its CODE is a + 10 b + 100 c."
    private void sizeIsAtMostNine() {
        Set<Integer> accepted = new HashSet<>();
        for (int code : Model.CODES) {
            accepted.add(code);
        }
        int tens = 0;
        for (int a = 0; a <= 12; a++) {
            for (int b = 0; b <= a; b++) {
                for (int c = 0; c <= b; c++) {
                    int code = a + 10 * b + 100 * c;
                    if (a + b + c <= 9) {
                        dueCode(code, true);
                    } else if (!accepted.contains(code)) {
                        // A first row of 10 or more can have a smaller shape's code: 10, 1, 0.
                        dueCode(code, false);
                        tens += a + b + c == 10 ? 1 : 0;
                    }
                }
            }
        }
        check.due("shapes of size 10 were tried", tens > 8);
        dueCode(9, true);
        dueCode(10, false);
        dueCode(333, true);
        dueCode(334, false);
        dueCode(45, true);
        dueCode(55, false);
    }

    // "then a code that is not the code of a shape answers BAD_ARG".
    private void everyOtherCodeIsRefused() {
        Set<Integer> accepted = new HashSet<>();
        for (int code : Model.CODES) {
            accepted.add(code);
        }
        check.due("codes of shapes", accepted.size(), 53);
        for (int code = -1100; code <= 2100; code++) {
            dueCode(code, accepted.contains(code));
        }
    }

    private void codesThatWrapAreRefused() {
        for (int code : Model.CODES) {
            dueCode(code + 256, Model.indexOf(code + 256) >= 0);
            dueCode(code + 1000, false);
            dueCode(code + 65536, false);
            dueCode(code + LEAST, false);
            dueCode(GREATEST - code, false);
            dueCode(-1 - code, false);
        }
        dueCode(LEAST, false);
        dueCode(GREATEST, false);
    }

    // Every call with a code takes it, or every call refuses it.
    private void dueCode(int code, boolean isShape) {
        ShapeRing ring = Rings.of(0, 1, 0, 1);
        int want = isShape ? 0 : BAD;
        check.due("add(0, " + code + ", 0)", ring.add(0, code, 0), want);
        check.due("add(1, " + code + ", 0)", ring.add(1, code, 0), want);
        check.due("timesShape(0, " + code + ")", ring.timesShape(0, code), want);
        check.due("coefficient(0, " + code + ")", ring.coefficient(0, code), isShape ? 1 : BAD);
        check.due("coefficient(1, " + code + ")",
            ring.coefficient(1, code), code == 0 ? 1 : want);
        check.due("number(" + code + ", 0, 0)", ring.number(code, 0, 0), code == 0 ? 1 : want);
        check.due("number(0, " + code + ", 0)", ring.number(0, code, 0), code == 0 ? 1 : want);
        check.due("number(0, 0, " + code + ")", ring.number(0, 0, code), code == 0 ? 1 : want);
        check.due("skew(0, " + code + ")", ring.skew(0, code), want);
        check.due("after skew(0, " + code + ")", ring.coefficient(0, 0), 1);
    }

    // "(S of the shape 0, 0, 0 is 1.)"
    private void emptyShapeIsOne() {
        ShapeRing ring = Rings.of(0, 1, 0, -4);
        check.due("value(0, 5, 6, 7)", ring.value(0, 5, 6, 7), 1);
        check.due("value(0, 0, 0, 0)", ring.value(0, 0, 0, 0), 1);
        check.due("value(1, least)", ring.value(1, LEAST, LEAST, LEAST), -4);
        check.due("monomial(0, 0, 0, 0)", ring.monomial(0, 0, 0, 0), 1);
        check.due("monomial(0, 1, 0, 0)", ring.monomial(0, 1, 0, 0), 0);
        check.due("monomial(0, 0, 0, 1)", ring.monomial(0, 0, 0, 1), 0);
        check.due("degree(0)", ring.degree(0), 0);
        for (int code : Model.CODES) {
            check.due("number(0, " + code + ", " + code + ")", ring.number(0, code, code), 1);
            check.due("number(" + code + ", 0, " + code + ")", ring.number(code, 0, code), 1);
        }
        ShapeRing dense = Rings.dense();
        check.due("timesShape(0, 0)", dense.timesShape(0, 0), 0);
        check.due("timesShape(1, 0)", dense.timesShape(1, 0), 0);
        rings.dueDense("times 1", dense);
    }

    // "numbers never become smaller along a row and become greater down each column".
    private void columnsRise() {
        ShapeRing row = Rings.of(9, 1, 333, 1);
        check.due("a row of equal numbers", row.monomial(0, 0, 9, 0), 1);
        check.due("a row in one order", row.monomial(0, 3, 3, 3), 1);
        check.due("full columns", row.monomial(1, 3, 3, 3), 1);
        check.due("equal numbers down a column", row.monomial(1, 4, 3, 2), 0);
        check.due("equal numbers down a column", row.monomial(1, 9, 0, 0), 0);
        ShapeRing column = Rings.of(111, 1, 11, 1);
        check.due("a column of three", column.monomial(0, 1, 1, 1), 1);
        check.due("1 above 1", column.monomial(1, 2, 0, 0), 0);
        check.due("1 above 3", column.monomial(1, 1, 0, 1), 1);
    }

    // "All numbers are Java ints and wrap."
    private void numbersWrap() {
        ShapeRing ring = Rings.of(1, GREATEST, 1, LEAST);
        ring.add(0, 1, 1);
        ring.add(1, 1, -1);
        check.due("add above the greatest", ring.coefficient(0, 1), LEAST);
        check.due("add below the least", ring.coefficient(1, 1), GREATEST);
        ring.scale(0, -1);
        ring.scale(1, 3);
        check.due("scale the least by -1", ring.coefficient(0, 1), LEAST);
        check.due("scale the greatest by 3", ring.coefficient(1, 1), GREATEST - 2);
        ring.combine(-1);
        check.due("combine", ring.coefficient(0, 1), LEAST - (GREATEST - 2));
        ring.combine(LEAST);
        check.due("combine", ring.coefficient(0, 1), LEAST - (GREATEST - 2) + LEAST);
        ShapeRing pair = Rings.of(12, 65536, 12, 65536);
        check.due("inner() wraps to 0", pair.inner(), 0);
        pair.add(1, 12, -32768);
        check.due("inner() wraps to the least", pair.inner(), LEAST);
        check.due("value wraps", pair.value(0, 65536, 1, 0), 0);
        check.due("value wraps", pair.value(1, 65535, 1, 0), 32768 * 65535 * 65536);
        ShapeRing two = Rings.of(12, 1 << 30, 12, GREATEST);
        check.due("monomial wraps", two.monomial(0, 1, 1, 1), LEAST);
        check.due("monomial wraps", two.monomial(1, 1, 1, 1), -2);
    }

    private void productsWrap() {
        ShapeRing ring = Rings.of(12, GREATEST, 12, 1 << 31);
        check.due("timesShape(0, 12)", ring.timesShape(0, 12), 0);
        check.due("twice the greatest", ring.coefficient(0, 123), -2);
        check.due("once the greatest", ring.coefficient(0, 24), GREATEST);
        check.due("timesShape(1, 12)", ring.timesShape(1, 12), 0);
        check.due("twice the least", ring.coefficient(1, 123), 0);
        check.due("once the least", ring.coefficient(1, 24), LEAST);
        check.due("shapes(1)", ring.shapes(1), 4);
        ShapeRing skewed = Rings.of(123, GREATEST, 123, LEAST);
        check.due("skew(0, 12)", skewed.skew(0, 12), 0);
        check.due("skew(1, 12)", skewed.skew(1, 12), 0);
        rings.dueElement("skew wraps", skewed, 0, 3, GREATEST, 12, -2, 111, GREATEST);
        rings.dueElement("skew wraps", skewed, 1, 3, LEAST, 111, LEAST);
        ShapeRing power = Rings.of(2, LEAST, 1, 65536);
        check.due("timesPower(0, 2)", power.timesPower(0, 2), 0);
        rings.dueElement("the least is its own opposite", power, 0, 4, LEAST, 112, LEAST, 22, LEAST);
        power.scale(0, 0);
        power.add(0, 1, 65536);
        check.due("product()", power.product(), 0);
        check.due("a product that wraps to 0", power.degree(0), ShapeRing.NONE);
    }

    // "The DEGREE of an element is the greatest size of a shape with a coefficient other than 0."
    private void degreePassesOverZeros() {
        ShapeRing ring = new ShapeRing();
        for (int size = 0; size <= 9; size++) {
            ring.add(1, Rings.CODE_OF_SIZE[size], LEAST);
            check.due("up to size " + size, ring.degree(1), size);
        }
        for (int size = 9; size >= 1; size--) {
            ring.add(1, Rings.CODE_OF_SIZE[size], LEAST);
            check.due("wrapped to 0 at size " + size, ring.degree(1), size - 1);
            check.due("so not full", ring.timesShape(1, 0), 0);
        }
        check.due("the other one", ring.degree(0), ShapeRing.NONE);
        for (int code : Model.CODES) {
            ShapeRing one = Rings.of(code, -1, 0, 0);
            check.due(code + ": degree(0)", one.degree(0), Model.sizeOf(code));
        }
    }

    // "N(P, Q, R) is the coefficient of S(R) in the product of S(P) and S(Q)": P and Q may be too
    // great together for any R.
    private void numbersOfShapes() {
        ShapeRing ring = new ShapeRing();
        for (int r : Model.CODES) {
            check.due("number(9, 1, " + r + ")", ring.number(9, 1, r), 0);
            check.due("number(1, 333, " + r + ")", ring.number(1, 333, r), 0);
            check.due("number(333, 333, " + r + ")", ring.number(333, 333, r), 0);
            check.due("number(45, 45, " + r + ")", ring.number(45, 45, r), 0);
        }
        check.due("number(8, 1, 9)", ring.number(8, 1, 9), 1);
        check.due("number(222, 111, 333)", ring.number(222, 111, 333), 1);
        check.due("number(111, 222, 333)", ring.number(111, 222, 333), 1);
        check.due("number(12, 123, 234)", ring.number(12, 123, 234), 2);
    }

    // "No call ever throws."
    private void noCallThrows() {
        try {
            extremeArguments(0);
            extremeArguments(1);
            extremeArguments(2);
        } catch (RuntimeException thrown) {
            check.due("a call threw " + thrown, false);
        }
    }

    private ShapeRing ringOfKind(int kind) {
        return kind == 0 ? new ShapeRing() : kind == 1 ? Rings.of(0, 5, 12, -1) : Rings.dense();
    }

    private Model modelOfKind(int kind) {
        Model model = kind == 2 ? Rings.denseModel() : new Model();
        if (kind == 1) {
            model.add(0, 0, 5);
            model.add(1, 12, -1);
        }
        return model;
    }

    private void extremeArguments(int kind) {
        for (int a : ARGUMENTS) {
            for (int b : ARGUMENTS) {
                changesWithExtremes(kind, a, b);
                questionsWithExtremes(kind, a, b);
            }
        }
    }

    private void changesWithExtremes(int kind, int a, int b) {
        String name = "state " + kind + ", arguments " + a + ", " + b;
        for (int call = 0; call <= 7; call++) {
            ShapeRing ring = ringOfKind(kind);
            Model model = modelOfKind(kind);
            check.due(name + ": call " + call, change(ring, call, a, b), change(model, call, a, b));
            rings.dueSame(name + ": call " + call, ring, model);
        }
    }

    private int change(ShapeRing ring, int call, int a, int b) {
        return switch (call) {
            case 0 -> ring.add(a, b, GREATEST);
            case 1 -> ring.scale(a, b);
            case 2 -> ring.combine(b);
            case 3 -> ring.timesShape(a, b);
            case 4 -> ring.timesPower(a, b);
            case 5 -> ring.product();
            case 6 -> ring.skew(a, b);
            default -> ring.part(a, b);
        };
    }

    private int change(Model model, int call, int a, int b) {
        return switch (call) {
            case 0 -> model.add(a, b, GREATEST);
            case 1 -> model.scale(a, b);
            case 2 -> model.combine(b);
            case 3 -> model.timesShape(a, b);
            case 4 -> model.timesPower(a, b);
            case 5 -> model.product();
            case 6 -> model.skew(a, b);
            default -> model.part(a, b);
        };
    }

    private void questionsWithExtremes(int kind, int a, int b) {
        ShapeRing ring = ringOfKind(kind);
        Model model = modelOfKind(kind);
        String name = "state " + kind + ": ";
        check.due(name + "degree(" + a + ")", ring.degree(a), model.degree(a));
        check.due(name + "shapes(" + a + ")", ring.shapes(a), model.shapes(a));
        check.due(name + "coefficient(" + a + ", " + b + ")",
            ring.coefficient(a, b), model.coefficient(a, b));
        check.due(name + "inner()", ring.inner(), model.inner());
        for (int c : ARGUMENTS) {
            check.due(name + "number(" + a + ", " + b + ", " + c + ")",
                ring.number(a, b, c), model.number(a, b, c));
            for (int d : ARGUMENTS) {
                String last = "(" + a + ", " + b + ", " + c + ", " + d + ")";
                check.due(name + "monomial" + last, ring.monomial(a, b, c, d), model.monomial(a, b, c, d));
                check.due(name + "value" + last, ring.value(a, b, c, d), model.value(a, b, c, d));
            }
        }
    }

    // "A refused call answers the code named and changes nothing."
    private void refusedCallsChangeNothing() {
        int[] codes = {-1, 10, 21, 101, 334, 1000, LEAST, GREATEST};
        for (int e = 0; e <= 1; e++) {
            int element = e;
            for (int code : codes) {
                rings.dueUnchanged("add, code " + code, ring -> ring.add(element, code, 1), BAD);
                rings.dueUnchanged("timesShape, code " + code, ring -> ring.timesShape(element, code), BAD);
                rings.dueUnchanged("skew, code " + code, ring -> ring.skew(element, code), BAD);
                rings.dueUnchanged("coefficient, code " + code,
                    ring -> ring.coefficient(element, code), BAD);
                rings.dueUnchanged("number, code " + code, ring -> ring.number(element, 1, code), BAD);
            }
            int[] numbers = {-1, 10, LEAST, GREATEST};
            for (int n : numbers) {
                rings.dueUnchanged("timesPower by " + n, ring -> ring.timesPower(element, n), BAD);
                rings.dueUnchanged("part " + n, ring -> ring.part(element, n), BAD);
            }
            rings.dueUnchanged("timesPower by 0", ring -> ring.timesPower(element, 0), BAD);
            rings.dueUnchanged("timesPower by 1", ring -> ring.timesPower(element, 1), FULL);
            rings.dueUnchanged("timesPower by 9", ring -> ring.timesPower(element, 9), FULL);
            rings.dueUnchanged("timesShape by 1", ring -> ring.timesShape(element, 1), FULL);
            rings.dueUnchanged("timesShape by 333", ring -> ring.timesShape(element, 333), FULL);
        }
        rings.dueUnchanged("product()", ShapeRing::product, FULL);
    }

    // "In every call with an element e: e not 0 or 1 answers BAD_ARG, tested first".
    private void elementIsTestedFirst() {
        int[] others = {0, 1, 9, 10, 333, -1, LEAST, GREATEST};
        for (int e : Rings.WRONG_ELEMENTS) {
            String name = "element " + e + ": ";
            for (int n : others) {
                rings.dueUnchanged(name + "add", ring -> ring.add(e, n, 1), BAD);
                rings.dueUnchanged(name + "scale", ring -> ring.scale(e, n), BAD);
                rings.dueUnchanged(name + "timesShape", ring -> ring.timesShape(e, n), BAD);
                rings.dueUnchanged(name + "timesPower", ring -> ring.timesPower(e, n), BAD);
                rings.dueUnchanged(name + "skew", ring -> ring.skew(e, n), BAD);
                rings.dueUnchanged(name + "part", ring -> ring.part(e, n), BAD);
                rings.dueUnchanged(name + "coefficient", ring -> ring.coefficient(e, n), BAD);
                rings.dueUnchanged(name + "monomial", ring -> ring.monomial(e, n, -1, 0), BAD);
                rings.dueUnchanged(name + "value", ring -> ring.value(e, n, 0, 1), BAD);
            }
            rings.dueUnchanged(name + "degree", ring -> ring.degree(e), BAD);
            rings.dueUnchanged(name + "shapes", ring -> ring.shapes(e), BAD);
            ShapeRing empty = new ShapeRing();
            check.due(name + "degree, when 0", empty.degree(e), BAD);
            check.due(name + "shapes, when 0", empty.shapes(e), BAD);
            check.due(name + "monomial, when 0", empty.monomial(e, 0, 0, 0), BAD);
            check.due(name + "value, when 0", empty.value(e, 0, 0, 0), BAD);
            check.due(name + "timesShape, when 0", empty.timesShape(e, 333), BAD);
        }
    }

    // "then a code that is not the code of a shape answers BAD_ARG": before FULL is looked at, and
    // for an element that is 0 as well.
    private void codeIsTestedBeforeFull() {
        int[] codes = {-1, 10, 19, 334, 1000, LEAST, GREATEST};
        for (int code : codes) {
            ShapeRing full = Rings.of(333, 1, 9, 1);
            check.due("full: timesShape(0, " + code + ")", full.timesShape(0, code), BAD);
            check.due("full: timesShape(1, " + code + ")", full.timesShape(1, code), BAD);
            ShapeRing empty = new ShapeRing();
            check.due("empty: timesShape(0, " + code + ")", empty.timesShape(0, code), BAD);
            check.due("empty: skew(1, " + code + ")", empty.skew(1, code), BAD);
            check.due("empty: coefficient(1, " + code + ")", empty.coefficient(1, code), BAD);
            check.due("empty: add(1, " + code + ", 0)", empty.add(1, code, 0), BAD);
        }
    }

    // "`BAD_ARG = -1`", "`FULL = -2`", "`NONE = -4`".
    private void constants() {
        check.due("BAD_ARG", ShapeRing.BAD_ARG, -1);
        check.due("FULL", ShapeRing.FULL, -2);
        check.due("NONE", ShapeRing.NONE, -4);
    }
}
