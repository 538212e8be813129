import java.util.function.ToIntFunction;

// Objects in known states and what is due of them; the edge tests share it.
final class Rings {
    static final int LEAST = Integer.MIN_VALUE;
    static final int GREATEST = Integer.MAX_VALUE;
    static final int[] WRONG_ELEMENTS = {-1, 2, 3, 256, 257, 65536, 65537, LEAST, LEAST + 1, GREATEST};

    // A shape of each size from 0 to 9.
    static final int[] CODE_OF_SIZE = {0, 1, 11, 12, 22, 113, 123, 25, 224, 333};

    private final Check check;

    Rings(Check check) {
        this.check = check;
    }

    static ShapeRing of(int code0, int n0, int code1, int n1) {
        ShapeRing ring = new ShapeRing();
        ring.add(0, code0, n0);
        ring.add(1, code1, n1);
        return ring;
    }

    // No two coefficients of a dense ring are the same, and none is 0.
    static int denseCoefficient(int e, int s) {
        return e == 0 ? 1000 + 3 * s : -2000 - 7 * s;
    }

    static ShapeRing dense() {
        ShapeRing ring = new ShapeRing();
        for (int s = 0; s < Model.CODES.length; s++) {
            ring.add(0, Model.CODES[s], denseCoefficient(0, s));
            ring.add(1, Model.CODES[s], denseCoefficient(1, s));
        }
        return ring;
    }

    static Model denseModel() {
        Model model = new Model();
        for (int s = 0; s < Model.CODES.length; s++) {
            model.add(0, Model.CODES[s], denseCoefficient(0, s));
            model.add(1, Model.CODES[s], denseCoefficient(1, s));
        }
        return model;
    }

    // Element e is the sum of these, given as code, number, code, number and so on, and no more.
    void dueElement(String name, ShapeRing ring, int e, int... terms) {
        for (int code : Model.CODES) {
            int want = 0;
            for (int t = 0; t < terms.length; t += 2) {
                want = terms[t] == code ? terms[t + 1] : want;
            }
            check.due(name + ": coefficient(" + e + ", " + code + ")", ring.coefficient(e, code), want);
        }
    }

    void dueDense(String name, ShapeRing ring) {
        for (int s = 0; s < Model.CODES.length; s++) {
            int code = Model.CODES[s];
            check.due(name + ": coefficient(0, " + code + ")",
                ring.coefficient(0, code), denseCoefficient(0, s));
            check.due(name + ": coefficient(1, " + code + ")",
                ring.coefficient(1, code), denseCoefficient(1, s));
        }
    }

    // Both elements of the object are those of the model.
    void dueSame(String name, ShapeRing ring, Model model) {
        for (int e = 0; e <= 1; e++) {
            for (int code : Model.CODES) {
                check.due(name + ": coefficient(" + e + ", " + code + ")",
                    ring.coefficient(e, code), model.coefficient(e, code));
            }
        }
    }

    // The call answers this on an object with no coefficient 0, and all of them stay.
    void dueUnchanged(String name, ToIntFunction<ShapeRing> call, int want) {
        ShapeRing ring = dense();
        check.due(name, call.applyAsInt(ring), want);
        dueDense(name + " changed nothing", ring);
    }
}
