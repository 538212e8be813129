// The calls that take shapes two or three at a time, for all shapes, against the model.
public final class ProductsTest {
    private final Check check = new Check();
    private final Model model = new Model();

    public static void main(String[] args) {
        ProductsTest test = new ProductsTest();
        for (int p : Model.CODES) {
            for (int q : Model.CODES) {
                test.number(p, q);
                test.timesShape(p, q);
                test.product(p, q);
                test.skew(p, q);
            }
            for (int r = 1; r <= 9; r++) {
                test.timesPower(p, r);
            }
        }
        test.check.end("ProductsTest");
    }

    private void number(int p, int q) {
        ShapeRing ring = new ShapeRing();
        for (int r : Model.CODES) {
            check.due("number(" + p + ", " + q + ", " + r + ")",
                ring.number(p, q, r), model.number(p, q, r));
        }
    }

    private void timesShape(int p, int q) {
        ShapeRing ring = new ShapeRing();
        ring.add(1, q, 3);
        boolean full = Model.sizeOf(p) + Model.sizeOf(q) > 9;
        check.due(q + ": timesShape(1, " + p + ")", ring.timesShape(1, p), full ? -2 : 0);
        for (int r : Model.CODES) {
            int kept = r == q ? 3 : 0;
            check.due(q + ": timesShape(1, " + p + "), coefficient(1, " + r + ")",
                ring.coefficient(1, r), full ? kept : 3 * model.number(p, q, r));
        }
    }

    private void product(int p, int q) {
        ShapeRing ring = new ShapeRing();
        ring.add(0, p, 2);
        ring.add(1, q, -5);
        boolean full = Model.sizeOf(p) + Model.sizeOf(q) > 9;
        check.due(p + " by " + q + ": product()", ring.product(), full ? -2 : 0);
        for (int r : Model.CODES) {
            int kept = r == p ? 2 : 0;
            check.due(p + " by " + q + ": product(), coefficient(0, " + r + ")",
                ring.coefficient(0, r), full ? kept : -10 * model.number(p, q, r));
            check.due(p + " by " + q + ": product(), coefficient(1, " + r + ")",
                ring.coefficient(1, r), r == q ? -5 : 0);
        }
    }

    private void skew(int p, int r) {
        ShapeRing ring = new ShapeRing();
        ring.add(0, r, 7);
        check.due(r + ": skew(0, " + p + ")", ring.skew(0, p), 0);
        for (int q : Model.CODES) {
            check.due(r + ": skew(0, " + p + "), coefficient(0, " + q + ")",
                ring.coefficient(0, q), 7 * model.number(p, q, r));
        }
    }

    private void timesPower(int p, int r) {
        ShapeRing ring = new ShapeRing();
        Model other = new Model();
        ring.add(0, p, 1);
        other.add(0, p, 1);
        check.due(p + ": timesPower(0, " + r + ")", ring.timesPower(0, r), other.timesPower(0, r));
        for (int q : Model.CODES) {
            check.due(p + ": timesPower(0, " + r + "), coefficient(0, " + q + ")",
                ring.coefficient(0, q), other.coefficient(0, q));
        }
    }
}
