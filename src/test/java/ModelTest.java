// Long runs of calls, drawn by a fixed rule, on an object and on the model: all answers agree.
public final class ModelTest {
    private static final int WALKS = 600;
    private static final int STEPS = 40;
    private static final int[] WRONG_CODES = {
        -1, 10, 21, 100, 101, 110, 120, 211, 334, 19, 55, 400, 444, 1000, -12, -110,
        Integer.MIN_VALUE, Integer.MAX_VALUE
    };
    private static final int[] NUMBERS = {
        0, 1, -1, 2, -2, 3, -7, 1 << 16, 1 << 30, 1 << 31, Integer.MAX_VALUE, 65537, 1000003
    };
    private static final int[] SMALL_CODES = {0, 1, 2, 11, 3, 12, 111};

    private final Check check = new Check();
    private long state = 20240501L;

    public static void main(String[] args) {
        ModelTest test = new ModelTest();
        for (int walk = 0; walk < WALKS; walk++) {
            test.walk(walk);
        }
        test.allMonomials();
        test.check.end("ModelTest");
    }

    private int draw(int bound) {
        state = state * 6364136223846793005L + 1442695040888963407L;
        return (int) ((state >>> 33) % bound);
    }

    private int drawFrom(int[] list) {
        return list[draw(list.length)];
    }

    private int drawElement() {
        int n = draw(40);
        return n == 0 ? drawFrom(new int[] {-1, 2, 3, Integer.MIN_VALUE, Integer.MAX_VALUE}) : n % 2;
    }

    private int drawCode() {
        int n = draw(20);
        if (n == 0) {
            return drawFrom(WRONG_CODES);
        }
        return n < 10 ? drawFrom(SMALL_CODES) : drawFrom(Model.CODES);
    }

    private void walk(int walk) {
        ShapeRing ring = new ShapeRing();
        Model model = new Model();
        String name = "walk " + walk;
        for (int step = 0; step < STEPS; step++) {
            change(name + ", step " + step, ring, model);
            ask(name + ", step " + step, ring, model);
        }
        for (int e = 0; e <= 1; e++) {
            for (int code : Model.CODES) {
                check.due(name + ": coefficient(" + e + ", " + code + ")",
                    ring.coefficient(e, code), model.coefficient(e, code));
            }
        }
    }

    private void change(String name, ShapeRing ring, Model model) {
        int e = drawElement();
        int code = drawCode();
        int n = drawFrom(NUMBERS);
        int small = draw(12) - 1;
        switch (draw(14)) {
            case 0, 1, 2, 3 -> check.due(name + ": add(" + e + ", " + code + ", " + n + ")",
                ring.add(e, code, n), model.add(e, code, n));
            case 4 -> check.due(name + ": scale(" + e + ", " + n + ")",
                ring.scale(e, n), model.scale(e, n));
            case 5, 6 -> check.due(name + ": combine(" + n + ")", ring.combine(n), model.combine(n));
            case 7 -> check.due(name + ": swap()", ring.swap(), model.swap());
            case 8, 9 -> check.due(name + ": timesShape(" + e + ", " + code + ")",
                ring.timesShape(e, code), model.timesShape(e, code));
            case 10 -> check.due(name + ": timesPower(" + e + ", " + small + ")",
                ring.timesPower(e, small), model.timesPower(e, small));
            case 11 -> check.due(name + ": product()", ring.product(), model.product());
            case 12 -> check.due(name + ": skew(" + e + ", " + code + ")",
                ring.skew(e, code), model.skew(e, code));
            default -> check.due(name + ": part(" + e + ", " + small + ")",
                ring.part(e, small), model.part(e, small));
        }
    }

    private void ask(String name, ShapeRing ring, Model model) {
        int e = drawElement();
        int i = draw(12) - 1;
        int j = draw(6) - 1;
        int k = draw(5) - 1;
        int x = drawFrom(NUMBERS);
        int y = draw(7) - 3;
        int z = drawFrom(NUMBERS);
        check.due(name + ": degree(" + e + ")", ring.degree(e), model.degree(e));
        check.due(name + ": shapes(" + e + ")", ring.shapes(e), model.shapes(e));
        check.due(name + ": monomial(" + e + ", " + i + ", " + j + ", " + k + ")",
            ring.monomial(e, i, j, k), model.monomial(e, i, j, k));
        check.due(name + ": value(" + e + ", " + x + ", " + y + ", " + z + ")",
            ring.value(e, x, y, z), model.value(e, x, y, z));
        check.due(name + ": inner()", ring.inner(), model.inner());
        int p = drawCode();
        int q = drawCode();
        int r = drawCode();
        check.due(name + ": number(" + p + ", " + q + ", " + r + ")",
            ring.number(p, q, r), model.number(p, q, r));
    }

    // Every shape's monomials, one size beyond the greatest too.
    private void allMonomials() {
        for (int code : Model.CODES) {
            ShapeRing ring = new ShapeRing();
            Model model = new Model();
            ring.add(1, code, 1);
            model.add(1, code, 1);
            for (int i = -1; i <= 10; i++) {
                for (int j = -1; i + j <= 10; j++) {
                    int k = Model.sizeOf(code) - i - j;
                    check.due(code + ": monomial(1, " + i + ", " + j + ", " + k + ")",
                        ring.monomial(1, i, j, k), model.monomial(1, i, j, k));
                }
            }
        }
    }
}
