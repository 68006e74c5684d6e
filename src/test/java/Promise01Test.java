/** Promise 1, a new object: each thing that it has, or has not. */
public final class Promise01Test {
    private static final Due DUE = new Due("promise 1, a new object");

    public static void main(String[] args) {
        superIsZero();
        noFace();
        isStatic();
        isOfClassZero();
        givesNothing();
        noArguments();
        noCode();
        noHandlers();
        emptyMap();
        apart();
        DUE.end("Promise01Test");
    }

    private static int[] i(int... numbers) {
        return numbers;
    }

    private static void superIsZero() {
        DUE.edge("all CLASSES have SUPER 0");
        for (int c = 1; c < 8; c++) {
            DUE.is(c + " IS 0", Due.isOf(new MapForge(), c, 0), true);
            for (int d = 1; d < 8; d++) {
                DUE.is("JOIN of " + c + " and " + d, Due.joinOf(new MapForge(), c, d), c == d ? 16 * c + 7 : 7);
                DUE.is(c + " IS " + d, Due.isOf(new MapForge(), c, d), c == d);
            }
            DUE.right("INIT of its SUPER 0", DUE.method(c, 2, false, i(25, 0), i(36, 0), i(18)), true);
        }
    }

    private static void noFace() {
        DUE.edge("no CLASS is a FACE");
        for (int c = 1; c < 8; c++) {
            DUE.is("0 IS " + c, Due.isOf(new MapForge(), 0, c), false);
        }
    }

    private static void isStatic() {
        DUE.edge("the METHOD is static");
        MapForge x = new MapForge();
        DUE.write(x, i(18));
        DUE.is("flow(0, 0)", x.flow(0, 0), 0);
        DUE.is("flow(0, 21)", x.flow(0, 21), 0);
        DUE.is("argument(1)", x.argument(1), 1);
        DUE.is("the ARGUMENT is in LOCAL 0", x.flow(0, 0), 1);
    }

    /** OWN tells in a static METHOD which INIT of a RAW THIS, told by a row, is right. */
    private static void isOfClassZero() {
        DUE.edge("the METHOD is of CLASS 0");
        for (int a = 0; a < 8; a++) {
            MapForge x = new MapForge();
            DUE.write(x, i(18), i(25, 0), i(36, a), i(18));
            DUE.lay(x, 252, 0, 1, 6);
            DUE.is("check with INIT " + a, x.check(), a == 0 ? MapForge.NONE : 2);
        }
    }

    private static void givesNothing() {
        DUE.edge("the METHOD gives nothing");
        MapForge x = new MapForge();
        DUE.write(x, i(1), i(18));
        DUE.right("RETURN", x, true);
        DUE.is("change", x.change(1, 19, 0, 0), true);
        DUE.right("RETURN INT", x, false);
    }

    private static void noArguments() {
        DUE.edge("without ARGUMENTS");
        MapForge x = new MapForge();
        DUE.is("count(2)", x.count(2), 0);
        DUE.write(x, i(18));
        for (int local = 0; local < 10; local++) {
            DUE.is("flow(0, " + local + ")", x.flow(0, local), 0);
        }
    }

    private static void noCode() {
        DUE.edge("without CODE");
        MapForge x = new MapForge();
        DUE.is("count(0)", x.count(0), 0);
        DUE.is("count(3)", x.count(3), 0);
        for (int what = 0; what < 4; what++) {
            DUE.is("code(0, " + what + ")", x.code(0, what), MapForge.NONE);
        }
        DUE.is("change(0, 0, 0, 0)", x.change(0, 0, 0, 0), false);
        DUE.is("flow(0, 0)", x.flow(0, 0), MapForge.NONE);
        DUE.is("make()", x.make(), MapForge.WRONG);
        DUE.is("check()", x.check(), MapForge.WRONG);
        DUE.is("add(18, 0, 0)", x.add(18, 0, 0), 1);
    }

    private static void noHandlers() {
        DUE.edge("without HANDLERS");
        MapForge x = new MapForge();
        DUE.is("count(1)", x.count(1), 0);
        DUE.write(x, i(0), i(18));
        DUE.is("make()", x.make(), 0);
        DUE.is("handle(0, 1, 1, 0)", x.handle(0, 1, 1, 0), 1);
    }

    private static void emptyMap() {
        DUE.edge("an empty MAP");
        MapForge x = new MapForge();
        DUE.map(x);
        DUE.is("count(4)", x.count(4), 0);
        DUE.is("row(0, 21)", x.row(0, 21), MapForge.NONE);
        DUE.is("cut(1)", x.cut(1), MapForge.REFUSED);
        DUE.is("cut(0)", x.cut(0), 0);
    }

    private static void apart() {
        DUE.edge("two objects have nothing of one another");
        MapForge x = new MapForge();
        MapForge y = new MapForge();
        x.type(1, 0, true);
        x.type(3, 2, false);
        x.method(3, 2, false);
        x.argument(4);
        DUE.write(x, i(25, 0), i(36, 2), i(18));
        x.handle(0, 3, 2, 1);
        x.patch(0, 7);
        DUE.same("the other", Due.stateOf(y), Due.stateOf(new MapForge()));
        DUE.is("0 IS 1", Due.isOf(y, 0, 1), false);
        DUE.is("3 IS 2", Due.isOf(y, 3, 2), false);
    }
}
