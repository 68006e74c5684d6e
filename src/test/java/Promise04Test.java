/** Promise 4, argument: which TYPES are as said, how many, and the LOCALS that they take. */
public final class Promise04Test {
    private static final Due DUE = new Due("promise 4, argument");

    public static void main(String[] args) {
        plainTypes();
        objects();
        kindsThatAreNone();
        plainWithAPart();
        classTooLarge();
        negative();
        refusedChangesNothing();
        howMany();
        full();
        inOrder();
        wideTakesTwo();
        mostLocals();
        countsAtOnce();
        DUE.end("Promise04Test");
    }

    private static int[] i(int... numbers) {
        return numbers;
    }

    private static void plainTypes() {
        DUE.edge("TYPES 1 to 4");
        for (int type = 1; type <= 4; type++) {
            MapForge x = DUE.method(0, 0, false, i(18));
            DUE.is("argument(" + type + ")", x.argument(type), 1);
            DUE.is("flow(0, 0)", x.flow(0, 0), type);
        }
    }

    private static void objects() {
        DUE.edge("OBJECT of a CLASS 0 to 7");
        for (int c = 0; c < 8; c++) {
            MapForge x = DUE.method(0, 0, false, i(18));
            DUE.is("argument(" + (16 * c + 7) + ")", x.argument(16 * c + 7), 1);
            DUE.is("flow(0, 0)", x.flow(0, 0), 16 * c + 7);
        }
    }

    private static void refuse(int... types) {
        MapForge x = new MapForge();
        for (int type : types) {
            DUE.is("argument(" + type + ")", x.argument(type), MapForge.REFUSED);
        }
        DUE.is("count(2)", x.count(2), 0);
    }

    private static void kindsThatAreNone() {
        DUE.edge("TOP, NULL, RAW THIS, RAW, and numbers of no TYPE");
        refuse(0, 5, 6, 8, 9, 10, 11, 12, 13, 14, 15);
        refuse(16 * 3 + 8, 16 * 3 + 6, 16 * 3 + 5, 16 * 3, 16 * 3 + 15);
    }

    private static void plainWithAPart() {
        DUE.edge("1 to 4 with a CLASS");
        for (int part = 1; part < 9; part++) {
            refuse(16 * part + 1, 16 * part + 2, 16 * part + 3, 16 * part + 4);
        }
    }

    private static void classTooLarge() {
        DUE.edge("OBJECT of a CLASS above 7");
        refuse(16 * 8 + 7, 16 * 15 + 7, 16 * 16 + 7, 16 * 256 + 7, 16 * 65536 + 7, Integer.MAX_VALUE - 8, Integer.MAX_VALUE);
    }

    private static void negative() {
        DUE.edge("numbers below 0");
        refuse(-1, -2, -9, 7 - 32, 1 - 16, 4 - 16, Integer.MIN_VALUE, Integer.MIN_VALUE + 1, Integer.MIN_VALUE + 7);
    }

    private static void refusedChangesNothing() {
        DUE.edge("a refused call changes nothing");
        MapForge x = DUE.method(0, 0, false, i(18));
        x.argument(1);
        String before = Due.stateOf(x);
        for (int type : i(0, 5, 6, 8, -9, 135, 17)) {
            DUE.is("argument(" + type + ")", x.argument(type), MapForge.REFUSED);
        }
        DUE.same("all", Due.stateOf(x), before);
    }

    private static void howMany() {
        DUE.edge("how many, from 1 to 4");
        MapForge x = new MapForge();
        for (int k = 1; k <= 4; k++) {
            DUE.is("argument(3)", x.argument(3), k);
            DUE.is("count(2)", x.count(2), k);
        }
    }

    private static void full() {
        DUE.edge("FULL with 4, and nothing changes");
        MapForge x = DUE.method(0, 0, false, i(18));
        for (int type = 1; type <= 4; type++) {
            x.argument(type);
        }
        String before = Due.stateOf(x);
        for (int type : i(1, 2, 3, 4, 7, 119)) {
            DUE.is("argument(" + type + ")", x.argument(type), MapForge.FULL);
        }
        DUE.is("argument(0), not as said", x.argument(0), MapForge.REFUSED);
        DUE.same("all", Due.stateOf(x), before);
        DUE.is("flow(0, 6)", x.flow(0, 6), 0);
    }

    private static void locals(MapForge x, int... types) {
        for (int local = 0; local < 10; local++) {
            DUE.is("flow(0, " + local + ")", x.flow(0, local), local < types.length ? types[local] : 0);
        }
    }

    private static void inOrder() {
        DUE.edge("the LOCALS from 0 on have them in their order, TOP is in the others");
        MapForge x = DUE.method(0, 0, false, i(18));
        for (int type : i(2, 119, 1, 7)) {
            x.argument(type);
        }
        locals(x, 2, 119, 1, 7);
    }

    private static void wideTakesTwo() {
        DUE.edge("a WIDE one takes the next LOCAL, too");
        MapForge x = DUE.method(0, 0, false, i(18));
        for (int type : i(3, 2, 119, 4)) {
            x.argument(type);
        }
        locals(x, 3, 0, 2, 119, 4, 0);
    }

    private static void mostLocals() {
        DUE.edge("THIS and 4 WIDE ones take LOCALS 0 to 8");
        for (int mode = 1; mode < 3; mode++) {
            MapForge x = DUE.method(5, mode, false, i(5), i(20));
            for (int k = 1; k <= 4; k++) {
                DUE.is("argument(4)", x.argument(4), k);
            }
            locals(x, mode == 1 ? 16 * 5 + 7 : 6, 4, 0, 4, 0, 4, 0, 4, 0, 0);
        }
    }

    private static void countsAtOnce() {
        DUE.edge("one more counts at once for flow, make, check and rows");
        MapForge x = DUE.method(0, 0, false, i(21, 0), i(6), i(18));
        x.patch(0, 2);
        DUE.right("LOCAL 0 is TOP", x, false);
        DUE.is("check()", x.check(), 0);
        DUE.is("row(0, 0)", x.row(0, 0), 0);
        DUE.is("argument(1)", x.argument(1), 1);
        DUE.is("row(0, 0)", x.row(0, 0), 1);
        DUE.is("flow(0, 0)", x.flow(0, 0), 1);
        DUE.is("check()", x.check(), 1);
        DUE.right("LOCAL 0 is INT", x, true);
    }
}
