/** Promise 3, method: which numbers are as said, what each mode does, and what goes and stays. */
public final class Promise03Test {
    private static final Due DUE = new Due("promise 3, method");

    public static void main(String[] args) {
        ownOutside();
        ownLeastAndMost();
        modeOutside();
        refusedChangesNothing();
        modeStatic();
        modeNotStatic();
        modeConstructor();
        gives();
        givesIsNotLookedAt();
        emptied();
        roomAgain();
        nothingIsLeftOver();
        mapStays();
        classesStay();
        DUE.end("Promise03Test");
    }

    private static int[] i(int... numbers) {
        return numbers;
    }

    private static void ownOutside() {
        DUE.edge("own is not 0 to 7");
        MapForge x = new MapForge();
        for (int own : Due.outside(0, 7)) {
            for (int mode = 0; mode < 3; mode++) {
                DUE.is("method(" + own + ", " + mode + ", false)", x.method(own, mode, false), false);
            }
        }
    }

    private static void ownLeastAndMost() {
        DUE.edge("own is 0 to 7");
        MapForge x = new MapForge();
        for (int own = 0; own < 8; own++) {
            DUE.is("method(" + own + ", 1, false)", x.method(own, 1, false), true);
            DUE.write(x, i(18));
            DUE.is("flow(0, 0)", x.flow(0, 0), 16 * own + 7);
        }
    }

    private static void modeOutside() {
        DUE.edge("mode is not 0 to 2");
        MapForge x = new MapForge();
        for (int mode : Due.outside(0, 2)) {
            DUE.is("method(0, " + mode + ", false)", x.method(0, mode, false), false);
            DUE.is("method(7, " + mode + ", true)", x.method(7, mode, true), false);
        }
    }

    private static void refusedChangesNothing() {
        DUE.edge("a refused call changes nothing");
        MapForge x = DUE.method(3, 2, false, i(25, 0), i(36, 3), i(18));
        x.argument(4);
        x.handle(0, 1, 2, 0);
        x.patch(0, 5);
        String before = Due.stateOf(x);
        DUE.is("method(8, 0, true)", x.method(8, 0, true), false);
        DUE.is("method(-1, 0, true)", x.method(-1, 0, true), false);
        DUE.is("method(0, 3, true)", x.method(0, 3, true), false);
        DUE.is("method(0, -1, true)", x.method(0, -1, true), false);
        DUE.same("all", Due.stateOf(x), before);
    }

    private static void modeStatic() {
        DUE.edge("mode 0: no THIS, the ARGUMENTS from LOCAL 0 on");
        MapForge x = DUE.method(5, 0, false, i(18));
        DUE.is("flow(0, 0)", x.flow(0, 0), 0);
        DUE.is("argument(2)", x.argument(2), 1);
        DUE.is("flow(0, 0)", x.flow(0, 0), 2);
        DUE.is("flow(0, 1)", x.flow(0, 1), 0);
        DUE.is("flow(0, 21)", x.flow(0, 21), 0);
    }

    private static void modeNotStatic() {
        DUE.edge("mode 1: OBJECT OWN in LOCAL 0, the ARGUMENTS from LOCAL 1 on");
        MapForge x = DUE.method(5, 1, false, i(18));
        DUE.is("argument(2)", x.argument(2), 1);
        DUE.is("flow(0, 0)", x.flow(0, 0), 16 * 5 + 7);
        DUE.is("flow(0, 1)", x.flow(0, 1), 2);
        DUE.is("flow(0, 2)", x.flow(0, 2), 0);
        DUE.is("flow(0, 21)", x.flow(0, 21), 0);
    }

    private static void modeConstructor() {
        DUE.edge("mode 2: RAW THIS in LOCAL 0, till an INIT of it");
        MapForge x = DUE.method(5, 2, false, i(25, 0), i(36, 5), i(18));
        DUE.is("argument(2)", x.argument(2), 1);
        DUE.is("flow(0, 0)", x.flow(0, 0), 6);
        DUE.is("flow(0, 1)", x.flow(0, 1), 2);
        DUE.is("flow(0, 21)", x.flow(0, 21), 1);
        DUE.is("flow(2, 0)", x.flow(2, 0), 16 * 5 + 7);
        DUE.is("flow(2, 21)", x.flow(2, 21), 0);
        DUE.is("RETURN before INIT", DUE.method(5, 2, false, i(18)).make(), MapForge.WRONG);
    }

    private static void gives() {
        DUE.edge("gives an INT or not, in modes 0 and 1");
        for (int mode = 0; mode < 2; mode++) {
            DUE.right("RETURN INT, gives", DUE.method(0, mode, true, i(1), i(19)), true);
            DUE.right("RETURN INT, gives nothing", DUE.method(0, mode, false, i(1), i(19)), false);
            DUE.right("RETURN, gives", DUE.method(0, mode, true, i(1), i(18)), false);
            DUE.right("RETURN, gives nothing", DUE.method(0, mode, false, i(1), i(18)), true);
        }
    }

    private static void givesIsNotLookedAt() {
        DUE.edge("gives is not looked at for mode 2");
        for (int turn = 0; turn < 2; turn++) {
            boolean told = turn == 1;
            DUE.right("RETURN", DUE.method(0, 2, told, i(25, 0), i(36, 0), i(18)), true);
            DUE.right("RETURN INT", DUE.method(0, 2, told, i(25, 0), i(36, 0), i(1), i(19)), false);
        }
    }

    private static void emptied() {
        DUE.edge("it has no ARGUMENTS, CODE and HANDLERS");
        for (int mode = 0; mode < 3; mode++) {
            MapForge x = DUE.method(0, 0, false, i(31, 1), i(18));
            x.argument(4);
            x.argument(7);
            x.handle(0, 1, 1, 0);
            DUE.is("method(0, " + mode + ", false)", x.method(0, mode, false), true);
            for (int what = 0; what < 4; what++) {
                DUE.is("count(" + what + ")", x.count(what), 0);
            }
            DUE.is("code(0, 0)", x.code(0, 0), MapForge.NONE);
            DUE.is("flow(0, 0)", x.flow(0, 0), MapForge.NONE);
            DUE.is("make()", x.make(), MapForge.WRONG);
            DUE.is("check()", x.check(), MapForge.WRONG);
        }
    }

    private static void roomAgain() {
        DUE.edge("where all was full there is room again");
        MapForge x = new MapForge();
        for (int k = 0; k < 50; k++) {
            x.add(0, 0, 0);
        }
        for (int k = 0; k < 4; k++) {
            x.argument(1);
            x.handle(0, 1, 0, 0);
        }
        DUE.is("add with 50", x.add(0, 0, 0), MapForge.FULL);
        DUE.is("argument with 4", x.argument(1), MapForge.FULL);
        DUE.is("handle with 4", x.handle(0, 1, 0, 0), MapForge.FULL);
        DUE.is("method(0, 0, false)", x.method(0, 0, false), true);
        DUE.is("add", x.add(0, 0, 0), 1);
        DUE.is("argument", x.argument(1), 1);
        DUE.is("handle", x.handle(0, 1, 0, 0), 1);
    }

    private static void nothingIsLeftOver() {
        DUE.edge("what was there before does nothing any more");
        MapForge x = DUE.method(0, 0, false, i(31, 1), i(31, 2), i(20));
        x.argument(1);
        x.argument(2);
        x.handle(0, 50, 2, 3);
        DUE.is("make(), the STACKS of PLACE 2 differ", x.make(), MapForge.WRONG);
        DUE.is("change(1)", x.change(1, 18, 0, 0), true);
        DUE.is("make()", x.make(), 2);
        DUE.is("method(0, 0, false)", x.method(0, 0, false), true);
        DUE.write(x, i(0), i(0), i(18));
        DUE.is("make()", x.make(), 0);
        DUE.is("check()", x.check(), MapForge.NONE);
        DUE.is("flow(0, 0)", x.flow(0, 0), 0);
        DUE.is("flow(2, 20)", x.flow(2, 20), 0);
        DUE.is("code(2, 3)", x.code(2, 3), 2);
        DUE.is("count(3)", x.count(3), 3);
    }

    private static void mapStays() {
        DUE.edge("the MAP stays");
        MapForge x = DUE.method(0, 0, false, i(31, 1), i(18));
        DUE.is("make()", x.make(), 1);
        DUE.is("patch(1, 200)", x.patch(1, 200), true);
        for (int mode = 0; mode < 3; mode++) {
            DUE.is("method(0, " + mode + ", false)", x.method(0, mode, false), true);
            DUE.map(x, 3, 200);
        }
    }

    private static void classesStay() {
        DUE.edge("the CLASSES stay");
        MapForge x = new MapForge();
        x.type(3, 2, false);
        x.type(4, 0, true);
        DUE.is("method(3, 1, true)", x.method(3, 1, true), true);
        DUE.write(x, i(25, 0), i(37, 2), i(19));
        DUE.right("3 IS 2", x, true);
        DUE.is("change", x.change(1, 37, 4, 0), true);
        DUE.right("3 IS the FACE 4", x, true);
    }
}
