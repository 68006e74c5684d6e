/** Promise 13, cut: the first n bytes stay. */
public final class Promise13Test {
    private static final Due DUE = new Due("promise 13, cut");

    public static void main(String[] args) {
        emptyMap();
        allGo();
        noneGo();
        someGo();
        tooSmall();
        tooLarge();
        refusedChangesNothing();
        goneForGood();
        fourHundred();
        countsAtOnce();
        methodStays();
        DUE.end("Promise13Test");
    }

    private static int[] i(int... numbers) {
        return numbers;
    }

    private static MapForge four() {
        MapForge x = new MapForge();
        DUE.lay(x, 5, 6, 7, 8);
        return x;
    }

    private static void emptyMap() {
        DUE.edge("of an empty MAP 0 bytes go, and n is 0 alone");
        MapForge x = new MapForge();
        DUE.is("cut(0)", x.cut(0), 0);
        DUE.is("cut(1)", x.cut(1), MapForge.REFUSED);
        DUE.is("cut(-1)", x.cut(-1), MapForge.REFUSED);
        DUE.map(x);
    }

    private static void allGo() {
        DUE.edge("n = 0: all go");
        MapForge x = four();
        DUE.is("cut(0)", x.cut(0), 4);
        DUE.map(x);
        DUE.is("cut(0)", x.cut(0), 0);
    }

    private static void noneGo() {
        DUE.edge("n is their number: none goes");
        MapForge x = four();
        DUE.is("cut(4)", x.cut(4), 0);
        DUE.map(x, 5, 6, 7, 8);
    }

    private static void someGo() {
        DUE.edge("the first n bytes stay, how many went");
        MapForge x = four();
        DUE.is("cut(3)", x.cut(3), 1);
        DUE.map(x, 5, 6, 7);
        DUE.is("cut(1)", x.cut(1), 2);
        DUE.map(x, 5);
    }

    private static void tooSmall() {
        DUE.edge("REFUSED: n is below 0");
        MapForge x = four();
        for (int n : i(-1, -4, -256, -65536, Integer.MIN_VALUE)) {
            DUE.is("cut(" + n + ")", x.cut(n), MapForge.REFUSED);
        }
        DUE.map(x, 5, 6, 7, 8);
    }

    private static void tooLarge() {
        DUE.edge("REFUSED: n is more than their number");
        MapForge x = four();
        for (int n : i(5, 6, 256, 260, 399, 400, 401, 65536, Integer.MAX_VALUE)) {
            DUE.is("cut(" + n + ")", x.cut(n), MapForge.REFUSED);
        }
        DUE.map(x, 5, 6, 7, 8);
    }

    private static void refusedChangesNothing() {
        DUE.edge("a refused call changes nothing");
        MapForge x = DUE.method(0, 0, false, i(31, 1), i(18));
        DUE.is("make()", x.make(), 1);
        String before = Due.stateOf(x);
        DUE.is("cut(2)", x.cut(2), MapForge.REFUSED);
        DUE.is("cut(-1)", x.cut(-1), MapForge.REFUSED);
        DUE.same("all", Due.stateOf(x), before);
    }

    private static void goneForGood() {
        DUE.edge("what went does not come again behind a new byte");
        MapForge x = four();
        DUE.is("cut(1)", x.cut(1), 3);
        DUE.is("patch(1, 9)", x.patch(1, 9), true);
        DUE.map(x, 5, 9);
        DUE.is("cut(3)", x.cut(3), MapForge.REFUSED);
    }

    private static void fourHundred() {
        DUE.edge("of 400 bytes");
        MapForge x = new MapForge();
        for (int k = 0; k < 400; k++) {
            x.patch(k, 3);
        }
        DUE.is("cut(401)", x.cut(401), MapForge.REFUSED);
        DUE.is("cut(400)", x.cut(400), 0);
        DUE.is("cut(399)", x.cut(399), 1);
        DUE.is("cut(400)", x.cut(400), MapForge.REFUSED);
        DUE.is("cut(0)", x.cut(0), 399);
        DUE.is("map(-1)", x.map(-1), 0);
    }

    private static void countsAtOnce() {
        DUE.edge("what went counts at once for check, row and count");
        MapForge x = DUE.method(0, 0, false, i(31, 1), i(31, 2), i(18));
        DUE.is("make()", x.make(), 2);
        DUE.is("check()", x.check(), MapForge.NONE);
        DUE.is("cut(1)", x.cut(1), 1);
        DUE.is("count(4)", x.count(4), 1);
        DUE.is("row(1, 21)", x.row(1, 21), MapForge.NONE);
        DUE.is("check()", x.check(), 1);
        DUE.is("cut(0)", x.cut(0), 1);
        DUE.is("check()", x.check(), 0);
        DUE.is("count(4)", x.count(4), 0);
        DUE.lay(x, 3, 67, 1);
        DUE.is("count(4)", x.count(4), MapForge.BROKEN);
        DUE.is("cut(1)", x.cut(1), 2);
        DUE.is("count(4)", x.count(4), 1);
    }

    private static void methodStays() {
        DUE.edge("METHOD and flow stay");
        MapForge x = DUE.method(0, 0, false, i(31, 1), i(18));
        DUE.is("make()", x.make(), 1);
        DUE.is("cut(0)", x.cut(0), 1);
        DUE.is("count(0)", x.count(0), 2);
        DUE.is("flow(1, 20)", x.flow(1, 20), 0);
        DUE.is("make()", x.make(), 1);
        DUE.map(x, 3);
    }
}
