/** Promise 12, patch: a byte becomes another, or comes behind the last. */
public final class Promise12Test {
    private static final Due DUE = new Due("promise 12, patch");

    public static void main(String[] args) {
        byteThatIsThere();
        behindTheLast();
        indexOutside();
        byteOutside();
        byteLeastAndMost();
        fourHundred();
        roomAgain();
        refusedChangesNothing();
        countsAtOnce();
        methodStays();
        DUE.end("Promise12Test");
    }

    private static int[] i(int... numbers) {
        return numbers;
    }

    private static void byteThatIsThere() {
        DUE.edge("byte k is b from now on, the others stay");
        MapForge x = new MapForge();
        DUE.lay(x, 5, 6, 7);
        DUE.is("patch(1, 255)", x.patch(1, 255), true);
        DUE.map(x, 5, 255, 7);
        DUE.is("patch(0, 0)", x.patch(0, 0), true);
        DUE.is("patch(2, 1)", x.patch(2, 1), true);
        DUE.map(x, 0, 255, 1);
    }

    private static void behindTheLast() {
        DUE.edge("with k as many as there are it comes behind them");
        MapForge x = new MapForge();
        DUE.is("patch(0, 9)", x.patch(0, 9), true);
        DUE.map(x, 9);
        DUE.is("patch(1, 8)", x.patch(1, 8), true);
        DUE.map(x, 9, 8);
        DUE.is("patch(2, 7)", x.patch(2, 7), true);
        DUE.map(x, 9, 8, 7);
    }

    private static void indexOutside() {
        DUE.edge("k is below 0, or more than there are");
        MapForge x = new MapForge();
        DUE.is("patch(1, 0) of an empty MAP", x.patch(1, 0), false);
        DUE.is("patch(-1, 0) of an empty MAP", x.patch(-1, 0), false);
        DUE.lay(x, 5, 6, 7);
        for (int k : i(-1, -2, 4, 5, 259, 399, 400, 401, 65539, Integer.MIN_VALUE, Integer.MAX_VALUE)) {
            DUE.is("patch(" + k + ", 0)", x.patch(k, 0), false);
        }
        DUE.map(x, 5, 6, 7);
    }

    private static void byteOutside() {
        DUE.edge("b is not 0 to 255");
        MapForge x = new MapForge();
        DUE.lay(x, 5);
        for (int b : Due.outside(0, 255)) {
            DUE.is("patch(0, " + b + ")", x.patch(0, b), false);
            DUE.is("patch(1, " + b + ")", x.patch(1, b), false);
        }
        DUE.map(x, 5);
    }

    private static void byteLeastAndMost() {
        DUE.edge("b is 0 to 255");
        MapForge x = new MapForge();
        for (int b = 0; b < 256; b += 5) {
            DUE.is("patch(0, " + b + ")", x.patch(0, b), true);
            DUE.is("map(0)", x.map(0), b);
        }
    }

    private static MapForge full() {
        MapForge x = new MapForge();
        for (int k = 0; k < 400; k++) {
            x.patch(k, 3);
        }
        return x;
    }

    private static void fourHundred() {
        DUE.edge("the 400th byte has room");
        MapForge x = full();
        DUE.is("map(-1)", x.map(-1), 400);
        x.cut(399);
        DUE.is("patch(399, 4)", x.patch(399, 4), true);
        DUE.is("map(399)", x.map(399), 4);
        DUE.edge("false: it has 400, and nothing comes behind them");
        DUE.is("patch(400, 1)", x.patch(400, 1), false);
        DUE.is("patch(401, 1)", x.patch(401, 1), false);
        DUE.is("map(-1)", x.map(-1), 400);
        DUE.is("map(400)", x.map(400), MapForge.NONE);
        DUE.edge("of 400 bytes one that is there can be another");
        DUE.is("patch(0, 9)", x.patch(0, 9), true);
        DUE.is("patch(399, 9)", x.patch(399, 9), true);
        DUE.is("map(0)", x.map(0), 9);
        DUE.is("map(399)", x.map(399), 9);
        DUE.is("map(-1)", x.map(-1), 400);
    }

    private static void roomAgain() {
        DUE.edge("behind 400 bytes that were cut there is room again");
        MapForge x = full();
        DUE.is("patch(400, 1)", x.patch(400, 1), false);
        DUE.is("cut(1)", x.cut(1), 399);
        DUE.is("patch(2, 1)", x.patch(2, 1), false);
        DUE.is("patch(1, 1)", x.patch(1, 1), true);
        DUE.map(x, 3, 1);
    }

    private static void refusedChangesNothing() {
        DUE.edge("a refused call changes nothing");
        MapForge x = DUE.method(0, 0, false, i(31, 1), i(18));
        DUE.is("make()", x.make(), 1);
        String before = Due.stateOf(x);
        DUE.is("patch(0, 256)", x.patch(0, 256), false);
        DUE.is("patch(1, -1)", x.patch(1, -1), false);
        DUE.is("patch(2, 0)", x.patch(2, 0), false);
        DUE.is("patch(-1, 0)", x.patch(-1, 0), false);
        DUE.same("all", Due.stateOf(x), before);
    }

    private static void countsAtOnce() {
        DUE.edge("another byte counts at once for check, row and count");
        MapForge x = DUE.method(0, 0, false, i(31, 1), i(18));
        DUE.is("make()", x.make(), 1);
        DUE.is("check()", x.check(), MapForge.NONE);
        DUE.is("patch(0, 0)", x.patch(0, 0), true);
        DUE.is("row(0, 21)", x.row(0, 21), 0);
        DUE.is("check()", x.check(), 0);
        DUE.is("patch(1, 2)", x.patch(1, 2), true);
        DUE.is("count(4)", x.count(4), 2);
        DUE.is("check()", x.check(), MapForge.NONE);
        DUE.is("patch(1, 128)", x.patch(1, 128), true);
        DUE.is("count(4)", x.count(4), MapForge.BROKEN);
        DUE.is("check()", x.check(), MapForge.BROKEN);
    }

    private static void methodStays() {
        DUE.edge("METHOD and flow stay");
        MapForge x = DUE.method(0, 0, false, i(31, 1), i(18));
        x.patch(0, 77);
        DUE.is("count(0)", x.count(0), 2);
        DUE.is("flow(1, 20)", x.flow(1, 20), 0);
        DUE.is("make()", x.make(), 1);
        DUE.map(x, 3);
    }
}
