/** Promise 11, map: the bytes, how many, and what is none. */
public final class Promise11Test {
    private static final Due DUE = new Due("promise 11, map");

    public static void main(String[] args) {
        howMany();
        everyByte();
        behindTheLast();
        belowZero();
        empty();
        afterACut();
        fullMap();
        changesNothing();
        DUE.end("Promise11Test");
    }

    private static int[] i(int... numbers) {
        return numbers;
    }

    private static void howMany() {
        DUE.edge("k = -1: how many");
        MapForge x = new MapForge();
        for (int n = 0; n < 20; n++) {
            DUE.is("map(-1)", x.map(-1), n);
            DUE.is("patch(" + n + ", 9)", x.patch(n, 9), true);
        }
        DUE.is("map(-1)", x.map(-1), 20);
    }

    private static void everyByte() {
        DUE.edge("byte k, of 0 to 255, never below 0");
        MapForge x = new MapForge();
        for (int b : i(0, 1, 127, 128, 200, 254, 255)) {
            DUE.is("patch(0, " + b + ")", x.patch(0, b), true);
            DUE.is("map(0)", x.map(0), b);
        }
        MapForge y = DUE.method(3, 1, false, i(1), i(26, 1), i(5), i(31, 4), i(18));
        DUE.is("make()", y.make(), 1);
        DUE.map(y, 255, 0, 7, 0, 2, 7, 0, 3, 1, 0, 1, 5);
    }

    private static void behindTheLast() {
        DUE.edge("NONE: k is as many as there are, or more");
        MapForge x = new MapForge();
        DUE.lay(x, 5, 6, 7);
        DUE.is("map(2)", x.map(2), 7);
        for (int k : i(3, 4, 258, 259, 399, 400, 401, 65536, Integer.MAX_VALUE)) {
            DUE.is("map(" + k + ")", x.map(k), MapForge.NONE);
        }
    }

    private static void belowZero() {
        DUE.edge("NONE: k is below -1");
        MapForge x = new MapForge();
        DUE.lay(x, 5, 6, 7);
        for (int k : i(-2, -3, -256, -65536, Integer.MIN_VALUE, Integer.MIN_VALUE + 1)) {
            DUE.is("map(" + k + ")", x.map(k), MapForge.NONE);
        }
        DUE.is("map(-1)", x.map(-1), 3);
    }

    private static void empty() {
        DUE.edge("an empty MAP has no byte 0");
        MapForge x = new MapForge();
        DUE.is("map(-1)", x.map(-1), 0);
        DUE.is("map(0)", x.map(0), MapForge.NONE);
    }

    private static void afterACut() {
        DUE.edge("NONE: a byte that was cut off");
        MapForge x = new MapForge();
        DUE.lay(x, 5, 6, 7);
        x.cut(1);
        DUE.is("map(0)", x.map(0), 5);
        DUE.is("map(1)", x.map(1), MapForge.NONE);
        DUE.is("map(2)", x.map(2), MapForge.NONE);
    }

    private static void fullMap() {
        DUE.edge("of 400 bytes the last is there, and none behind it");
        MapForge x = new MapForge();
        for (int k = 0; k < 400; k++) {
            x.patch(k, k % 251);
        }
        DUE.is("map(-1)", x.map(-1), 400);
        DUE.is("map(0)", x.map(0), 0);
        DUE.is("map(399)", x.map(399), 399 % 251);
        DUE.is("map(400)", x.map(400), MapForge.NONE);
    }

    private static void changesNothing() {
        DUE.edge("it changes nothing");
        MapForge x = DUE.method(0, 0, false, i(31, 1), i(18));
        DUE.is("make()", x.make(), 1);
        String before = Due.stateOf(x);
        x.map(0);
        x.map(7);
        x.map(-9);
        DUE.same("all", Due.stateOf(x), before);
    }
}
