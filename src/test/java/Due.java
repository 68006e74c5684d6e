import java.util.Arrays;

/** Counts the answers that are not as due, and helps to write METHODS down shortly. */
final class Due {
    private final String about;
    private String edge = "";
    private boolean edgeIsTested = true;
    private int wrong;

    /** What the test is about: a promise by its number and name, for one. */
    Due(String about) {
        this.about = about;
    }

    /** A case of its own begins, with a name that is told with each answer that is not as due. */
    void edge(String name) {
        closeEdge();
        edge = ", " + name;
        edgeIsTested = false;
    }

    private void closeEdge() {
        if (!edgeIsTested) {
            wrong++;
            System.out.println(about + edge + ": nothing is tested");
        }
    }

    void is(String call, long got, long want) {
        edgeIsTested = true;
        if (got != want) {
            wrong++;
            System.out.println(about + edge + ": " + call + " answered " + got + ", due is " + want);
        }
    }

    void is(String call, boolean got, boolean want) {
        is(call, got ? 1 : 0, want ? 1 : 0);
    }

    /** Two pictures by stateOf are the same. */
    void same(String what, String got, String want) {
        is(what + ": " + got + " for " + want + ": the same", got.equals(want), true);
    }

    /** Each INSTRUCTION is op, or op and a (for jumps: b), or op, a and b. */
    void write(MapForge x, int[]... code) {
        int before = x.count(0);
        for (int k = 0; k < code.length; k++) {
            is("add " + Arrays.toString(code[k]), put(x, code[k]), before + k + 1);
        }
    }

    private static int put(MapForge x, int[] one) {
        boolean jump = one[0] >= 31 && one[0] <= 34;
        int a = one.length > 1 && !jump ? one[1] : 0;
        int b = jump ? one[1] : one.length > 2 ? one[2] : 0;
        return x.add(one[0], a, b);
    }

    /** A new object with a METHOD of these INSTRUCTIONS. */
    MapForge method(int own, int mode, boolean gives, int[]... code) {
        MapForge x = new MapForge();
        is("method", x.method(own, mode, gives), true);
        write(x, code);
        return x;
    }

    /** PLACES 0 to 5 with the OFFSETS 0 to 5: what is asked of rows hangs on their bytes alone. */
    MapForge sixPlaces() {
        return method(0, 0, false, i(0), i(0), i(0), i(0), i(0), i(18));
    }

    /** The MAP is these bytes, and no more. */
    void map(MapForge x, int... bytes) {
        is("map(-1)", x.map(-1), bytes.length);
        for (int k = 0; k < bytes.length; k++) {
            is("map(" + k + ")", x.map(k), bytes[k]);
        }
        is("map(" + bytes.length + ")", x.map(bytes.length), MapForge.NONE);
    }

    /** The MAP becomes these bytes. */
    void lay(MapForge x, int... bytes) {
        x.cut(0);
        for (int k = 0; k < bytes.length; k++) {
            is("patch(" + k + ", " + bytes[k] + ")", x.patch(k, bytes[k]), true);
        }
    }

    /** Whether the METHOD is not WRONG, by make and by flow. */
    void right(String what, MapForge x, boolean want) {
        is(what + ": make", x.make() >= 0, want);
        is(what + ": flow", x.flow(0, 20) >= 0, want);
    }

    /** The TYPE to which OBJECT c and OBJECT d JOIN; the METHOD becomes another. */
    static int joinOf(MapForge x, int c, int d) {
        x.method(0, 0, false);
        x.argument(16 * c + 7);
        x.argument(16 * d + 7);
        for (int[] one : new int[][] {i(25, 0), i(1), i(32, 5), i(6), i(25, 1), i(6), i(18)}) {
            put(x, one);
        }
        return x.flow(5, 10);
    }

    /** Whether OBJECT d IS OBJECT c; the METHOD becomes another. */
    static boolean isOf(MapForge x, int d, int c) {
        x.method(0, 0, false);
        x.argument(16 * d + 7);
        for (int[] one : new int[][] {i(25, 0), i(37, c), i(6), i(18)}) {
            put(x, one);
        }
        return x.flow(0, 20) == 0;
    }

    /**
     * All that an object of few INSTRUCTIONS answers without being changed, but for its CLASSES:
     * what a refused call leaves as it is.
     */
    static String stateOf(MapForge x) {
        StringBuilder text = new StringBuilder();
        for (int what = 0; what <= 4; what++) {
            text.append(x.count(what)).append(' ');
        }
        for (int i = 0; i < x.count(0); i++) {
            for (int what = 0; what <= 2; what++) {
                text.append(x.code(i, what)).append(' ');
            }
            for (int what : i(0, 1, 2, 9, 10, 20, 21)) {
                text.append(x.flow(i, what)).append(' ');
            }
        }
        for (int k = -1; k < x.map(-1); k++) {
            text.append(x.map(k)).append(' ');
        }
        return text.append(x.row(0, 21)).append(' ').append(x.check()).toString();
    }

    /** Numbers that are not from least to most: those beside it, and some that are far away. */
    static int[] outside(int least, int most) {
        return i(least - 1, most + 1, least - 256, most + 256, least - 65536, most + 65536,
                Integer.MIN_VALUE, Integer.MIN_VALUE + most, Integer.MAX_VALUE);
    }

    void end(String test) {
        closeEdge();
        if (wrong != 0) {
            System.out.println(test + ": " + wrong + " answers are not as due");
            System.exit(1);
        }
    }

    static int[] i(int... numbers) {
        return numbers;
    }
}
