/** Counts the answers that are not as due, and helps to write METHODS down shortly. */
final class Due {
    private int wrong;

    void is(String call, long got, long want) {
        if (got != want) {
            wrong++;
            System.out.println(call + " answered " + got + ", due is " + want);
        }
    }

    void is(String call, boolean got, boolean want) {
        is(call, got ? 1 : 0, want ? 1 : 0);
    }

    /** Each INSTRUCTION is op, or op and a (for jumps: b), or op, a and b. */
    void write(MapForge x, int[]... code) {
        for (int[] one : code) {
            int before = x.count(0);
            is("add " + java.util.Arrays.toString(one), put(x, one), before + 1);
        }
    }

    private static int put(MapForge x, int[] one) {
        boolean jump = one[0] >= 31 && one[0] <= 34;
        int a = one.length > 1 && !jump ? one[1] : 0;
        int b = jump ? one[1] : one.length > 2 ? one[2] : 0;
        return x.add(one[0], a, b);
    }

    /** A new object with a METHOD of these INSTRUCTIONS. */
    MapForge method(int own, int mode, boolean gives, int[]... code) {
        MapForge x = new MapForge();
        is("method", x.method(own, mode, gives), true);
        write(x, code);
        return x;
    }

    /** The MAP is these bytes, and no more. */
    void map(MapForge x, int... bytes) {
        is("map(-1)", x.map(-1), bytes.length);
        for (int k = 0; k < bytes.length; k++) {
            is("map(" + k + ")", x.map(k), bytes[k]);
        }
    }

    /** The MAP becomes these bytes. */
    void lay(MapForge x, int... bytes) {
        x.cut(0);
        for (int k = 0; k < bytes.length; k++) {
            is("patch(" + k + ", " + bytes[k] + ")", x.patch(k, bytes[k]), true);
        }
    }

    /** Whether the METHOD is not WRONG, by make and by flow. */
    void right(String what, MapForge x, boolean want) {
        is(what + ": make", x.make() >= 0, want);
        is(what + ": flow", x.flow(0, 20) >= 0, want);
    }

    void end(String test) {
        if (wrong != 0) {
            System.out.println(test + ": " + wrong + " answers are not as due");
            System.exit(1);
        }
    }

    static int[] i(int... numbers) {
        return numbers;
    }
}
