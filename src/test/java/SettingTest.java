/** Promises 1 to 7, 15 and 16: what is set, and what is refused. */
public final class SettingTest {
    private static final Due DUE = new Due();

    public static void main(String[] args) {
        newObject();
        types();
        methods();
        arguments();
        instructions();
        changes();
        handlers();
        codes();
        counts();
        DUE.end("SettingTest");
    }

    /** Promise 1. */
    private static void newObject() {
        MapForge x = new MapForge();
        for (int what = 0; what <= 4; what++) {
            DUE.is("new: count(" + what + ")", x.count(what), 0);
        }
        DUE.is("new: map(-1)", x.map(-1), 0);
        DUE.is("new: make()", x.make(), MapForge.WRONG);
        DUE.is("new: check()", x.check(), MapForge.WRONG);
        DUE.is("new: flow(0, 0)", x.flow(0, 0), MapForge.NONE);
        DUE.is("new: row(0, 0)", x.row(0, 0), MapForge.NONE);
        DUE.is("new: code(0, 0)", x.code(0, 0), MapForge.NONE);
        // A static METHOD: no THIS in LOCAL 0, and RETURN without an INT.
        DUE.write(x, Due.i(18));
        DUE.is("new, RETURN: make()", x.make(), 0);
        DUE.is("new, RETURN: flow(0, 0)", x.flow(0, 0), 0);
        DUE.is("new, RETURN: flow(0, 21)", x.flow(0, 21), 0);
        for (int c = 1; c < 8; c++) {
            DUE.is("CLASS " + c + " is of 0 alone", joinOf(new MapForge(), c, c == 1 ? 2 : 1), 7);
            DUE.is("CLASS " + c + " is no FACE", callWith(new MapForge(), 0, c), false);
        }
    }

    /** The TYPE to which OBJECT c and OBJECT d JOIN. */
    private static int joinOf(MapForge x, int c, int d) {
        x.method(0, 0, false);
        x.argument(16 * c + 7);
        x.argument(16 * d + 7);
        DUE.write(x, Due.i(25, 0), Due.i(1), Due.i(32, 5), Due.i(6), Due.i(25, 1), Due.i(6), Due.i(18));
        return x.flow(5, 10);
    }

    /** Whether OBJECT d IS OBJECT c. */
    private static boolean callWith(MapForge x, int d, int c) {
        x.method(0, 0, false);
        x.argument(16 * d + 7);
        DUE.write(x, Due.i(25, 0), Due.i(37, c), Due.i(6), Due.i(18));
        return x.make() == 0;
    }

    /** Promise 2. */
    private static void types() {
        MapForge x = new MapForge();
        DUE.is("type(0, 0)", x.type(0, 0, false), false);
        DUE.is("type(8, 0)", x.type(8, 0, false), false);
        DUE.is("type(-1, 0)", x.type(-1, 0, false), false);
        DUE.is("type(1, 1)", x.type(1, 1, false), false);
        DUE.is("type(3, -1)", x.type(3, -1, false), false);
        DUE.is("type(3, 4)", x.type(3, 4, false), false);
        DUE.is("type(1, 0)", x.type(1, 0, false), true);
        DUE.is("type(7, 6)", x.type(7, 6, true), true);
        DUE.is("type(2, 1)", x.type(2, 1, false), true);
        DUE.is("type(3, 2)", x.type(3, 2, false), true);
        DUE.is("type(4, 1)", x.type(4, 1, false), true);
        DUE.is("JOIN of 3 and 4", joinOf(x, 3, 4), 16 + 7);
        DUE.is("JOIN of 4 and 3", joinOf(x, 4, 3), 16 + 7);
        DUE.is("JOIN of 3 and 2", joinOf(x, 3, 2), 32 + 7);
        DUE.is("JOIN of 2 and 3", joinOf(x, 2, 3), 32 + 7);
        DUE.is("JOIN of 3 and 5", joinOf(x, 3, 5), 7);
        DUE.is("JOIN with a FACE", joinOf(x, 7, 5), 7);
        DUE.is("JOIN with the SUPER of a FACE", joinOf(x, 7, 6), 96 + 7);
        DUE.is("3 IS 1", callWith(x, 3, 1), true);
        DUE.is("1 IS 3", callWith(x, 1, 3), false);
        DUE.is("4 IS 2", callWith(x, 4, 2), false);
        DUE.is("5 IS the FACE 7", callWith(x, 5, 7), true);
        DUE.is("0 IS the FACE 7", callWith(x, 0, 7), true);
        DUE.is("the FACE 7 IS 5", callWith(x, 7, 5), false);
        DUE.is("type(7, 0), no FACE", x.type(7, 0, false), true);
        DUE.is("5 IS 7, no FACE now", callWith(x, 5, 7), false);
        // A LINE goes on by the SUPER that is changed later.
        DUE.is("type(2, 0)", x.type(2, 0, false), true);
        DUE.is("3 IS 1 no more", callWith(x, 3, 1), false);
        DUE.is("3 IS 2", callWith(x, 3, 2), true);
        // What is refused changes nothing, and what is changed counts at once.
        x.make();
        DUE.is("type(2, 2)", x.type(2, 2, true), false);
        DUE.is("3 IS 2 still", x.make(), 0);
        x.type(3, 0, false);
        DUE.is("3 IS 2 no more", x.make(), MapForge.WRONG);
    }

    /** Promise 3. */
    private static void methods() {
        MapForge x = new MapForge();
        DUE.is("method(-1, 0)", x.method(-1, 0, false), false);
        DUE.is("method(8, 0)", x.method(8, 0, false), false);
        DUE.is("method(0, -1)", x.method(0, -1, false), false);
        DUE.is("method(0, 3)", x.method(0, 3, false), false);
        DUE.is("method(7, 1)", x.method(7, 1, true), true);
        x.argument(4);
        DUE.write(x, Due.i(1), Due.i(19));
        DUE.is("handle", x.handle(0, 1, 0, 0), 1);
        DUE.is("patch", x.patch(0, 5), true);
        DUE.is("method(0, 3) once more", x.method(0, 3, false), false);
        DUE.is("INSTRUCTIONS stay", x.count(0), 2);
        DUE.is("LOCAL 0 is THIS", DUE.method(6, 1, false, Due.i(18)).flow(0, 0), 96 + 7);
        DUE.is("method(3, 2)", x.method(3, 2, true), true);
        for (int what = 0; what <= 3; what++) {
            DUE.is("count(" + what + ")", x.count(what), 0);
        }
        DUE.map(x, 5);
        // A CONSTRUCTOR gives nothing, whatever is told.
        DUE.write(x, Due.i(25, 0), Due.i(36, 3), Due.i(18));
        DUE.is("CONSTRUCTOR: flow(0, 0)", x.flow(0, 0), 6);
        DUE.is("CONSTRUCTOR: flow(0, 21)", x.flow(0, 21), 1);
        DUE.is("CONSTRUCTOR: flow(2, 0)", x.flow(2, 0), 48 + 7);
        DUE.is("CONSTRUCTOR: flow(2, 21)", x.flow(2, 21), 0);
        DUE.right("RETURN INT, gives INT", DUE.method(0, 0, true, Due.i(1), Due.i(19)), true);
        DUE.right("RETURN INT, gives nothing", DUE.method(0, 0, false, Due.i(1), Due.i(19)), false);
        DUE.right("RETURN, gives INT", DUE.method(0, 1, true, Due.i(18)), false);
        DUE.right("RETURN INT, CONSTRUCTOR", DUE.method(0, 2, true, Due.i(25, 0), Due.i(36, 0), Due.i(1), Due.i(19)), false);
    }

    /** Promise 4. */
    private static void arguments() {
        MapForge x = new MapForge();
        int[] bad = {0, 5, 6, 8, 9, 15, 16, 17, 16 * 8 + 7, 24, -9, -1, 7 - 16, Integer.MIN_VALUE + 7, Integer.MAX_VALUE};
        for (int type : bad) {
            DUE.is("argument(" + type + ")", x.argument(type), MapForge.REFUSED);
        }
        DUE.is("argument(3)", x.argument(3), 1);
        DUE.is("argument(2)", x.argument(2), 2);
        DUE.is("argument(119)", x.argument(119), 3);
        DUE.is("argument(4)", x.argument(4), 4);
        DUE.is("argument(1)", x.argument(1), MapForge.FULL);
        DUE.is("argument(0) with 4", x.argument(0), MapForge.REFUSED);
        DUE.is("count(2)", x.count(2), 4);
        DUE.write(x, Due.i(18));
        int[] locals = {3, 0, 2, 119, 4, 0, 0, 0, 0, 0};
        for (int i = 0; i < 10; i++) {
            DUE.is("flow(0, " + i + ")", x.flow(0, i), locals[i]);
        }
        MapForge y = new MapForge();
        y.method(5, 1, false);
        for (int i = 0; i < 4; i++) {
            DUE.is("argument(4), not static", y.argument(4), i + 1);
        }
        DUE.write(y, Due.i(18));
        int[] wide = {87, 4, 0, 4, 0, 4, 0, 4, 0, 0};
        for (int i = 0; i < 10; i++) {
            DUE.is("not static: flow(0, " + i + ")", y.flow(0, i), wide[i]);
        }
    }

    /** Promise 5. */
    private static void instructions() {
        MapForge x = new MapForge();
        DUE.is("add(-1)", x.add(-1, 0, 0), MapForge.REFUSED);
        DUE.is("add(40)", x.add(40, 0, 0), MapForge.REFUSED);
        for (int op = 21; op <= 30; op++) {
            boolean wide = op == 22 || op == 24 || op == 27 || op == 29;
            DUE.is("add(" + op + ", -1)", x.add(op, -1, 0), MapForge.REFUSED);
            DUE.is("add(" + op + ", 10)", x.add(op, 10, 0), MapForge.REFUSED);
            DUE.is("add(" + op + ", MAX)", x.add(op, Integer.MAX_VALUE, 0), MapForge.REFUSED);
            x = new MapForge();
            DUE.is("add(" + op + ", 9)", x.add(op, 9, 0), wide ? MapForge.REFUSED : 1);
            DUE.is("add(" + op + ", 8, 99)", x.add(op, 8, 99), wide ? 1 : 2);
        }
        for (int op = 31; op <= 34; op++) {
            x = new MapForge();
            DUE.is("add(" + op + ", b -1)", x.add(op, 0, -1), MapForge.REFUSED);
            DUE.is("add(" + op + ", b 50)", x.add(op, 0, 50), MapForge.REFUSED);
            DUE.is("add(" + op + ", b 49)", x.add(op, -7, 49), 1);
            DUE.is("its a", x.code(0, 1), 0);
            DUE.is("its b", x.code(0, 2), 49);
        }
        for (int op = 35; op <= 39; op++) {
            x = new MapForge();
            DUE.is("add(" + op + ", -1)", x.add(op, -1, 0), MapForge.REFUSED);
            DUE.is("add(" + op + ", 8)", x.add(op, 8, 0), MapForge.REFUSED);
            DUE.is("add(" + op + ", 7, 8)", x.add(op, 7, 8), op == 38 ? MapForge.REFUSED : 1);
            DUE.is("add(" + op + ", 7, -1)", x.add(op, 7, -1), op == 38 ? MapForge.REFUSED : 2);
            DUE.is("add(" + op + ", 6, 5)", x.add(op, 6, 5), op == 38 ? 1 : 3);
            int last = x.count(0) - 1;
            DUE.is("its a", x.code(last, 1), 6);
            DUE.is("its b", x.code(last, 2), op == 38 ? 5 : 0);
        }
        MapForge y = new MapForge();
        for (int i = 0; i < 50; i++) {
            DUE.is("add of " + i, y.add(i % 21, 77, -5), i + 1);
            DUE.is("its a", y.code(i, 1), 0);
            DUE.is("its b", y.code(i, 2), 0);
        }
        DUE.is("add with 50", y.add(0, 0, 0), MapForge.FULL);
        DUE.is("add with 50, not as said", y.add(40, 0, 0), MapForge.REFUSED);
        DUE.is("count(0)", y.count(0), 50);
    }

    /** Promise 6. */
    private static void changes() {
        MapForge x = DUE.method(0, 0, false, Due.i(0), Due.i(0), Due.i(18));
        DUE.is("change(-1)", x.change(-1, 0, 0, 0), false);
        DUE.is("change(3)", x.change(3, 0, 0, 0), false);
        DUE.is("change to 40", x.change(0, 40, 0, 0), false);
        DUE.is("change to LONG 9", x.change(0, 22, 9, 0), false);
        DUE.is("change to GOTO 50", x.change(0, 31, 0, 50), false);
        DUE.is("change to GET 0 8", x.change(0, 38, 0, 8), false);
        DUE.is("nothing changed", x.code(0, 0), 0);
        DUE.right("before", x, true);
        DUE.is("change(0, GOTO 1)", x.change(0, 31, 9, 1), true);
        DUE.is("code(0, 0)", x.code(0, 0), 31);
        DUE.is("code(0, 1)", x.code(0, 1), 0);
        DUE.is("code(0, 2)", x.code(0, 2), 1);
        DUE.is("code(1, 3)", x.code(1, 3), 3);
        DUE.is("code(2, 3)", x.code(2, 3), 4);
        DUE.is("count(3)", x.count(3), 5);
        DUE.is("a row now", x.make(), 1);
        DUE.is("change(1, POP)", x.change(1, 6, 0, 0), true);
        DUE.is("WRONG now", x.make(), MapForge.WRONG);
    }

    /** Promise 7. */
    private static void handlers() {
        MapForge x = new MapForge();
        int[][] bad = {
            {-1, 1, 0, 0}, {50, 51, 0, 0}, {49, 51, 0, 0}, {3, 3, 0, 0}, {3, 2, 0, 0},
            {0, 1, -1, 0}, {0, 1, 50, 0}, {0, 1, 0, -1}, {0, 1, 0, 8}
        };
        for (int[] h : bad) {
            DUE.is("handle", x.handle(h[0], h[1], h[2], h[3]), MapForge.REFUSED);
        }
        DUE.is("handle 1", x.handle(49, 50, 49, 7), 1);
        DUE.is("handle 2", x.handle(0, 50, 0, 0), 2);
        DUE.is("handle 3", x.handle(0, 1, 0, 0), 3);
        DUE.is("handle 4", x.handle(0, 1, 0, 0), 4);
        DUE.is("handle 5", x.handle(0, 1, 0, 0), MapForge.FULL);
        DUE.is("handle 5, not as said", x.handle(0, 0, 0, 0), MapForge.REFUSED);
        DUE.is("count(1)", x.count(1), 4);
    }

    /** Promise 15. */
    private static void codes() {
        MapForge x = DUE.method(0, 0, false, Due.i(20), Due.i(21, 3), Due.i(30, 4), Due.i(34, 2), Due.i(38, 1, 2), Due.i(18));
        int[][] want = {{20, 0, 0, 0}, {21, 3, 0, 1}, {30, 4, 0, 3}, {34, 0, 2, 5}, {38, 1, 2, 8}, {18, 0, 0, 11}};
        for (int i = 0; i < 6; i++) {
            for (int what = 0; what < 4; what++) {
                DUE.is("code(" + i + ", " + what + ")", x.code(i, what), want[i][what]);
            }
        }
        DUE.is("code(6, 0)", x.code(6, 0), MapForge.NONE);
        DUE.is("code(6, 3)", x.code(6, 3), MapForge.NONE);
        DUE.is("code(-1, 0)", x.code(-1, 0), MapForge.NONE);
        DUE.is("code(0, 4)", x.code(0, 4), MapForge.REFUSED);
        DUE.is("code(0, -1)", x.code(0, -1), MapForge.REFUSED);
        DUE.is("code(9, 4)", x.code(9, 4), MapForge.REFUSED);
    }

    /** Promise 16. */
    private static void counts() {
        MapForge x = DUE.method(0, 0, false, Due.i(31, 1), Due.i(31, 2), Due.i(18));
        x.argument(1);
        x.argument(2);
        DUE.is("handle", x.handle(0, 3, 2, 0), 1);
        DUE.is("count(0)", x.count(0), 3);
        DUE.is("count(1)", x.count(1), 1);
        DUE.is("count(2)", x.count(2), 2);
        DUE.is("count(3)", x.count(3), 7);
        DUE.is("count(4)", x.count(4), 0);
        DUE.lay(x, 3, 2);
        DUE.is("count(4), 2 rows", x.count(4), 2);
        DUE.lay(x, 3, 200);
        DUE.is("count(4), BROKEN", x.count(4), MapForge.BROKEN);
        DUE.lay(x, 3, 2);
        x.method(0, 0, false);
        DUE.is("count(4), no CODE", x.count(4), MapForge.BROKEN);
        DUE.is("check(), no CODE", x.check(), MapForge.WRONG);
        x.cut(0);
        DUE.is("count(4), no CODE, no bytes", x.count(4), 0);
        DUE.is("count(5)", x.count(5), MapForge.REFUSED);
        DUE.is("count(-1)", x.count(-1), MapForge.REFUSED);
    }
}
