import java.util.Arrays;

/** Promises 8 and 9: what each INSTRUCTION takes and leaves in THE FLOW, JOIN, HANDLERS, and when a METHOD is WRONG. */
public final class FlowTest {
    private static final Due DUE = new Due("promises 8 and 9, THE FLOW");
    private static final int WRONG = -99;

    public static void main(String[] args) {
        stack();
        smallOnes();
        sums();
        edgesOfLocals();
        endings();
        locals();
        jumps();
        objects();
        constructors();
        joins();
        laterOnTheStack();
        handlers();
        wholeness();
        DUE.end("FlowTest");
    }

    /**
     * LOCALS: 0 INT, 1 FLOAT, 2 OBJECT 0, 3 LONG. The code is run, then NOP and GOTO that PLACE
     * for ever; what the STACK has there is due.
     */
    private static MapForge ends(String what, int[][] code, int... due) {
        MapForge x = new MapForge();
        x.argument(1);
        x.argument(2);
        x.argument(7);
        x.argument(4);
        DUE.write(x, code);
        int last = code.length;
        DUE.write(x, Due.i(0), Due.i(31, last));
        if (due.length == 1 && due[0] == WRONG) {
            DUE.right(what, x, false);
            DUE.is(what + ": flow of it", x.flow(last, 20), MapForge.NONE);
            return x;
        }
        DUE.right(what, x, true);
        DUE.is(what + ": check", x.check(), MapForge.NONE);
        DUE.is(what + ": how many", x.flow(last, 20), due.length);
        for (int k = 0; k < 8; k++) {
            DUE.is(what + ": " + k + " of the STACK", x.flow(last, 10 + k), k < due.length ? due[k] : MapForge.NONE);
        }
        return x;
    }

    private static int[][] code(int[]... code) {
        return code;
    }

    private static int[] i(int... numbers) {
        return numbers;
    }

    private static void stack() {
        ends("NOP", code(i(0)));
        ends("constants", code(i(1), i(2), i(3), i(4), i(5)), 1, 2, 3, 4, 5);
        ends("8 SLOTS", code(i(3), i(3), i(4), i(4)), 3, 3, 4, 4);
        ends("9 SLOTS", code(i(3), i(3), i(4), i(4), i(1)), WRONG);
        ends("7 SLOTS and a WIDE one", code(i(3), i(3), i(4), i(1), i(3)), WRONG);
        ends("POP", code(i(1), i(6)));
        ends("POP of NULL", code(i(1), i(5), i(6)), 1);
        ends("POP of RAW", code(i(35, 1), i(6)));
        ends("POP of none", code(i(6)), WRONG);
        ends("POP of a WIDE one", code(i(4), i(6)), WRONG);
        ends("POP BOTH of a WIDE one", code(i(1), i(4), i(7)), 1);
        ends("POP BOTH of two", code(i(3), i(1), i(5), i(7)), 3);
        ends("POP BOTH of one", code(i(1), i(7)), WRONG);
        ends("POP BOTH of none", code(i(7)), WRONG);
        ends("POP BOTH of half a WIDE one", code(i(4), i(1), i(7)), WRONG);
        ends("DUP", code(i(2), i(8)), 2, 2);
        ends("DUP of a RAW", code(i(35, 1), i(8)), 8, 8);
        ends("DUP of a WIDE one", code(i(3), i(8)), WRONG);
        ends("DUP of none", code(i(8)), WRONG);
        ends("DUP without room", code(i(3), i(3), i(3), i(1), i(1), i(8)), WRONG);
        ends("SWAP", code(i(3), i(1), i(2), i(9)), 3, 2, 1);
        ends("SWAP of one", code(i(1), i(9)), WRONG);
        ends("SWAP with a WIDE one", code(i(3), i(1), i(9)), WRONG);
        ends("SWAP of a WIDE one", code(i(1), i(3), i(9)), WRONG);
    }

    /** What comes on top by these: the six that are s, then the two WIDE ones. */
    private static final int[][] ON_TOP = {i(1), i(2), i(5), i(25, 0), i(25, 1), i(35, 2), i(3), i(4)};
    private static final int SMALL = 6;

    /** In a CONSTRUCTOR (LOCAL 0 is RAW THIS, LOCAL 1 OBJECT 4): the STACK behind these INSTRUCTIONS, or null for WRONG. */
    private static int[] stackBehind(int[]... code) {
        MapForge x = DUE.method(3, 2, false, code);
        x.argument(16 * 4 + 7);
        DUE.write(x, i(5), i(20));
        int depth = x.flow(code.length, 20);
        if (depth < 0) {
            DUE.is("make", x.make(), MapForge.WRONG);
            return null;
        }
        int[] stack = new int[depth];
        for (int k = 0; k < depth; k++) {
            stack[k] = x.flow(code.length, 10 + k);
        }
        return stack;
    }

    private static void same(String what, int[] got, int[] want) {
        DUE.is(what + " leaves " + Arrays.toString(got) + " for " + Arrays.toString(want), Arrays.equals(got, want), true);
    }

    /** 6 to 9 take each s, and nothing else but what 7 takes. */
    private static void smallOnes() {
        for (int a = 0; a < ON_TOP.length; a++) {
            int[] one = stackBehind(ON_TOP[a]);
            boolean small = a < SMALL;
            same("POP of " + one[0], stackBehind(ON_TOP[a], i(6)), small ? i() : null);
            same("POP BOTH of " + one[0], stackBehind(ON_TOP[a], i(7)), small ? null : i());
            same("DUP of " + one[0], stackBehind(ON_TOP[a], i(8)), small ? i(one[0], one[0]) : null);
            same("SWAP of one", stackBehind(ON_TOP[a], i(9)), null);
            for (int b = 0; b < ON_TOP.length; b++) {
                int[] two = stackBehind(ON_TOP[a], ON_TOP[b]);
                boolean both = small && b < SMALL;
                String what = two[0] + " and " + two[1];
                same("SWAP of " + what, stackBehind(ON_TOP[a], ON_TOP[b], i(9)), both ? i(two[1], two[0]) : null);
                int[] left = both ? i() : b < SMALL ? null : i(two[0]);
                same("POP BOTH of " + what, stackBehind(ON_TOP[a], ON_TOP[b], i(7)), left);
            }
        }
    }

    /** 21 to 30 with the first and the last LOCAL, and each of the like of OBJECT. */
    private static void edgesOfLocals() {
        int[] types = {1, 4, 2, 3, 5};
        for (int k = 0; k < 5; k++) {
            boolean wide = types[k] == 3 || types[k] == 4;
            for (int local : i(0, wide ? 8 : 9)) {
                MapForge x = ends("STORE and LOAD of " + types[k], code(i(types[k]), i(26 + k, local), i(21 + k, local)), types[k]);
                DUE.is("LOCAL " + local, x.flow(2, local), types[k]);
                DUE.is("its second LOCAL", wide ? x.flow(2, local + 1) : 0, 0);
            }
        }
        for (int a = 0; a < ON_TOP.length; a++) {
            int[] one = stackBehind(ON_TOP[a]);
            boolean reference = a >= 2 && a < SMALL;
            same("STORE and LOAD of " + one[0], stackBehind(ON_TOP[a], i(30, 9), i(25, 9)), reference ? one : null);
        }
        MapForge x = ends("a WIDE one over the second half of another and the first of a third",
                code(i(4), i(27, 5), i(4), i(27, 7), i(3), i(29, 6)));
        for (int local = 5; local < 10; local++) {
            DUE.is("LOCAL " + local, x.flow(6, local), local == 6 ? 3 : 0);
        }
        x = ends("a small one over the second half", code(i(4), i(27, 8), i(1), i(26, 9)));
        DUE.is("LOCAL 8", x.flow(4, 8), 0);
        DUE.is("LOCAL 9", x.flow(4, 9), 1);
        x = ends("a small one over the second half in LOCAL 1", code(i(4), i(27, 0), i(1), i(26, 1)));
        DUE.is("LOCAL 0", x.flow(4, 0), 0);
        DUE.is("LOCAL 1", x.flow(4, 1), 1);
        x = ends("a WIDE one over LOCALS 8 and 9", code(i(1), i(26, 9), i(1), i(26, 8), i(4), i(27, 8)));
        DUE.is("LOCAL 8", x.flow(6, 8), 4);
        DUE.is("LOCAL 9", x.flow(6, 9), 0);
        x = ends("a small one before others", code(i(2), i(28, 9), i(4), i(27, 6), i(1), i(26, 8), i(1), i(26, 5)));
        DUE.is("LOCAL 5", x.flow(8, 5), 1);
        DUE.is("LOCAL 6", x.flow(8, 6), 4);
        DUE.is("LOCAL 8", x.flow(8, 8), 1);
        DUE.is("LOCAL 9", x.flow(8, 9), 2);
        x = ends("a small one two behind", code(i(4), i(27, 7), i(1), i(26, 9)));
        DUE.is("LOCAL 7", x.flow(4, 7), 4);
    }

    private static void sums() {
        int[] kinds = {1, 4, 2, 3};
        for (int k = 0; k < 4; k++) {
            for (int other = 1; other <= 5; other++) {
                int kind = kinds[k];
                int[] due = other == kind ? i(5, kind) : i(WRONG);
                ends("sum " + k + " with " + other + " on top", code(i(5), i(kind), i(other), i(10 + k)), due);
                ends("sum " + k + " with " + other + " below", code(i(5), i(other), i(kind), i(10 + k)), due);
            }
            ends("sum " + k + " of one", code(i(kinds[k]), i(10 + k)), WRONG);
        }
        int[][] turns = {{14, 1, 4}, {15, 4, 1}, {16, 1, 3}, {17, 3, 1}};
        for (int[] turn : turns) {
            for (int type = 1; type <= 5; type++) {
                ends("turn " + turn[0] + " of " + type, code(i(2), i(type), i(turn[0])),
                        type == turn[1] ? i(2, turn[2]) : i(WRONG));
            }
            ends("turn " + turn[0] + " of none", code(i(turn[0])), WRONG);
        }
        ends("INT to LONG without room", code(i(3), i(3), i(3), i(1), i(1), i(14)), WRONG);
        ends("INT to DOUBLE without room", code(i(3), i(3), i(3), i(1), i(1), i(16)), WRONG);
        ends("INT to DOUBLE with room", code(i(3), i(3), i(3), i(1), i(16)), 3, 3, 3, 3);
    }

    private static void endings() {
        DUE.right("THROW NULL", DUE.method(0, 0, true, i(5), i(20)), true);
        DUE.right("THROW OBJECT", DUE.method(3, 1, true, i(1), i(25, 0), i(20)), true);
        DUE.right("THROW INT", DUE.method(0, 0, true, i(1), i(20)), false);
        DUE.right("THROW none", DUE.method(0, 0, true, i(20)), false);
        DUE.right("THROW RAW", DUE.method(0, 0, true, i(35, 0), i(20)), false);
        DUE.right("THROW RAW THIS", DUE.method(0, 2, true, i(25, 0), i(20)), false);
        DUE.right("THROW in a CONSTRUCTOR", DUE.method(0, 2, true, i(5), i(20)), true);
        DUE.right("RETURN with more on the STACK", DUE.method(0, 0, false, i(3), i(18)), true);
        DUE.right("RETURN INT of FLOAT", DUE.method(0, 0, true, i(2), i(19)), false);
        DUE.right("RETURN INT of none", DUE.method(0, 0, true, i(19)), false);
    }

    private static void locals() {
        int[] types = {1, 4, 2, 3, 5};
        for (int k = 0; k < 5; k++) {
            for (int j = 0; j < 5; j++) {
                int[] due = k == j ? i(types[k]) : i(WRONG);
                ends("STORE " + k + ", LOAD " + j, code(i(types[k]), i(26 + k, 8 - k), i(21 + j, 8 - k)), due);
                ends("STORE " + k + " of " + j, code(i(types[j]), i(26 + k, 8), i(types[k])), due);
            }
            ends("STORE " + k + " of none", code(i(26 + k, 0)), WRONG);
            ends("LOAD " + k + " of TOP", code(i(21 + k, 8)), WRONG);
        }
        ends("LOAD of an OBJECT", code(i(25, 2)), 7);
        ends("LOAD of a RAW", code(i(0), i(35, 1), i(30, 9), i(25, 9)), 16 + 8);
        ends("LOAD without room", code(i(3), i(3), i(3), i(1), i(22, 3)), WRONG);
        ends("LOAD of the second half", code(i(21, 4)), WRONG);
        MapForge x = ends("STORE behind a WIDE one's first", code(i(1), i(26, 4)));
        DUE.is("the first is TOP", x.flow(2, 3), 0);
        DUE.is("the second is INT", x.flow(2, 4), 1);
        DUE.is("that before is as it was", x.flow(2, 2), 7);
        x = ends("STORE over a WIDE one's first", code(i(1), i(26, 3)));
        DUE.is("first: INT", x.flow(2, 3), 1);
        DUE.is("second: TOP", x.flow(2, 4), 0);
        x = ends("STORE of a WIDE one over another's first", code(i(3), i(29, 2)));
        DUE.is("2: DOUBLE", x.flow(2, 2), 3);
        DUE.is("3: TOP", x.flow(2, 3), 0);
        DUE.is("4: TOP", x.flow(2, 4), 0);
        x = ends("STORE of a WIDE one over another's second", code(i(3), i(29, 4)));
        DUE.is("3 is TOP", x.flow(2, 3), 0);
        DUE.is("4 is DOUBLE", x.flow(2, 4), 3);
        DUE.is("5 is TOP", x.flow(2, 5), 0);
        x = ends("STORE of a WIDE one over small ones", code(i(4), i(27, 0)));
        DUE.is("0 is LONG", x.flow(2, 0), 4);
        DUE.is("1 is TOP", x.flow(2, 1), 0);
        DUE.is("2 is OBJECT", x.flow(2, 2), 7);
    }

    private static void jumps() {
        ends("IF INT", code(i(1), i(32, 2)));
        ends("IF INT of NULL", code(i(5), i(32, 2)), WRONG);
        ends("IF INT of none", code(i(32, 2)), WRONG);
        ends("IF NULL of NULL", code(i(2), i(5), i(33, 3)), 2);
        ends("IF NULL of an OBJECT", code(i(25, 2), i(33, 2)));
        ends("IF NULL of INT", code(i(1), i(33, 2)), WRONG);
        ends("IF NULL of RAW", code(i(35, 0), i(33, 2)), WRONG);
        ends("IF NULL of none", code(i(33, 2)), WRONG);
        ends("IF SAME", code(i(2), i(25, 2), i(5), i(34, 4)), 2);
        ends("IF SAME of one", code(i(5), i(34, 2)), WRONG);
        ends("IF SAME of INT below", code(i(1), i(5), i(34, 3)), WRONG);
        ends("IF SAME of INT on top", code(i(5), i(1), i(34, 3)), WRONG);
        ends("IF SAME of RAW below", code(i(35, 0), i(5), i(34, 3)), WRONG);
        ends("GOTO", code(i(1), i(31, 2)), 1);
        DUE.right("RAW THIS is not for IF NULL", DUE.method(0, 2, false, i(25, 0), i(33, 2), i(5), i(20)), false);
        DUE.right("a PLACE that is not there", DUE.method(0, 0, false, i(1), i(32, 3), i(18)), false);
        DUE.right("GOTO a PLACE that is not there", DUE.method(0, 0, false, i(31, 1)), false);
        DUE.right("behind the end", DUE.method(0, 0, false, i(0)), false);
        DUE.right("IF at the end", DUE.method(0, 0, false, i(1), i(32, 0)), false);
        DUE.right("GOTO itself", DUE.method(0, 0, true, i(31, 0)), true);
    }

    private static void objects() {
        int raw = 16 * 2 + 8;
        ends("NEW", code(i(0), i(0), i(35, 3)), raw);
        ends("NEW without room", code(i(3), i(3), i(3), i(3), i(35, 3)), WRONG);
        MapForge x = ends("INIT", code(i(0), i(0), i(35, 3), i(8), i(8), i(30, 9), i(36, 3)), 16 * 3 + 7);
        DUE.is("INIT in LOCALS, before", x.flow(6, 9), raw);
        DUE.is("INIT in LOCALS", x.flow(7, 9), 16 * 3 + 7);
        ends("INIT of one of two", code(i(35, 3), i(35, 3), i(36, 3)), 8);
        ends("INIT of another CLASS", code(i(35, 3), i(36, 2)), WRONG);
        ends("INIT of its SUPER", code(i(35, 3), i(36, 0)), WRONG);
        ends("INIT of an OBJECT", code(i(25, 2), i(36, 0)), WRONG);
        ends("INIT of NULL", code(i(5), i(36, 0)), WRONG);
        ends("INIT of none", code(i(36, 0)), WRONG);
        ends("INIT twice", code(i(35, 3), i(8), i(36, 3), i(36, 3)), WRONG);
        ends("CALL", code(i(2), i(25, 2), i(37, 0)), 2, 1);
        ends("CALL of NULL", code(i(5), i(37, 6)), 1);
        ends("CALL of a lesser one", code(i(25, 2), i(37, 1)), WRONG);
        ends("CALL of INT", code(i(1), i(37, 0)), WRONG);
        ends("CALL of RAW", code(i(35, 0), i(37, 0)), WRONG);
        ends("CALL of none", code(i(37, 0)), WRONG);
        ends("GET", code(i(25, 2), i(38, 0, 6)), 16 * 6 + 7);
        ends("GET of NULL", code(i(5), i(38, 1, 2)), 16 * 2 + 7);
        ends("GET of another", code(i(25, 2), i(38, 1, 2)), WRONG);
        ends("CAST", code(i(25, 2), i(39, 5)), 16 * 5 + 7);
        ends("CAST of NULL", code(i(5), i(39, 5)), 16 * 5 + 7);
        ends("CAST of RAW", code(i(35, 5), i(39, 5)), WRONG);
        ends("CAST of FLOAT", code(i(2), i(39, 0)), WRONG);
        ends("CAST of none", code(i(39, 0)), WRONG);
        x = ends("a FACE", code(i(25, 2), i(37, 1)), WRONG);
        x.type(1, 0, true);
        DUE.right("0 IS a FACE", x, true);
        x.change(0, 35, 1, 0);
        DUE.right("a RAW IS no FACE", x, false);
    }

    private static void constructors() {
        DUE.right("RETURN before INIT", DUE.method(0, 2, false, i(18)), false);
        DUE.right("INIT of CLASS 0", DUE.method(0, 2, false, i(25, 0), i(36, 0), i(18)), true);
        DUE.right("INIT of neither OWN nor SUPER", DUE.method(0, 2, false, i(25, 0), i(36, 1), i(18)), false);
        for (int a = 0; a < 4; a++) {
            MapForge x = DUE.method(3, 2, false, i(25, 0), i(8), i(30, 5), i(8), i(36, a), i(0), i(18));
            x.type(2, 1, false);
            x.type(3, 2, false);
            DUE.right("INIT " + a + " in CLASS 3", x, a >= 2);
            int own = a >= 2 ? 16 * 3 + 7 : MapForge.NONE;
            DUE.is("THIS IS RAW before", x.flow(4, 21), a >= 2 ? 1 : MapForge.NONE);
            DUE.is("THIS IS not RAW behind", x.flow(5, 21), a >= 2 ? 0 : MapForge.NONE);
            DUE.is("LOCAL 0", x.flow(5, 0), own);
            DUE.is("LOCAL 5", x.flow(5, 5), own);
            DUE.is("the STACK", x.flow(5, 10), own);
        }
        // INIT of a RAW leaves THIS as it is.
        MapForge x = DUE.method(0, 2, false, i(35, 0), i(36, 0), i(25, 0), i(36, 0), i(18));
        DUE.is("THIS after INIT of another", x.flow(2, 0), 6);
        DUE.is("THIS IS RAW after INIT of another", x.flow(2, 21), 1);
        // THIS in no LOCAL is WRONG only where a row is.
        DUE.right("THIS on the STACK alone, no row", DUE.method(0, 2, false, i(25, 0), i(1), i(26, 0), i(36, 0), i(18)), true);
        DUE.right("THIS on the STACK alone, a row",
                DUE.method(0, 2, false, i(25, 0), i(1), i(26, 0), i(31, 4), i(36, 0), i(18)), false);
        DUE.right("THIS in another LOCAL, a row",
                DUE.method(0, 2, false, i(25, 0), i(8), i(30, 3), i(1), i(26, 0), i(31, 6), i(36, 0), i(18)), true);
        DUE.right("INIT on one way alone",
                DUE.method(0, 2, false, i(1), i(32, 4), i(25, 0), i(36, 0), i(5), i(20)), false);
        DUE.right("INIT on the way that comes first",
                DUE.method(0, 2, false, i(1), i(32, 5), i(25, 0), i(36, 0), i(31, 6), i(0), i(5), i(20)), false);
        DUE.right("a row of a HANDLER that has no PLACE", guardedNowhere(), false);
    }

    private static MapForge guardedNowhere() {
        MapForge x = DUE.method(0, 2, false, i(25, 0), i(1), i(26, 0), i(36, 0), i(18));
        x.handle(20, 30, 3, 0);
        return x;
    }

    /** The TYPE that LOCAL 9 has where two ways come together; on the STACK it is that, or WRONG. */
    private static void join(String what, int[] one, int[] other, int due) {
        int store = due == 1 ? 26 : due == 2 ? 28 : 30;
        for (int turn = 0; turn < 2; turn++) {
            int[] first = turn == 0 ? one : other;
            int[] second = turn == 0 ? other : one;
            MapForge x = family(DUE.method(0, 0, false, i(1), i(32, 5), first, i(storeOf(first), 9), i(31, 7),
                    second, i(storeOf(second), 9), i(0), i(18)));
            DUE.is(what + " in a LOCAL", x.flow(7, 9), due);
            MapForge y = family(DUE.method(0, 0, false, i(1), i(32, 4), first, i(31, 5), second, i(store, 0), i(18)));
            DUE.is(what + " on the STACK", y.flow(5, 10), due == 0 ? MapForge.NONE : due);
            DUE.is(what + ": check", y.make() >= 0 ? y.check() : MapForge.WRONG, due == 0 ? MapForge.WRONG : MapForge.NONE);
        }
    }

    private static int storeOf(int[] one) {
        int[] stores = {0, 26, 28, 29, 27, 30};
        return one[0] <= 5 ? stores[one[0]] : 30;
    }

    private static MapForge family(MapForge x) {
        x.type(2, 1, false);
        x.type(3, 2, false);
        x.type(5, 4, true);
        x.type(6, 1, true);
        x.argument(16 * 2 + 7);
        x.argument(16 * 3 + 7);
        x.argument(16 * 6 + 7);
        x.argument(16 * 5 + 7);
        return x;
    }

    private static void joins() {
        int[] two = i(25, 0);
        int[] three = i(25, 1);
        int[] six = i(25, 2);
        int[] five = i(25, 3);
        join("INT and INT", i(1), i(1), 1);
        join("FLOAT and FLOAT", i(2), i(2), 2);
        join("INT and FLOAT", i(1), i(2), 0);
        join("INT and NULL", i(1), i(5), 0);
        join("NULL and NULL", i(5), i(5), 5);
        join("NULL and OBJECT", i(5), three, 16 * 3 + 7);
        join("2 and 3", two, three, 16 * 2 + 7);
        join("3 and 6", three, six, 16 + 7);
        join("3 and 5", three, five, 7);
        join("6 and 6", six, six, 16 * 6 + 7);
        join("NULL and RAW", i(5), i(35, 0), 0);
        join("RAW and RAW of another PLACE", i(35, 0), i(35, 0), 0);
        join("OBJECT and INT", two, i(1), 0);
        DUE.right("INT and FLOAT on the STACK, of no use",
                DUE.method(0, 0, false, i(1), i(32, 4), i(1), i(31, 5), i(2), i(18)), false);
        DUE.right("STACKS of 0 and 1", DUE.method(0, 0, false, i(1), i(32, 3), i(1), i(18)), false);
        DUE.right("STACKS of LONG, and INT INT",
                DUE.method(0, 0, false, i(1), i(32, 4), i(4), i(31, 6), i(1), i(1), i(7), i(18)), false);
        DUE.right("a STACK that grows in a loop", DUE.method(0, 0, false, i(1), i(31, 0)), false);
        // A loop in which a LOCAL goes up by many steps, and pulls another one with it.
        MapForge x = family(DUE.method(0, 0, false, i(5), i(30, 8), i(5), i(30, 9), i(25, 9), i(30, 8), i(25, 1),
                i(30, 9), i(1), i(32, 4), i(35, 0), i(30, 9), i(31, 4)));
        DUE.right("TOP is not for LOAD", x, false);
        x.change(10, 25, 2, 0);
        DUE.right("the loop", x, true);
        DUE.is("9 in the loop", x.flow(4, 9), 16 + 7);
        DUE.is("8 in the loop", x.flow(4, 8), 16 + 7);
        DUE.is("9 behind LOAD 3", x.flow(8, 9), 16 * 3 + 7);
        DUE.is("check of the loop", x.check(), MapForge.NONE);
    }

    /** A TYPE on the STACK alone goes up behind its PLACE when a later way comes to it. */
    private static void laterOnTheStack() {
        MapForge x = family(DUE.method(0, 0, false, i(25, 1), i(0), i(30, 9), i(25, 0), i(1), i(32, 1), i(18)));
        DUE.right("a loop with an OBJECT on the STACK", x, true);
        DUE.is("where they come together", x.flow(1, 10), 16 * 2 + 7);
        DUE.is("behind it, on the STACK", x.flow(2, 10), 16 * 2 + 7);
        DUE.is("behind it, in a LOCAL", x.flow(3, 9), 16 * 2 + 7);
        DUE.is("at the end", x.flow(6, 9), 16 * 2 + 7);
        DUE.is("check", x.check(), MapForge.NONE);
    }

    private static void handlers() {
        // PLACE 3 is guarded with LOCAL 9 TOP and INT (before and behind the STORE).
        MapForge x = DUE.method(0, 0, false, i(1), i(26, 9), i(0), i(18), i(6), i(18));
        DUE.is("handle", x.handle(2, 3, 4, 5), 1);
        DUE.right("HANDLER", x, true);
        DUE.is("OBJECT c", x.flow(4, 10), 16 * 5 + 7);
        DUE.is("alone", x.flow(4, 20), 1);
        DUE.is("LOCALS as before it", x.flow(4, 9), 1);
        DUE.is("handle once more", x.handle(1, 2, 4, 6), 2);
        DUE.is("LOCALS of both", x.flow(4, 9), 0);
        DUE.is("CLASSES of both", x.flow(4, 10), 7);
        DUE.right("check", x, true);
        DUE.is("check", x.check(), MapForge.NONE);
        // It is not come to from PLACE to on, nor from before from.
        MapForge y = DUE.method(0, 0, false, i(1), i(26, 9), i(18), i(6), i(18));
        DUE.is("handle", y.handle(0, 2, 3, 0), 1);
        DUE.is("not from PLACE to", y.flow(3, 9), 0);
        MapForge z = DUE.method(0, 0, false, i(1), i(26, 9), i(18), i(6), i(18));
        DUE.is("handle", z.handle(2, 50, 3, 0), 1);
        DUE.right("a HANDLER that guards itself", z, true);
        DUE.is("from PLACE from", z.flow(3, 9), 1);
        MapForge w = DUE.method(0, 0, false, i(18));
        DUE.is("handle", w.handle(1, 2, 9, 0), 1);
        DUE.right("guards no INSTRUCTION", w, true);
        DUE.is("and has no row", w.make(), 0);
        DUE.is("handle", w.handle(0, 1, 9, 0), 2);
        DUE.right("a PLACE that is not there", w, false);
        MapForge v = DUE.method(0, 0, false, i(0), i(6), i(18));
        DUE.is("handle", v.handle(0, 1, 1, 0), 1);
        DUE.right("STACKS of 0 and 1 by a HANDLER", v, false);
        MapForge u = DUE.method(0, 0, false, i(0), i(18));
        DUE.is("handle", u.handle(7, 9, 1, 0), 1);
        DUE.is("a row for a HANDLER that guards nothing", u.make(), 1);
        // In a CONSTRUCTOR guarded before and behind INIT the HANDLER has no THIS.
        MapForge t = DUE.method(0, 2, false, i(25, 0), i(36, 0), i(18), i(20));
        DUE.is("handle", t.handle(0, 2, 3, 0), 1);
        DUE.right("guarded before INIT", t, true);
        DUE.is("THIS IS RAW in the HANDLER", t.flow(3, 21), 1);
        DUE.is("check", t.check(), MapForge.NONE);
        DUE.is("handle", t.handle(2, 3, 3, 0), 2);
        DUE.right("guarded behind INIT, too", t, false);
    }

    private static void wholeness() {
        DUE.right("no INSTRUCTION", new MapForge(), false);
        DUE.right("not come to behind RETURN", DUE.method(0, 0, false, i(18), i(18)), false);
        DUE.right("not come to behind GOTO", DUE.method(0, 0, false, i(31, 2), i(0), i(18)), false);
        DUE.right("come to from behind", DUE.method(0, 0, false, i(31, 2), i(18), i(31, 1)), true);
        int[][] fifty = new int[50][];
        for (int p = 0; p < 50; p++) {
            fifty[p] = p < 49 ? i(31, p + 1) : i(18);
        }
        MapForge x = DUE.method(0, 0, false, fifty);
        DUE.right("50 INSTRUCTIONS", x, true);
        DUE.is("49 rows", x.make(), 49);
        DUE.is("check", x.check(), MapForge.NONE);
    }
}
