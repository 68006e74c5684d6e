/** Promise 6, change: which INSTRUCTIONS are there, and what another one in its stead does. */
public final class Promise06Test {
    private static final Due DUE = new Due("promise 6, change");

    public static void main(String[] args) {
        noneInNoCode();
        noneSuch();
        firstAndLast();
        fiftieth();
        numbersNotAsSaid();
        refusedChangesNothing();
        whatAnOpHasNot();
        offsetsMove();
        othersStay();
        countsAtOnce();
        DUE.end("Promise06Test");
    }

    private static int[] i(int... numbers) {
        return numbers;
    }

    private static void noneInNoCode() {
        DUE.edge("there is none in an empty CODE");
        MapForge x = new MapForge();
        for (int at : i(0, 1, -1, 49)) {
            DUE.is("change(" + at + ", 0, 0, 0)", x.change(at, 0, 0, 0), false);
        }
        DUE.is("count(0)", x.count(0), 0);
    }

    private static void noneSuch() {
        DUE.edge("i is below 0, or as many as there are, or more");
        MapForge x = DUE.method(0, 0, false, i(0), i(0), i(18));
        for (int at : Due.outside(0, 2)) {
            DUE.is("change(" + at + ", 0, 0, 0)", x.change(at, 0, 0, 0), false);
        }
        DUE.is("change(49, 0, 0, 0)", x.change(49, 0, 0, 0), false);
        DUE.is("count(0)", x.count(0), 3);
    }

    private static void firstAndLast() {
        DUE.edge("the first and the last are there");
        MapForge x = DUE.method(0, 0, false, i(0), i(0), i(18));
        DUE.is("change(0, 21, 9, 0)", x.change(0, 21, 9, 0), true);
        DUE.is("change(2, 38, 6, 7)", x.change(2, 38, 6, 7), true);
        int[][] due = {{21, 9, 0, 0}, {0, 0, 0, 2}, {38, 6, 7, 3}};
        for (int k = 0; k < 12; k++) {
            DUE.is("code(" + k / 4 + ", " + k % 4 + ")", x.code(k / 4, k % 4), due[k / 4][k % 4]);
        }
    }

    private static void fiftieth() {
        DUE.edge("of 50 the last is there, and none behind it");
        MapForge x = new MapForge();
        for (int k = 0; k < 50; k++) {
            x.add(0, 0, 0);
        }
        DUE.is("change(50, 31, 0, 49)", x.change(50, 31, 0, 49), false);
        DUE.is("change(49, 31, 0, 49)", x.change(49, 31, 0, 49), true);
        DUE.is("code(49, 0)", x.code(49, 0), 31);
        DUE.is("count(0)", x.count(0), 50);
        DUE.is("count(3)", x.count(3), 52);
    }

    private static void numbersNotAsSaid() {
        DUE.edge("a number is not as said, as for add");
        MapForge x = DUE.method(0, 0, false, i(0), i(18));
        for (int op : Due.outside(0, 39)) {
            DUE.is("change(0, " + op + ", 0, 0)", x.change(0, op, 0, 0), false);
        }
        for (int op = 21; op <= 30; op++) {
            boolean wide = op == 22 || op == 24 || op == 27 || op == 29;
            DUE.is("change(0, " + op + ", -1, 0)", x.change(0, op, -1, 0), false);
            DUE.is("change(0, " + op + ", 10, 0)", x.change(0, op, 10, 0), false);
            DUE.is("change(0, " + op + ", 9, 0)", x.change(0, op, 9, 0), !wide);
            DUE.is("change(0, " + op + ", 8, 0)", x.change(0, op, 8, 0), true);
        }
        for (int op = 31; op <= 34; op++) {
            DUE.is("change(0, " + op + ", 0, -1)", x.change(0, op, 0, -1), false);
            DUE.is("change(0, " + op + ", 0, 50)", x.change(0, op, 0, 50), false);
            DUE.is("change(0, " + op + ", 0, 49)", x.change(0, op, 0, 49), true);
        }
        for (int op = 35; op <= 39; op++) {
            DUE.is("change(0, " + op + ", -1, 0)", x.change(0, op, -1, 0), false);
            DUE.is("change(0, " + op + ", 8, 0)", x.change(0, op, 8, 0), false);
            DUE.is("change(0, " + op + ", 7, 8)", x.change(0, op, 7, 8), op != 38);
            DUE.is("change(0, " + op + ", 7, -1)", x.change(0, op, 7, -1), op != 38);
            DUE.is("change(0, " + op + ", 7, 7)", x.change(0, op, 7, 7), true);
        }
    }

    private static void refusedChangesNothing() {
        DUE.edge("a refused call changes nothing");
        MapForge x = DUE.method(0, 0, false, i(5), i(38, 3, 4), i(18));
        String before = Due.stateOf(x);
        int[][] bad = {{1, -1, 0, 0}, {1, 40, 0, 0}, {1, 21, 10, 0}, {1, 27, 9, 0}, {1, 31, 0, 50}, {1, 35, 8, 0},
            {1, 38, 0, 8}, {3, 0, 0, 0}, {-1, 0, 0, 0}};
        for (int[] one : bad) {
            DUE.is("change(" + one[0] + ", " + one[1] + ")", x.change(one[0], one[1], one[2], one[3]), false);
        }
        DUE.same("all", Due.stateOf(x), before);
    }

    private static void whatAnOpHasNot() {
        DUE.edge("what the new op has not is 0 in its stead");
        MapForge x = DUE.method(0, 0, false, i(38, 3, 4), i(18));
        int[][] turns = {{0, -7, 99, 0, 0}, {38, 3, 4, 3, 4}, {25, 6, 99, 6, 0}, {31, 99, 6, 0, 6}, {37, 5, 99, 5, 0}};
        for (int[] turn : turns) {
            DUE.is("change(0, " + turn[0] + ")", x.change(0, turn[0], turn[1], turn[2]), true);
            DUE.is("code(0, 1) of " + turn[0], x.code(0, 1), turn[3]);
            DUE.is("code(0, 2) of " + turn[0], x.code(0, 2), turn[4]);
        }
    }

    private static void offsetsMove() {
        DUE.edge("the OFFSETS behind it move, those before it stay");
        MapForge x = DUE.method(0, 0, false, i(21, 0), i(0), i(0), i(18));
        int[][] turns = {{39, 5}, {25, 4}, {20, 3}};
        for (int[] turn : turns) {
            DUE.is("change(1, " + turn[0] + ")", x.change(1, turn[0], 0, 0), true);
            DUE.is("code(0, 3)", x.code(0, 3), 0);
            DUE.is("code(1, 3)", x.code(1, 3), 2);
            DUE.is("code(2, 3)", x.code(2, 3), turn[1]);
            DUE.is("code(3, 3)", x.code(3, 3), turn[1] + 1);
            DUE.is("count(3)", x.count(3), turn[1] + 2);
        }
    }

    private static void othersStay() {
        DUE.edge("other INSTRUCTIONS, HANDLERS, ARGUMENTS and MAP stay");
        MapForge x = DUE.method(0, 0, false, i(5), i(38, 3, 4), i(18));
        x.argument(3);
        x.handle(0, 1, 2, 3);
        x.patch(0, 201);
        DUE.is("change(0, 39, 6, 0)", x.change(0, 39, 6, 0), true);
        DUE.is("count(0)", x.count(0), 3);
        DUE.is("count(1)", x.count(1), 1);
        DUE.is("count(2)", x.count(2), 1);
        DUE.is("code(1, 0)", x.code(1, 0), 38);
        DUE.is("code(1, 1)", x.code(1, 1), 3);
        DUE.is("code(1, 2)", x.code(1, 2), 4);
        DUE.is("code(2, 0)", x.code(2, 0), 18);
        DUE.map(x, 201);
    }

    private static void countsAtOnce() {
        DUE.edge("another one counts at once for flow, make, check and rows");
        MapForge x = DUE.method(0, 0, false, i(0), i(0), i(18));
        DUE.right("before", x, true);
        DUE.is("change(0, 31, 0, 1)", x.change(0, 31, 0, 1), true);
        DUE.is("check() without the row", x.check(), 0);
        DUE.is("make()", x.make(), 1);
        DUE.is("check()", x.check(), MapForge.NONE);
        DUE.is("row(0, 21)", x.row(0, 21), 3);
        DUE.is("change(0, 1, 0, 0)", x.change(0, 1, 0, 0), true);
        DUE.is("flow(1, 10)", x.flow(1, 10), 1);
        DUE.is("no PLACE at OFFSET 3", x.count(4), MapForge.BROKEN);
        DUE.is("change(1, 6, 0, 0)", x.change(1, 6, 0, 0), true);
        DUE.is("flow(2, 20)", x.flow(2, 20), 0);
        DUE.is("change(0, 0, 0, 0)", x.change(0, 0, 0, 0), true);
        DUE.is("make()", x.make(), MapForge.WRONG);
    }
}
