/** Promise 5, add: which INSTRUCTIONS are as said, what they have, and how many there may be. */
public final class Promise05Test {
    private static final Due DUE = new Due("promise 5, add");

    public static void main(String[] args) {
        opOutside();
        everyOp();
        localOutside();
        localsOfSmallOnes();
        localsOfWideOnes();
        classOutside();
        classLeastAndMost();
        secondClass();
        placeOutside();
        placeLeastAndMost();
        nothingButTheOp();
        noSecondNumber();
        noFirstNumber();
        refusedChangesNothing();
        full();
        lengths();
        countsAtOnce();
        DUE.end("Promise05Test");
    }

    private static int[] i(int... numbers) {
        return numbers;
    }

    private static boolean isWide(int op) {
        return op == 22 || op == 24 || op == 27 || op == 29;
    }

    private static void refused(int op, int a, int b) {
        MapForge x = new MapForge();
        DUE.is("add(" + op + ", " + a + ", " + b + ")", x.add(op, a, b), MapForge.REFUSED);
        DUE.is("count(0)", x.count(0), 0);
    }

    /** It is taken, and code tells it with a and b as due. */
    private static void taken(int op, int a, int b, int dueA, int dueB) {
        MapForge x = new MapForge();
        DUE.is("add(" + op + ", " + a + ", " + b + ")", x.add(op, a, b), 1);
        DUE.is("code(0, 0)", x.code(0, 0), op);
        DUE.is("code(0, 1) of " + op, x.code(0, 1), dueA);
        DUE.is("code(0, 2) of " + op, x.code(0, 2), dueB);
    }

    private static void opOutside() {
        DUE.edge("op is not 0 to 39");
        for (int op : Due.outside(0, 39)) {
            refused(op, 0, 0);
        }
    }

    private static void everyOp() {
        DUE.edge("op is 0 to 39");
        MapForge x = new MapForge();
        for (int op = 0; op < 40; op++) {
            DUE.is("add(" + op + ", 0, 0)", x.add(op, 0, 0), op + 1);
            DUE.is("code(" + op + ", 0)", x.code(op, 0), op);
        }
    }

    private static void localOutside() {
        DUE.edge("LOCAL a is not 0 to 9, or to 8 for a WIDE one");
        for (int op = 21; op <= 30; op++) {
            for (int a : Due.outside(0, isWide(op) ? 8 : 9)) {
                refused(op, a, 0);
            }
        }
    }

    private static void localsOfSmallOnes() {
        DUE.edge("LOCAL a is 0 to 9 for INT, FLOAT and the like of OBJECT");
        for (int op = 21; op <= 30; op++) {
            for (int a = 0; a < 10 && !isWide(op); a++) {
                taken(op, a, 0, a, 0);
            }
        }
    }

    private static void localsOfWideOnes() {
        DUE.edge("LOCAL a is 0 to 8 for LONG and DOUBLE");
        for (int op : i(22, 24, 27, 29)) {
            for (int a = 0; a < 9; a++) {
                taken(op, a, 0, a, 0);
            }
            refused(op, 9, 0);
        }
    }

    private static void classOutside() {
        DUE.edge("CLASS a is not 0 to 7");
        for (int op = 35; op <= 39; op++) {
            for (int a : Due.outside(0, 7)) {
                refused(op, a, 0);
            }
        }
    }

    private static void classLeastAndMost() {
        DUE.edge("CLASS a is 0 to 7");
        for (int op = 35; op <= 39; op++) {
            for (int a = 0; a < 8; a++) {
                taken(op, a, 0, a, 0);
            }
        }
    }

    private static void secondClass() {
        DUE.edge("CLASS b of GET is 0 to 7");
        for (int b = 0; b < 8; b++) {
            taken(38, 7 - b, b, 7 - b, b);
        }
        for (int b : Due.outside(0, 7)) {
            refused(38, 0, b);
        }
    }

    private static void placeOutside() {
        DUE.edge("PLACE b is not 0 to 49");
        for (int op = 31; op <= 34; op++) {
            for (int b : Due.outside(0, 49)) {
                refused(op, 0, b);
            }
        }
    }

    private static void placeLeastAndMost() {
        DUE.edge("PLACE b is 0 to 49, there or not");
        for (int op = 31; op <= 34; op++) {
            for (int b = 0; b < 50; b++) {
                taken(op, 0, b, 0, b);
            }
        }
    }

    private static void nothingButTheOp() {
        DUE.edge("0 to 20 have neither a nor b: 0 in their stead, whatever is told");
        for (int op = 0; op <= 20; op++) {
            taken(op, 7, 5, 0, 0);
            taken(op, -1, 50, 0, 0);
            taken(op, Integer.MAX_VALUE, Integer.MIN_VALUE, 0, 0);
        }
    }

    private static void noSecondNumber() {
        DUE.edge("21 to 30, 35 to 37 and 39 have no b: 0 in its stead, whatever is told");
        for (int op = 21; op <= 39; op++) {
            if (op <= 30 || op >= 35 && op != 38) {
                taken(op, 3, 5, 3, 0);
                taken(op, 3, -1, 3, 0);
                taken(op, 3, 8, 3, 0);
                taken(op, 3, 50, 3, 0);
            }
        }
    }

    private static void noFirstNumber() {
        DUE.edge("31 to 34 have no a: 0 in its stead, whatever is told");
        for (int op = 31; op <= 34; op++) {
            taken(op, 5, 9, 0, 9);
            taken(op, -1, 9, 0, 9);
            taken(op, 10, 9, 0, 9);
            taken(op, Integer.MAX_VALUE, 9, 0, 9);
        }
    }

    private static void refusedChangesNothing() {
        DUE.edge("a refused call changes nothing");
        MapForge x = DUE.method(0, 0, false, i(0), i(18));
        String before = Due.stateOf(x);
        int[][] bad = {{-1, 0, 0}, {40, 0, 0}, {21, 10, 0}, {22, 9, 0}, {31, 0, 50}, {35, 8, 0}, {38, 0, 8}, {39, -1, 0}};
        for (int[] one : bad) {
            DUE.is("add of " + one[0], x.add(one[0], one[1], one[2]), MapForge.REFUSED);
        }
        DUE.same("all", Due.stateOf(x), before);
    }

    private static void full() {
        DUE.edge("FULL with 50, and nothing changes");
        MapForge x = new MapForge();
        for (int k = 1; k <= 50; k++) {
            DUE.is("add of the " + k + "th", x.add(k % 21, 0, 0), k);
        }
        DUE.is("add(31, 0, 0) with 50", x.add(31, 0, 0), MapForge.FULL);
        DUE.is("add(0, 0, 0) with 50", x.add(0, 0, 0), MapForge.FULL);
        DUE.is("add(40, 0, 0) with 50, not as said", x.add(40, 0, 0), MapForge.REFUSED);
        DUE.is("count(0)", x.count(0), 50);
        DUE.is("count(3)", x.count(3), 50);
        for (int p = 0; p < 50; p++) {
            DUE.is("code(" + p + ", 0)", x.code(p, 0), (p + 1) % 21);
        }
        DUE.is("code(50, 0)", x.code(50, 0), MapForge.NONE);
    }

    private static void lengths() {
        DUE.edge("up to op 20 1 byte, up to 30 2, others 3");
        for (int op = 0; op < 40; op++) {
            MapForge x = new MapForge();
            DUE.write(x, i(op, 0), i(0));
            int length = op <= 20 ? 1 : op <= 30 ? 2 : 3;
            DUE.is("OFFSET behind " + op, x.code(1, 3), length);
            DUE.is("count(3)", x.count(3), length + 1);
        }
    }

    private static void countsAtOnce() {
        DUE.edge("one more counts at once for flow, make and check");
        MapForge x = DUE.method(0, 0, false, i(0));
        DUE.right("without an end", x, false);
        DUE.is("check()", x.check(), 1);
        DUE.is("add(18, 0, 0)", x.add(18, 0, 0), 2);
        DUE.right("with an end", x, true);
        DUE.is("check()", x.check(), MapForge.NONE);
        DUE.is("add(18, 0, 0)", x.add(18, 0, 0), 3);
        DUE.right("with one not come to", x, false);
        DUE.is("check()", x.check(), 2);
    }
}
