/** Promise 7, handle: which numbers are as said, how many, and which PLACES a HANDLER has. */
public final class Promise07Test {
    private static final Due DUE = new Due("promise 7, handle");

    public static void main(String[] args) {
        fromOutside();
        atOutside();
        toNotAboveFrom();
        toTooLarge();
        classOutside();
        leastAndMost();
        refusedChangesNothing();
        howMany();
        full();
        fromFromOn();
        belowTo();
        oneInstruction();
        behindTheCode();
        objectAlone();
        fourAtOnce();
        roomInTheHandler();
        countsAtOnce();
        DUE.end("Promise07Test");
    }

    private static int[] i(int... numbers) {
        return numbers;
    }

    private static void handle(int from, int to, int at, int c, int due) {
        MapForge x = new MapForge();
        DUE.is("handle(" + from + ", " + to + ", " + at + ", " + c + ")", x.handle(from, to, at, c), due);
        DUE.is("count(1)", x.count(1), due == 1 ? 1 : 0);
    }

    private static void fromOutside() {
        DUE.edge("from is not 0 to 49");
        for (int from : Due.outside(0, 49)) {
            handle(from, 50, 0, 0, MapForge.REFUSED);
            handle(from, from + 1, 0, 0, MapForge.REFUSED);
        }
    }

    private static void atOutside() {
        DUE.edge("at is not 0 to 49");
        for (int at : Due.outside(0, 49)) {
            handle(0, 1, at, 0, MapForge.REFUSED);
        }
    }

    private static void toNotAboveFrom() {
        DUE.edge("to is not above from");
        for (int from = 0; from < 50; from++) {
            handle(from, from, 0, 0, MapForge.REFUSED);
            handle(from, from - 1, 0, 0, MapForge.REFUSED);
            handle(from, Integer.MIN_VALUE, 0, 0, MapForge.REFUSED);
        }
    }

    private static void toTooLarge() {
        DUE.edge("to is above 50");
        for (int to : i(51, 52, 306, 65586, Integer.MAX_VALUE)) {
            handle(0, to, 0, 0, MapForge.REFUSED);
            handle(49, to, 0, 0, MapForge.REFUSED);
        }
    }

    private static void classOutside() {
        DUE.edge("c is not 0 to 7");
        for (int c : Due.outside(0, 7)) {
            handle(0, 1, 0, c, MapForge.REFUSED);
        }
    }

    private static void leastAndMost() {
        DUE.edge("the least and the greatest of each number");
        handle(0, 1, 0, 0, 1);
        handle(0, 50, 49, 7, 1);
        handle(49, 50, 0, 7, 1);
        handle(49, 50, 49, 0, 1);
        for (int from = 0; from < 50; from++) {
            handle(from, from + 1, from, from % 8, 1);
            handle(from, 50, 49 - from, 7 - from % 8, 1);
        }
    }

    private static void refusedChangesNothing() {
        DUE.edge("a refused call changes nothing");
        MapForge x = DUE.method(0, 0, false, i(0), i(18), i(6), i(18));
        x.handle(0, 1, 2, 3);
        String before = Due.stateOf(x);
        int[][] bad = {{-1, 1, 2, 3}, {50, 51, 2, 3}, {1, 1, 2, 3}, {0, 51, 2, 3}, {0, 1, -1, 3}, {0, 1, 50, 3}, {0, 1, 2, 8}};
        for (int[] h : bad) {
            DUE.is("handle", x.handle(h[0], h[1], h[2], h[3]), MapForge.REFUSED);
        }
        DUE.same("all", Due.stateOf(x), before);
    }

    private static void howMany() {
        DUE.edge("how many, from 1 to 4, the same ones too");
        MapForge x = new MapForge();
        for (int k = 1; k <= 4; k++) {
            DUE.is("handle(0, 1, 0, 0)", x.handle(0, 1, 0, 0), k);
            DUE.is("count(1)", x.count(1), k);
        }
    }

    private static void full() {
        DUE.edge("FULL with 4, and nothing changes");
        MapForge x = DUE.method(0, 0, false, i(0), i(18), i(6), i(18));
        for (int c = 4; c < 8; c++) {
            DUE.is("handle(0, 1, 2, c)", x.handle(0, 1, 2, 4), c - 3);
        }
        String before = Due.stateOf(x);
        DUE.is("handle(0, 1, 2, 5) with 4", x.handle(0, 1, 2, 5), MapForge.FULL);
        DUE.is("handle(1, 2, 9, 0) with 4", x.handle(1, 2, 9, 0), MapForge.FULL);
        DUE.is("handle(0, 0, 0, 0) with 4, not as said", x.handle(0, 0, 0, 0), MapForge.REFUSED);
        DUE.same("all", Due.stateOf(x), before);
        DUE.is("flow(2, 10)", x.flow(2, 10), 16 * 4 + 7);
    }

    /** LOCAL 9 is TOP before PLACE 1 and 2, INT before PLACE 3, FLOAT before PLACE 5. */
    private static MapForge guarded(int from, int to) {
        MapForge x = DUE.method(0, 0, false, i(0), i(1), i(26, 9), i(2), i(28, 9), i(18), i(6), i(18));
        DUE.is("handle", x.handle(from, to, 6, 0), 1);
        return x;
    }

    private static void fromFromOn() {
        DUE.edge("it has PLACE from, and not the one before it");
        DUE.is("from 3: INT alone", guarded(3, 4).flow(6, 9), 1);
        DUE.is("from 2: TOP, too", guarded(2, 4).flow(6, 9), 0);
        DUE.is("from 5: FLOAT alone", guarded(5, 6).flow(6, 9), 2);
        DUE.is("from 4: INT, too", guarded(4, 6).flow(6, 9), 0);
    }

    private static void belowTo() {
        DUE.edge("it has the PLACES below to, and not to");
        DUE.is("below 5: INT alone", guarded(3, 5).flow(6, 9), 1);
        DUE.is("below 6: FLOAT, too", guarded(3, 6).flow(6, 9), 0);
    }

    private static void oneInstruction() {
        DUE.edge("to just above from: one INSTRUCTION");
        int[] due = {0, 0, 0, 1, 1, 2};
        for (int p = 0; p < 6; p++) {
            DUE.is("of PLACE " + p, guarded(p, p + 1).flow(6, 9), due[p]);
        }
    }

    private static void behindTheCode() {
        DUE.edge("from and at may be behind the CODE, and count when it comes there");
        MapForge x = DUE.method(0, 0, false, i(18));
        DUE.is("handle(1, 2, 9, 0)", x.handle(1, 2, 9, 0), 1);
        DUE.is("no INSTRUCTION is in it: make()", x.make(), 0);
        DUE.is("check()", x.check(), MapForge.NONE);
        DUE.is("to 50 has all from PLACE 0 on", x.handle(0, 50, 9, 0), 2);
        DUE.is("make()", x.make(), MapForge.WRONG);
        DUE.is("check()", x.check(), 0);
    }

    private static void objectAlone() {
        DUE.edge("an OBJECT c alone is on the STACK, the LOCALS are as before");
        for (int c = 0; c < 8; c++) {
            MapForge x = DUE.method(0, 0, false, i(3), i(1), i(26, 4), i(18), i(6), i(18));
            DUE.is("handle(2, 3, 4, " + c + ")", x.handle(2, 3, 4, c), 1);
            DUE.is("flow(4, 20)", x.flow(4, 20), 1);
            DUE.is("flow(4, 10)", x.flow(4, 10), 16 * c + 7);
            DUE.is("flow(4, 4)", x.flow(4, 4), 0);
        }
    }

    private static void fourAtOnce() {
        DUE.edge("all of 4 HANDLERS count, the last too");
        MapForge x = DUE.method(0, 0, false, i(0), i(18), i(20), i(20), i(20), i(20));
        for (int k = 0; k < 4; k++) {
            DUE.is("make() with " + k, x.make(), MapForge.WRONG);
            DUE.is("handle(0, 1, " + (2 + k) + ", " + k + ")", x.handle(0, 1, 2 + k, k), k + 1);
        }
        DUE.is("make()", x.make(), 4);
        DUE.is("check()", x.check(), MapForge.NONE);
        for (int k = 0; k < 4; k++) {
            DUE.is("flow(" + (2 + k) + ", 10)", x.flow(2 + k, 10), 16 * k + 7);
        }
        DUE.is("cut", x.cut(x.map(-1) - 4), 4);
        DUE.is("check() without the last row", x.check(), 0);
    }

    private static void roomInTheHandler() {
        DUE.edge("the STACK of a HANDLER has 7 SLOTS free, whatever was on it before");
        MapForge x = DUE.method(0, 0, false, i(3), i(3), i(3), i(3), i(18), i(3), i(3), i(3), i(1), i(18));
        DUE.is("handle(4, 5, 5, 0)", x.handle(4, 5, 5, 0), 1);
        DUE.is("make()", x.make(), 1);
        DUE.is("check()", x.check(), MapForge.NONE);
        DUE.is("flow(9, 20)", x.flow(9, 20), 5);
        DUE.is("change(8, 3)", x.change(8, 3, 0, 0), true);
        DUE.is("make() with 9 SLOTS", x.make(), MapForge.WRONG);
        DUE.is("check()", x.check(), 8);
    }

    private static void countsAtOnce() {
        DUE.edge("one more counts at once for flow, make and check");
        MapForge x = DUE.method(0, 0, false, i(0), i(18), i(6), i(18));
        DUE.right("PLACE 2 is not come to", x, false);
        DUE.lay(x, 64 + 2, 7, 0, 0);
        DUE.is("check()", x.check(), MapForge.NONE);
        DUE.is("handle(0, 1, 2, 3)", x.handle(0, 1, 2, 3), 1);
        DUE.is("check()", x.check(), MapForge.NONE);
        DUE.right("PLACE 2 is come to", x, true);
        DUE.is("handle(0, 1, 3, 0)", x.handle(0, 1, 3, 0), 2);
        DUE.is("check()", x.check(), 0);
        DUE.right("STACKS of 0 and 1", x, false);
    }
}
