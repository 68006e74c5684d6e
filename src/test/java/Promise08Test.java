/** Promise 8, make: when a METHOD is WRONG, how much room there is, and each edge of the bytes of a row. */
public final class Promise08Test {
    private static final Due DUE = new Due("promise 8, make");

    public static void main(String[] args) {
        wrongMethods();
        joinsOnTheStack();
        constructors();
        room();
        howMany();
        whereRowsAre();
        deltas();
        lists();
        types();
        nothingIsLeftOver();
        DUE.end("Promise08Test");
    }

    private static int[] i(int... numbers) {
        return numbers;
    }

    /** The METHOD is WRONG, and the MAP stays. */
    private static void wrong(MapForge x) {
        DUE.lay(x, 7, 200);
        DUE.is("make()", x.make(), MapForge.WRONG);
        DUE.map(x, 7, 200);
    }

    /** The METHOD is not WRONG, and the MAP of so many rows takes the place of another. */
    private static void right(MapForge x, int rows) {
        DUE.lay(x, 7, 200);
        DUE.is("make()", x.make(), rows);
        DUE.is("count(4)", x.count(4), rows);
        DUE.is("check()", x.check(), MapForge.NONE);
    }

    /** These bytes, and no more, are made. */
    private static void bytes(MapForge x, int rows, int... bytes) {
        right(x, rows);
        DUE.map(x, bytes);
    }

    private static MapForge code(int[]... code) {
        return DUE.method(0, 0, false, code);
    }

    private static void wrongMethods() {
        DUE.edge("WRONG: no INSTRUCTION");
        wrong(new MapForge());
        DUE.edge("one INSTRUCTION is enough");
        right(code(i(18)), 0);
        DUE.edge("WRONG: an INSTRUCTION does not have what it takes");
        wrong(code(i(6), i(18)));
        wrong(code(i(3), i(6), i(18)));
        wrong(code(i(21, 0), i(18)));
        DUE.edge("8 SLOTS on the STACK");
        right(code(i(1), i(1), i(1), i(1), i(1), i(1), i(1), i(1), i(18)), 0);
        right(code(i(3), i(3), i(3), i(3), i(18)), 0);
        DUE.edge("WRONG: more than 8 SLOTS on the STACK");
        wrong(code(i(1), i(1), i(1), i(1), i(1), i(1), i(1), i(1), i(1), i(18)));
        wrong(code(i(3), i(3), i(3), i(3), i(1), i(18)));
        wrong(code(i(3), i(3), i(3), i(1), i(3), i(18)));
        wrong(code(i(3), i(3), i(3), i(1), i(1), i(14), i(18)));
        DUE.edge("WRONG: PLACE b is just behind the CODE");
        wrong(code(i(1), i(32, 3), i(18)));
        DUE.edge("PLACE b is the last one");
        right(code(i(1), i(32, 2), i(18)), 1);
        DUE.edge("WRONG: one may go on behind the last INSTRUCTION");
        wrong(code(i(0)));
        wrong(code(i(1), i(32, 0)));
        wrong(code(i(18), i(0)));
        DUE.edge("WRONG: PLACE at of a HANDLER is not there");
        MapForge x = code(i(0), i(18));
        x.handle(0, 1, 2, 0);
        wrong(x);
        DUE.edge("PLACE at is not there, but the HANDLER has no INSTRUCTION");
        MapForge y = code(i(0), i(18));
        y.handle(2, 50, 2, 0);
        right(y, 0);
        DUE.edge("WRONG: some PLACE is not come to");
        wrong(code(i(18), i(18)));
        wrong(code(i(31, 2), i(0), i(18)));
        wrong(code(i(18), i(31, 1)));
        DUE.edge("each PLACE is come to, the first from behind");
        right(code(i(31, 2), i(18), i(31, 1)), 2);
    }

    private static void joinsOnTheStack() {
        DUE.edge("WRONG: STACKS that come together have not as many TYPES");
        wrong(code(i(1), i(32, 3), i(1), i(18)));
        wrong(code(i(1), i(31, 0)));
        wrong(code(i(1), i(32, 4), i(4), i(31, 6), i(1), i(1), i(18)));
        DUE.edge("WRONG: TYPES on the STACK JOIN to TOP, used or not");
        wrong(code(i(1), i(32, 4), i(1), i(31, 5), i(2), i(18)));
        wrong(code(i(1), i(32, 4), i(3), i(31, 5), i(4), i(18)));
        wrong(code(i(1), i(32, 4), i(5), i(31, 5), i(1), i(18)));
        wrong(code(i(1), i(32, 4), i(35, 0), i(31, 5), i(35, 0), i(18)));
        DUE.edge("TYPES in LOCALS JOIN to TOP and it is not WRONG");
        right(code(i(1), i(32, 5), i(1), i(26, 0), i(31, 7), i(2), i(28, 0), i(18)), 2);
        DUE.edge("NULL and OBJECT on the STACK");
        right(code(i(1), i(32, 4), i(5), i(31, 6), i(5), i(39, 3), i(18)), 2);
    }

    private static void constructors() {
        DUE.edge("WRONG: at a row THIS IS RAW, but RAW THIS is in no LOCAL");
        wrong(DUE.method(0, 2, false, i(25, 0), i(1), i(26, 0), i(31, 4), i(36, 0), i(18)));
        wrong(DUE.method(0, 2, false, i(1), i(32, 4), i(25, 0), i(36, 0), i(5), i(20)));
        DUE.edge("WRONG: THIS IS RAW in no LOCAL at a row of PLACE 0");
        wrong(DUE.method(0, 2, false, i(1), i(26, 0), i(31, 0)));
        DUE.edge("THIS IS RAW in no LOCAL, and no row is there");
        right(DUE.method(0, 2, false, i(25, 0), i(1), i(26, 0), i(36, 0), i(18)), 0);
        DUE.edge("at a row THIS IS RAW, and RAW THIS is in the last LOCAL alone");
        right(DUE.method(0, 2, false, i(25, 0), i(8), i(30, 9), i(1), i(26, 0), i(31, 6), i(36, 0), i(18)), 1);
        DUE.edge("WRONG: RETURN where THIS IS RAW");
        wrong(DUE.method(0, 2, false, i(18)));
    }

    /** 9 rows of 44 bytes (10 OBJECTS in LOCALS, 7 NULLS on the STACK), then so many of 1 byte. */
    private static MapForge large(int small) {
        MapForge x = new MapForge();
        x.argument(7);
        for (int k = 1; k < 10; k++) {
            DUE.write(x, i(25, 0), i(30, k));
        }
        DUE.write(x, i(5), i(5), i(5), i(5), i(5), i(5), i(5));
        for (int k = 0; k < 9; k++) {
            DUE.write(x, i(31, x.count(0) + 1));
        }
        DUE.write(x, i(6), i(6), i(6), i(6), i(6), i(6), i(6));
        for (int k = 0; k < small; k++) {
            DUE.write(x, i(31, x.count(0) + 1));
        }
        DUE.write(x, i(18));
        return x;
    }

    private static void room() {
        DUE.edge("400 bytes have room");
        MapForge x = large(4);
        right(x, 13);
        DUE.is("map(-1)", x.map(-1), 400);
        DUE.is("map(399)", x.map(399), 2);
        DUE.edge("FULL with 401 bytes, and the MAP stays");
        MapForge y = large(5);
        DUE.lay(y, 1, 2, 3);
        DUE.is("make()", y.make(), MapForge.FULL);
        DUE.map(y, 1, 2, 3);
        DUE.is("flow is there all the same", y.flow(0, 0), 7);
        DUE.edge("FULL, and a MAP of 400 bytes stays");
        // A LONG in the stead of the first small GOTO: 3 rows of 2 bytes for 4 of 1.
        DUE.is("change", x.change(x.count(0) - 5, 4, 0, 0), true);
        DUE.is("make()", x.make(), MapForge.FULL);
        DUE.is("map(-1)", x.map(-1), 400);
        DUE.is("map(0)", x.map(0), 255);
        DUE.edge("WRONG where it would have more than 400 bytes");
        DUE.is("change", y.change(y.count(0) - 1, 6, 0, 0), true);
        wrong(y);
    }

    private static void howMany() {
        DUE.edge("no rows: an empty MAP, and what was there before is gone");
        bytes(code(i(0), i(18)), 0);
        DUE.edge("50 rows");
        MapForge x = new MapForge();
        for (int p = 0; p < 50; p++) {
            DUE.write(x, i(31, (p + 1) % 50));
        }
        right(x, 50);
        DUE.is("map(-1)", x.map(-1), 50);
        DUE.is("row(49, 21)", x.row(49, 21), 147);
        DUE.edge("made once more it is the same");
        DUE.is("make()", x.make(), 50);
        DUE.is("map(-1)", x.map(-1), 50);
        DUE.is("map(49)", x.map(49), 2);
    }

    private static void whereRowsAre() {
        DUE.edge("a row where b of 31 to 34 is");
        bytes(code(i(0), i(31, 1)), 1, 1);
        bytes(code(i(0), i(1), i(32, 3), i(18)), 1, 5);
        bytes(code(i(0), i(5), i(33, 3), i(18)), 1, 5);
        bytes(code(i(0), i(5), i(5), i(34, 4), i(18)), 1, 6);
        DUE.edge("a row at PLACE 0");
        bytes(code(i(31, 0)), 1, 0);
        DUE.edge("one row where several go on");
        bytes(code(i(1), i(32, 4), i(1), i(32, 4), i(18)), 1, 8);
        DUE.edge("a row behind 18 to 20 and 31, and none behind others");
        bytes(code(i(31, 2), i(18), i(1), i(32, 1), i(18)), 2, 3, 0);
        bytes(DUE.method(0, 0, true, i(31, 3), i(1), i(19), i(1), i(32, 1), i(5), i(20)), 2, 3, 1);
        bytes(code(i(31, 3), i(5), i(20), i(1), i(32, 1), i(18)), 2, 3, 1);
        DUE.edge("a row where at of a HANDLER is, with an INSTRUCTION or without");
        MapForge x = code(i(0), i(18), i(20));
        x.handle(0, 1, 2, 3);
        bytes(x, 1, 66, 7, 0, 3);
        MapForge y = code(i(0), i(18));
        y.handle(7, 9, 1, 3);
        bytes(y, 1, 1);
        DUE.edge("rows stand by their OFFSETS");
        bytes(code(i(31, 3), i(0), i(18), i(31, 1)), 2, 3, 1);
    }

    /** A METHOD whose one row has this OFFSET (7 or more), with the TYPE of op on the STACK, or none for op 0. */
    private static MapForge far(int offset, int op) {
        int rest = offset - (op == 0 ? 6 : 7);
        int last = (op == 0 ? 4 : 5) + rest / 3 + rest % 3;
        MapForge x = new MapForge();
        if (op != 0) {
            DUE.write(x, i(op));
        }
        DUE.write(x, i(1), i(32, last), i(5));
        for (int k = 0; k < rest / 3; k++) {
            DUE.write(x, i(39, 0));
        }
        DUE.write(x, i(6));
        for (int k = 0; k < rest % 3; k++) {
            DUE.write(x, i(0));
        }
        DUE.write(x, i(18));
        return x;
    }

    private static void deltas() {
        DUE.edge("the list as before, an empty STACK: DELTA 63 in one byte");
        bytes(far(63, 0), 1, 63);
        DUE.edge("the list as before, an empty STACK: DELTA 64 by 251");
        bytes(far(64, 0), 1, 251, 0, 64);
        bytes(far(127, 0), 1, 251, 0, 127);
        DUE.edge("the list as before, one TYPE on the STACK: DELTA 63 in one byte");
        bytes(far(63, 1), 1, 127, 1);
        DUE.edge("the list as before, one TYPE on the STACK: DELTA 64 by 247");
        bytes(far(64, 3), 1, 247, 0, 64, 3);
        DUE.edge("the DELTA of the first row is its OFFSET, of others 1 less than how far it is");
        bytes(code(i(31, 1), i(31, 2), i(0), i(31, 4), i(18)), 3, 3, 2, 3);
        DUE.edge("the least DELTA behind a row is 0");
        bytes(code(i(31, 2), i(18), i(1), i(32, 1), i(31, 2)), 2, 3, 0);
    }

    /** LOCALS 0 to 3 are INT, the last of them by STORE, and are so many fewer at the row. */
    private static MapForge shorter(int less) {
        MapForge x = new MapForge();
        for (int k = 0; k < 4; k++) {
            x.argument(1);
        }
        DUE.write(x, i(1), i(32, 2 * less + 2));
        for (int k = 0; k < less; k++) {
            DUE.write(x, i(5), i(30, 3 - k));
        }
        DUE.write(x, i(18));
        return x;
    }

    /** FLOAT is in LOCAL 0 in the FIRST FRAME, and so many INTS behind it at the row. */
    private static MapForge longer(int more) {
        MapForge x = new MapForge();
        x.argument(2);
        for (int k = 1; k <= more; k++) {
            DUE.write(x, i(1), i(26, k));
        }
        DUE.write(x, i(31, 2 * more + 1), i(18));
        return x;
    }

    private static void lists() {
        DUE.edge("the list before the first row is that of the FIRST FRAME");
        bytes(longer(0), 1, 3);
        bytes(DUE.method(6, 1, false, i(31, 1), i(18)), 1, 3);
        bytes(DUE.method(6, 2, false, i(31, 1), i(5), i(20)), 1, 3);
        DUE.edge("without its last 1 to 3");
        bytes(shorter(1), 1, 250, 0, 7);
        bytes(shorter(2), 1, 249, 0, 10);
        bytes(shorter(3), 1, 248, 0, 13);
        DUE.edge("without its last 2, of which one is a TOP");
        MapForge x = code(i(1), i(26, 2), i(31, 3), i(1), i(32, 7), i(5), i(30, 2), i(18));
        x.argument(1);
        bytes(x, 2, 253, 0, 6, 0, 1, 249, 0, 6);
        DUE.edge("without its last 4: 255");
        bytes(shorter(4), 1, 255, 0, 16, 0, 0, 0, 0);
        DUE.edge("1 to 3 more");
        bytes(longer(1), 1, 252, 0, 6, 1);
        bytes(longer(2), 1, 253, 0, 9, 1, 1);
        bytes(longer(3), 1, 254, 0, 12, 1, 1, 1);
        DUE.edge("4 more: 255");
        bytes(longer(4), 1, 255, 0, 15, 0, 5, 2, 1, 1, 1, 1, 0, 0);
        DUE.edge("as many, but others: 255");
        bytes(DUE.method(4, 1, false, i(1), i(26, 0), i(31, 3), i(18)), 1, 255, 0, 6, 0, 1, 1, 0, 0);
        DUE.edge("more, but others at the start: 255");
        bytes(DUE.method(4, 1, false, i(1), i(8), i(26, 0), i(26, 1), i(31, 5), i(18)), 1, 255, 0, 9, 0, 2, 1, 1, 0, 0);
        DUE.edge("1 to 3 more or fewer, and one TYPE on the STACK: 255");
        bytes(code(i(1), i(26, 0), i(5), i(31, 4), i(18)), 1, 255, 0, 7, 0, 1, 1, 0, 1, 5);
        DUE.edge("the list as before, two TYPES on the STACK: 255");
        bytes(code(i(3), i(5), i(31, 3), i(18)), 1, 255, 0, 5, 0, 0, 0, 2, 3, 5);
        DUE.edge("a WIDE TYPE and the TOP behind it are one");
        bytes(code(i(4), i(27, 0), i(3), i(29, 2), i(1), i(26, 4), i(31, 7), i(18)), 1, 254, 0, 12, 4, 3, 1);
        bytes(code(i(4), i(27, 8), i(31, 3), i(18)), 1, 255, 0, 6, 0, 9, 0, 0, 0, 0, 0, 0, 0, 0, 4, 0, 0);
        DUE.edge("TOPS at the end are left out, those before another TYPE not");
        bytes(code(i(1), i(26, 2), i(31, 3), i(18)), 1, 254, 0, 6, 0, 0, 1);
        bytes(code(i(1), i(26, 3), i(31, 3), i(18)), 1, 255, 0, 6, 0, 4, 0, 0, 0, 1, 0, 0);
        bytes(code(i(1), i(26, 9), i(31, 3), i(18)), 1, 255, 0, 6, 0, 10, 0, 0, 0, 0, 0, 0, 0, 0, 0, 1, 0, 0);
        DUE.edge("the list of the row before counts, not that of the FIRST FRAME");
        bytes(code(i(1), i(26, 0), i(31, 3), i(1), i(26, 1), i(31, 6), i(31, 7), i(18)), 3, 252, 0, 6, 1, 252, 0, 5, 1, 2);
    }

    private static void types() {
        DUE.edge("1 to 5 are one byte");
        for (int type = 1; type <= 5; type++) {
            bytes(code(i(type), i(31, 2), i(18)), 1, 64 + 4, type);
        }
        DUE.edge("RAW THIS is one byte");
        bytes(DUE.method(2, 2, false, i(25, 0), i(31, 2), i(36, 2), i(18)), 1, 64 + 5, 6);
        DUE.edge("OBJECT is 7 and its CLASS in two bytes");
        for (int c = 0; c < 8; c++) {
            bytes(code(i(5), i(39, c), i(31, 3), i(18)), 1, 64 + 7, 7, 0, c);
        }
        DUE.edge("RAW is 8 and its OFFSET in two bytes");
        bytes(code(i(35, 6), i(31, 2), i(36, 6), i(18)), 1, 64 + 6, 8, 0, 0);
        bytes(code(i(0), i(0), i(35, 6), i(31, 4), i(36, 6), i(18)), 1, 64 + 8, 8, 0, 2);
        DUE.edge("RAW of a great OFFSET");
        MapForge x = code(i(5));
        for (int k = 0; k < 45; k++) {
            DUE.write(x, i(39, 0));
        }
        DUE.write(x, i(35, 6), i(31, 48), i(36, 6), i(18));
        bytes(x, 1, 255, 0, 142, 0, 0, 0, 2, 7, 0, 0, 8, 0, 136);
    }

    /** Nothing of a METHOD that was there before is in the rows of this one. */
    private static void nothingIsLeftOver() {
        DUE.edge("a row that is due no more is made no more, at the first PLACE and at the 50th");
        MapForge x = new MapForge();
        DUE.write(x, i(0), i(1), i(32, 49), i(1), i(32, 0));
        for (int p = 5; p < 49; p++) {
            DUE.write(x, i(0));
        }
        DUE.write(x, i(18));
        DUE.is("make()", x.make(), 2);
        DUE.is("change(2)", x.change(2, 32, 0, 3), true);
        DUE.is("change(4)", x.change(4, 32, 0, 5), true);
        DUE.is("make()", x.make(), 2);
        DUE.map(x, 5, 3);
        DUE.edge("a 50th PLACE that was come to and is no more");
        DUE.is("change(48)", x.change(48, 18, 0, 0), true);
        DUE.is("make()", x.make(), MapForge.WRONG);
        DUE.is("change(48)", x.change(48, 0, 0, 0), true);
        DUE.is("make()", x.make(), 2);
        DUE.edge("a METHOD behind one that was WRONG half way");
        MapForge y = code(i(31, 2), i(18), i(1), i(32, 1), i(6));
        DUE.is("make()", y.make(), MapForge.WRONG);
        DUE.is("method(0, 0, false)", y.method(0, 0, false), true);
        DUE.write(y, i(31, 3), i(6), i(18), i(1), i(31, 1));
        bytes(y, 2, 67, 1, 1);
    }
}
