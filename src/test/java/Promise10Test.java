import java.util.Arrays;

/** Promise 10, check: each way in which bytes are no rows, and in which a PLACE is BAD. */
public final class Promise10Test {
    private static final Due DUE = new Due("promise 10, check");

    public static void main(String[] args) {
        answers();
        firstBytes();
        types();
        longLists();
        shortLists();
        slots();
        missingBytes();
        offsets();
        rise();
        badRows();
        badInstructions();
        badWays();
        badHandlers();
        badThis();
        least();
        changesNothing();
        DUE.end("Promise10Test");
    }

    private static int[] i(int... numbers) {
        return numbers;
    }

    private static MapForge code(int[]... code) {
        return DUE.method(0, 0, false, code);
    }

    private static void check(MapForge x, int due, int... bytes) {
        DUE.lay(x, bytes);
        DUE.is("check() with " + Arrays.toString(bytes), x.check(), due);
    }

    private static void broken(int... bytes) {
        MapForge x = DUE.sixPlaces();
        check(x, MapForge.BROKEN, bytes);
        DUE.is("count(4)", x.count(4), MapForge.BROKEN);
        DUE.is("row(0, 21)", x.row(0, 21), MapForge.NONE);
    }

    /** So many rows; whether a PLACE is BAD by them is not asked. */
    private static void sound(int rows, int... bytes) {
        MapForge x = DUE.sixPlaces();
        DUE.lay(x, bytes);
        DUE.is("count(4) with " + Arrays.toString(bytes), x.count(4), rows);
        DUE.is("BROKEN", x.check() == MapForge.BROKEN, false);
    }

    private static void answers() {
        DUE.edge("WRONG: there is no CODE");
        MapForge x = new MapForge();
        DUE.is("check()", x.check(), MapForge.WRONG);
        DUE.edge("WRONG: there is no CODE any more, with a MAP or without");
        MapForge y = code(i(31, 1), i(18));
        DUE.is("make()", y.make(), 1);
        DUE.is("check()", y.check(), MapForge.NONE);
        DUE.is("method(0, 0, false)", y.method(0, 0, false), true);
        DUE.is("check()", y.check(), MapForge.WRONG);
        DUE.edge("NONE: all is well, without rows");
        check(code(i(18)), MapForge.NONE);
        DUE.edge("BROKEN even where PLACE 0 is BAD without rows");
        check(code(i(6)), MapForge.BROKEN, 200);
        check(code(i(6)), 0);
        DUE.edge("a METHOD that is WRONG for make can be well by its rows");
        MapForge z = code(i(18), i(6), i(18));
        DUE.is("make()", z.make(), MapForge.WRONG);
        check(z, MapForge.NONE, 64 + 1, 1);
    }

    private static void firstBytes() {
        DUE.edge("BROKEN: a number that no row has, 128 to 246");
        for (int first = 128; first <= 246; first++) {
            broken(first);
            broken(first, 0, 0, 1, 0, 0, 0);
            broken(0, first);
        }
        DUE.edge("127 and 247 are numbers that rows have");
        MapForge x = code(i(5));
        for (int k = 0; k < 21; k++) {
            DUE.write(x, i(39, 0));
        }
        DUE.write(x, i(18));
        // The OFFSET of PLACE 21 is 61, of PLACE 22 64; two NOPS make it 63 for PLACE 23.
        DUE.is("change(21)", x.change(21, 0, 0, 0), true);
        DUE.is("change(22)", x.change(22, 0, 0, 0), true);
        DUE.write(x, i(18));
        DUE.is("OFFSET 63", x.code(23, 3), 63);
        check(x, MapForge.NONE, 127, 7, 0, 0);
        check(x, MapForge.NONE, 247, 0, 63, 7, 0, 0);
        DUE.edge("each first byte that is one, with what belongs to it");
        sound(1, 5);
        sound(1, 64 + 5, 1);
        sound(1, 247, 0, 5, 1);
        sound(1, 251, 0, 5);
        sound(1, 252, 0, 5, 1);
        sound(1, 253, 0, 5, 1, 2);
        sound(1, 254, 0, 5, 1, 2, 5);
        sound(1, 255, 0, 5, 0, 1, 1, 0, 1, 1);
        sound(2, 254, 0, 0, 1, 2, 5, 250, 0, 0);
        sound(2, 254, 0, 0, 1, 2, 5, 249, 0, 0);
        sound(2, 254, 0, 0, 1, 2, 5, 248, 0, 0);
    }

    private static void types() {
        DUE.edge("TYPES 0 to 8");
        for (int type = 0; type < 7; type++) {
            sound(1, 64, type);
            sound(1, 247, 0, 0, type);
            sound(1, 252, 0, 0, type);
            sound(1, 255, 0, 0, 0, 1, type, 0, 1, type);
        }
        sound(1, 64, 8, 0, 0);
        DUE.edge("BROKEN: a TYPE above 8");
        for (int type : i(9, 10, 15, 16, 17, 23, 24, 127, 128, 255)) {
            broken(64, type);
            broken(64, type, 0, 0);
            broken(247, 0, 0, type, 0, 0);
            broken(252, 0, 0, type, 0, 0);
            broken(255, 0, 0, 0, 1, type, 0, 0, 0, 0);
            broken(255, 0, 0, 0, 0, 0, 1, type, 0, 0);
        }
        DUE.edge("OBJECT of a CLASS 0 to 7");
        for (int c = 0; c < 8; c++) {
            sound(1, 64, 7, 0, c);
            sound(1, 252, 0, 0, 7, 0, c);
        }
        DUE.edge("BROKEN: OBJECT of a CLASS above 7");
        for (int c : i(8, 9, 16, 128, 255)) {
            broken(64, 7, 0, c);
            broken(252, 0, 0, 7, 0, c);
            broken(255, 0, 0, 0, 0, 0, 1, 7, 0, c);
        }
        broken(64, 7, 1, 0);
        broken(64, 7, 128, 0);
        broken(64, 7, 255, 255);
        DUE.edge("RAW of any OFFSET");
        for (int high : i(0, 1, 127, 128, 255)) {
            sound(1, 64, 8, high, 255);
            sound(1, 252, 0, 0, 8, high, 8);
        }
    }

    private static void longLists() {
        DUE.edge("a list of 10 LOCALS");
        sound(1, 255, 0, 0, 0, 10, 0, 1, 2, 5, 6, 0, 1, 2, 5, 6, 0, 0);
        DUE.edge("BROKEN: a list longer than 10 LOCALS");
        broken(255, 0, 0, 0, 11, 0, 1, 2, 5, 6, 0, 1, 2, 5, 6, 0, 0, 0);
        broken(255, 0, 0, 0, 11, 0, 0, 0, 0, 0, 0, 0, 0, 0, 0, 0, 0, 0);
        broken(255, 0, 0, 1, 0, 0, 0);
        broken(255, 0, 0, 255, 255, 0, 0);
        DUE.edge("a list of 10 LOCALS, WIDE ones as two");
        sound(1, 255, 0, 0, 0, 5, 3, 4, 3, 4, 3, 0, 0);
        sound(1, 255, 0, 0, 0, 9, 1, 1, 1, 1, 1, 1, 1, 1, 4, 0, 0);
        DUE.edge("BROKEN: a list longer than 10 LOCALS, WIDE ones as two");
        broken(255, 0, 0, 0, 6, 3, 4, 3, 4, 3, 1, 0, 0);
        broken(255, 0, 0, 0, 6, 3, 4, 3, 4, 1, 3, 3, 0, 0);
        broken(255, 0, 0, 0, 10, 1, 1, 1, 1, 1, 1, 1, 1, 1, 4, 0, 0);
        DUE.edge("a list made 10 LOCALS long by 252 to 254");
        sound(2, 255, 0, 0, 0, 9, 1, 1, 1, 1, 1, 1, 1, 1, 1, 0, 0, 252, 0, 0, 1);
        sound(2, 255, 0, 0, 0, 4, 4, 4, 4, 4, 0, 0, 253, 0, 0, 1, 1);
        sound(2, 255, 0, 0, 0, 2, 4, 4, 0, 0, 254, 0, 0, 3, 3, 3);
        DUE.edge("BROKEN: a list made longer than 10 LOCALS by 252 to 254");
        broken(255, 0, 0, 0, 10, 1, 1, 1, 1, 1, 1, 1, 1, 1, 1, 0, 0, 252, 0, 0, 1);
        broken(255, 0, 0, 0, 9, 1, 1, 1, 1, 1, 1, 1, 1, 1, 0, 0, 252, 0, 0, 3);
        broken(255, 0, 0, 0, 9, 1, 1, 1, 1, 1, 1, 1, 1, 1, 0, 0, 253, 0, 0, 1, 1);
        broken(255, 0, 0, 0, 4, 4, 4, 4, 4, 0, 0, 254, 0, 0, 1, 1, 1);
        DUE.edge("the list of the FIRST FRAME counts for this");
        MapForge x = DUE.method(0, 1, false, i(0), i(18));
        for (int k = 0; k < 4; k++) {
            x.argument(4);
        }
        check(x, MapForge.BROKEN, 253, 0, 1, 1, 1);
        check(x, MapForge.BROKEN, 252, 0, 1, 4);
        check(x, 1, 252, 0, 1, 1);
    }

    private static void shortLists() {
        DUE.edge("a list shortened to none");
        sound(2, 252, 0, 0, 1, 250, 0, 0);
        sound(2, 253, 0, 0, 1, 4, 249, 0, 0);
        sound(2, 254, 0, 0, 1, 4, 1, 248, 0, 0);
        DUE.edge("BROKEN: a list shortened below none");
        broken(250, 0, 0);
        broken(249, 0, 0);
        broken(248, 0, 0);
        broken(252, 0, 0, 1, 249, 0, 0);
        broken(253, 0, 0, 4, 4, 248, 0, 0);
        broken(254, 0, 0, 1, 1, 1, 248, 0, 0, 250, 0, 0);
        DUE.edge("the list of the FIRST FRAME is shortened, a WIDE one as one");
        MapForge x = code(i(0), i(0), i(18));
        x.argument(4);
        check(x, MapForge.NONE, 250, 0, 1);
        check(x, MapForge.BROKEN, 249, 0, 1);
        check(x, MapForge.BROKEN, 250, 0, 1, 250, 0, 0);
        DUE.edge("a row of other bytes begins with the whole list before");
        sound(3, 252, 0, 0, 1, 64, 1, 250, 0, 0);
        sound(3, 252, 0, 0, 1, 251, 0, 0, 250, 0, 0);
    }

    private static void slots() {
        DUE.edge("8 SLOTS in rows that are read once more");
        MapForge x = DUE.sixPlaces();
        DUE.lay(x, 255, 0, 0, 0, 0, 0, 4, 3, 4, 3, 4, 255, 0, 0, 0, 0, 0, 4, 3, 4, 3, 4);
        for (int turn = 0; turn < 3; turn++) {
            DUE.is("count(4)", x.count(4), 2);
            DUE.is("row(1, 13)", x.row(1, 13), 4);
            DUE.is("patch(0, 255)", x.patch(0, 255), true);
        }
        DUE.edge("8 SLOTS on the STACK");
        sound(1, 255, 0, 0, 0, 0, 0, 8, 0, 1, 2, 5, 6, 1, 1, 1);
        sound(1, 255, 0, 0, 0, 0, 0, 4, 3, 4, 3, 4);
        sound(1, 255, 0, 0, 0, 0, 0, 7, 1, 1, 1, 1, 1, 1, 3);
        DUE.edge("BROKEN: more than 8 SLOTS on the STACK");
        broken(255, 0, 0, 0, 0, 0, 9, 0, 1, 2, 5, 6, 1, 1, 1, 1);
        broken(255, 0, 0, 0, 0, 0, 9, 0, 0, 0, 0, 0, 0, 0, 0, 0);
        broken(255, 0, 0, 0, 0, 1, 0);
        broken(255, 0, 0, 0, 0, 255, 255);
        DUE.edge("BROKEN: more than 8 SLOTS on the STACK, WIDE ones as two");
        broken(255, 0, 0, 0, 0, 0, 5, 3, 4, 3, 4, 1);
        broken(255, 0, 0, 0, 0, 0, 5, 3, 4, 3, 1, 4);
        broken(255, 0, 0, 0, 0, 0, 8, 1, 1, 1, 1, 1, 1, 1, 3);
    }

    /** The whole is rows; cut anywhere but behind the first row it is none. */
    private static void cutAnywhere(int... row) {
        sound(1, row);
        for (int n = 1; n < row.length; n++) {
            broken(Arrays.copyOf(row, n));
        }
    }

    private static MapForge fiftyPlaces() {
        MapForge x = new MapForge();
        for (int k = 0; k < 49; k++) {
            x.add(0, 0, 0);
        }
        x.add(18, 0, 0);
        return x;
    }

    /** How many bytes the MAP has with these behind the others. */
    private static int append(MapForge x, int size, int[] bytes) {
        for (int k = 0; k < bytes.length; k++) {
            x.patch(size + k, bytes[k]);
        }
        return size + bytes.length;
    }

    private static void missingBytes() {
        DUE.edge("no bytes are no rows to be BROKEN");
        sound(0);
        DUE.edge("BROKEN: bytes are missing, of a TYPE on the STACK");
        cutAnywhere(64, 1);
        cutAnywhere(64, 7, 0, 5);
        cutAnywhere(64, 8, 0, 0);
        DUE.edge("BROKEN: bytes are missing behind 247");
        cutAnywhere(247, 0, 2, 8, 0, 5);
        DUE.edge("BROKEN: bytes are missing of a DELTA in two bytes");
        cutAnywhere(251, 0, 3);
        broken(252, 0, 0, 1, 250);
        broken(252, 0, 0, 1, 250, 0);
        broken(253, 0, 0, 1, 1, 249, 0);
        broken(254, 0, 0, 1, 1, 1, 248, 0);
        DUE.edge("BROKEN: bytes are missing of 1 to 3 more LOCALS");
        cutAnywhere(252, 0, 0, 7, 0, 1);
        cutAnywhere(253, 0, 0, 1, 1);
        cutAnywhere(254, 0, 0, 1, 8, 0, 1, 2);
        DUE.edge("BROKEN: bytes are missing behind 255");
        cutAnywhere(255, 0, 5, 0, 0, 0, 0);
        cutAnywhere(255, 0, 5, 0, 2, 7, 0, 1, 4, 0, 2, 1, 7, 0, 2);
        DUE.edge("BROKEN: bytes are missing behind 400");
        MapForge x = fiftyPlaces();
        int size = 0;
        for (int row = 0; row < 30; row++) {
            size = append(x, size, row < 26 ? i(255, 0, 0, 0, 2, 7, 0, 1, 7, 0, 1, 0, 2, 1, 1) : i(64, 1));
        }
        DUE.is("count(4)", x.count(4), 30);
        size = append(x, size, i(251, 0));
        DUE.is("map(-1)", x.map(-1), 400);
        DUE.is("check()", x.check(), MapForge.BROKEN);
        DUE.is("count(4)", x.count(4), MapForge.BROKEN);
        DUE.edge("BROKEN: bytes are missing of a later row");
        broken(0, 0, 64);
        broken(5, 64);
    }

    private static void offsets() {
        DUE.edge("the OFFSETS of the first and the last PLACE");
        sound(1, 0);
        sound(1, 5);
        sound(1, 251, 0, 0);
        sound(1, 251, 0, 5);
        DUE.edge("BROKEN: the OFFSET just behind the CODE");
        broken(6);
        broken(64 + 6, 1);
        broken(251, 0, 6);
        broken(5, 0);
        DUE.edge("BROKEN: an OFFSET far behind the CODE");
        broken(63);
        broken(127, 1);
        broken(251, 1, 0);
        broken(251, 1, 5);
        broken(251, 255, 255);
        broken(0, 251, 255, 255);
        broken(0, 251, 255, 254);
        DUE.edge("BROKEN: an OFFSET inside of an INSTRUCTION");
        MapForge x = code(i(21, 0), i(39, 0), i(18));
        for (int offset = 0; offset < 8; offset++) {
            DUE.lay(x, offset);
            boolean place = offset == 0 || offset == 2 || offset == 5;
            DUE.is("OFFSET " + offset, x.count(4), place ? 1 : MapForge.BROKEN);
            DUE.is("OFFSET " + offset, x.check() == MapForge.BROKEN, !place);
        }
    }

    private static void rise() {
        DUE.edge("rows rise: DELTA 0 is the OFFSET behind that of the row before");
        MapForge x = DUE.sixPlaces();
        check(x, MapForge.NONE, 0, 0, 0, 0, 0, 0);
        for (int k = 0; k < 6; k++) {
            DUE.is("row(" + k + ", 21)", x.row(k, 21), k);
        }
        DUE.edge("more rows than PLACES can not rise");
        broken(0, 0, 0, 0, 0, 0, 0);
        MapForge y = fiftyPlaces();
        for (int k = 0; k < 51; k++) {
            y.patch(k, 0);
            DUE.is("check() with " + (k + 1) + " rows", y.check(), k < 50 ? MapForge.NONE : MapForge.BROKEN);
        }
    }

    private static void badRows() {
        DUE.edge("BAD: the FRAME does not FIT a row of the PLACE");
        MapForge x = code(i(1), i(0), i(18));
        check(x, MapForge.NONE, 64 + 1, 1);
        check(x, 1, 64 + 1, 2);
        check(x, 1, 1);
        check(x, 2, 2);
        DUE.edge("8 TYPES on the STACK FIT, or the last of them does not");
        MapForge w = code(i(1), i(1), i(1), i(1), i(1), i(1), i(1), i(1), i(0), i(18));
        check(w, MapForge.NONE, 255, 0, 8, 0, 0, 0, 8, 1, 1, 1, 1, 1, 1, 1, 1);
        check(w, 8, 255, 0, 8, 0, 0, 0, 8, 1, 1, 1, 1, 1, 1, 1, 2);
        check(w, 8, 255, 0, 8, 0, 0, 0, 7, 1, 1, 1, 1, 1, 1, 1);
        DUE.edge("what was above on the STACK before counts no more");
        check(code(i(1), i(2), i(6), i(0), i(18)), MapForge.NONE, 64 + 3, 1);
        DUE.edge("LOCAL 9 FITS, or does not");
        MapForge v = code(i(1), i(26, 9), i(0), i(18));
        check(v, MapForge.NONE, 255, 0, 3, 0, 10, 0, 0, 0, 0, 0, 0, 0, 0, 0, 1, 0, 0);
        check(v, 2, 255, 0, 3, 0, 10, 0, 0, 0, 0, 0, 0, 0, 0, 0, 2, 0, 0);
        DUE.edge("BAD 0: the FIRST FRAME does not FIT a row of PLACE 0");
        check(x, 0, 252, 0, 0, 1);
        check(x, 0, 64, 1);
        check(x, MapForge.NONE, 0);
        DUE.edge("the FRAME of the row holds from there on");
        MapForge y = code(i(0), i(21, 0), i(18));
        y.argument(1);
        check(y, MapForge.NONE, 1);
        check(y, 1, 250, 0, 1);
        DUE.edge("where one may not come from before, any row holds");
        MapForge z = code(i(18), i(13), i(18));
        check(z, MapForge.NONE, 255, 0, 1, 0, 0, 0, 2, 3, 3);
        DUE.edge("BAD: one may not come from before, and there is no row");
        check(z, 1);
        check(code(i(31, 2), i(18), i(18)), 1, 4);
        check(code(i(5), i(20), i(18)), 2);
        check(DUE.method(0, 0, true, i(1), i(19), i(31, 2)), 2);
    }

    private static void badInstructions() {
        DUE.edge("BAD: an INSTRUCTION does not have what it takes");
        check(code(i(0), i(6), i(18)), 1);
        check(code(i(1), i(26, 0), i(23, 0), i(18)), 2);
        check(DUE.method(0, 0, true, i(0), i(18)), 1);
        DUE.edge("8 SLOTS are not too many");
        check(code(i(3), i(3), i(3), i(3), i(18)), MapForge.NONE);
        DUE.edge("BAD: too many SLOTS");
        check(code(i(3), i(3), i(3), i(3), i(1), i(18)), 4);
        check(code(i(3), i(3), i(3), i(1), i(3), i(18)), 4);
        check(code(i(3), i(3), i(3), i(1), i(1), i(14), i(18)), 5);
        DUE.edge("BAD: TOP on the STACK by a row is nothing that an INSTRUCTION takes");
        for (int op : i(6, 7, 8, 20, 30, 32, 33, 36, 37, 38, 39)) {
            check(code(i(1), i(op, 0), i(18)), 1, 64 + 1, 0);
        }
    }

    private static void badWays() {
        DUE.edge("BAD: b has no row of its OFFSET");
        for (int op = 32; op <= 34; op++) {
            MapForge x = code(i(op == 32 ? 1 : 5), i(op == 34 ? 5 : 0), i(op, 3), i(18));
            check(x, 2);
            check(x, MapForge.NONE, 5);
        }
        check(code(i(31, 0)), 0);
        check(code(i(31, 0)), MapForge.NONE, 0);
        DUE.edge("BAD: b is behind the CODE");
        check(code(i(1), i(32, 3), i(18)), 1);
        check(code(i(1), i(32, 49), i(18)), 1, 4);
        DUE.edge("BAD: the FRAME behind the INSTRUCTION does not FIT the row of b");
        MapForge y = code(i(1), i(1), i(32, 4), i(18), i(18));
        check(y, MapForge.NONE, 64 + 6, 1);
        check(y, 2, 6);
        check(y, 2, 64 + 6, 2);
        check(y, 2, 255, 0, 6, 0, 0, 0, 2, 1, 1);
        DUE.edge("BAD: the PLACE behind the last INSTRUCTION, if one may go on there");
        check(code(i(0)), 1);
        check(code(i(1), i(32, 0)), 2, 0);
        MapForge z = new MapForge();
        for (int k = 0; k < 50; k++) {
            z.add(0, 0, 0);
        }
        check(z, 50);
        DUE.edge("behind a last INSTRUCTION of 18 to 20 and 31 one may not go on");
        check(code(i(18)), MapForge.NONE);
        check(DUE.method(0, 0, true, i(1), i(19)), MapForge.NONE);
        check(code(i(5), i(20)), MapForge.NONE);
        check(code(i(31, 0)), MapForge.NONE, 0);
    }

    private static void badHandlers() {
        // OFFSETS: 0, 1, 3, 4, 5, 6.
        DUE.edge("BAD: at of a HANDLER that has this PLACE has no row");
        MapForge x = code(i(1), i(26, 0), i(0), i(18), i(6), i(18));
        x.handle(1, 3, 4, 5);
        check(x, 1);
        check(x, 1, 64 + 6, 7, 0, 5);
        check(x, MapForge.NONE, 64 + 5, 7, 0, 5);
        DUE.edge("BAD: the row of at does not have OBJECT c alone on the STACK");
        check(x, MapForge.NONE, 64 + 5, 7, 0, 0);
        check(x, 1, 64 + 5, 7, 0, 4);
        check(x, 1, 5);
        check(x, 1, 255, 0, 5, 0, 0, 0, 2, 7, 0, 5, 7, 0, 5);
        DUE.edge("BAD: the LOCALS before the INSTRUCTION do not FIT the row of at");
        check(x, 1, 255, 0, 5, 0, 1, 1, 0, 1, 7, 0, 5);
        DUE.edge("a HANDLER has PLACE from, and not PLACE to");
        for (int from = 0; from < 4; from++) {
            for (int to = from + 1; to <= 4; to++) {
                MapForge y = code(i(0), i(0), i(0), i(18));
                y.handle(from, to, 49, 0);
                check(y, from);
                MapForge z = code(i(1), i(26, 0), i(1), i(31, 5), i(0), i(18));
                z.handle(from, to, 4, 0);
                // LOCAL 0 is INT from PLACE 2 on; the row of PLACE 4 asks for it.
                check(z, from < 2 ? from : MapForge.NONE, 255, 0, 7, 0, 1, 1, 0, 1, 7, 0, 0, 255, 0, 0, 0, 0, 0, 1, 0);
            }
        }
        DUE.edge("a HANDLER that has no PLACE of the CODE is not looked at");
        MapForge w = code(i(0), i(18));
        w.handle(2, 50, 49, 0);
        check(w, MapForge.NONE);
    }

    private static void badThis() {
        DUE.edge("BAD: THIS IS RAW, but in the row it is not");
        MapForge x = DUE.method(3, 2, false, i(0), i(25, 0), i(36, 3), i(18));
        check(x, MapForge.NONE, 1);
        check(x, 1, 250, 0, 1);
        DUE.edge("BAD: THIS IS not RAW, but in the row it is");
        check(x, 3, 6);
        check(x, MapForge.NONE, 255, 0, 6, 0, 1, 7, 0, 3, 0, 0);
        DUE.edge("in a row THIS IS RAW only by a LOCAL, not by the STACK");
        MapForge y = DUE.method(3, 2, false, i(25, 0), i(0), i(5), i(20));
        check(y, MapForge.NONE, 64 + 2, 6);
        check(y, 1, 255, 0, 2, 0, 0, 0, 1, 6);
        DUE.edge("BAD: RETURN in a CONSTRUCTOR where THIS IS RAW");
        check(DUE.method(3, 2, false, i(18)), 0);
        MapForge z = DUE.method(3, 2, false, i(5), i(20), i(18));
        check(z, 2, 2);
        check(z, MapForge.NONE, 250, 0, 2);
    }

    private static void least() {
        DUE.edge("the least PLACE that is BAD, as it goes");
        MapForge x = code(i(0), i(6), i(6), i(18));
        check(x, 1);
        x.change(0, 1, 0, 0);
        check(x, 2);
        x.change(2, 31, 0, 0);
        check(x, 2);
        x.change(0, 6, 0, 0);
        check(x, 0);
        DUE.edge("PLACE 0 is the least");
        check(code(i(6), i(6)), 0);
    }

    private static void changesNothing() {
        DUE.edge("it changes nothing");
        MapForge x = code(i(1), i(32, 3), i(18), i(18));
        DUE.lay(x, 5, 200);
        String before = Due.stateOf(x);
        DUE.is("check()", x.check(), MapForge.BROKEN);
        DUE.is("check()", x.check(), MapForge.BROKEN);
        DUE.same("all", Due.stateOf(x), before);
        DUE.map(x, 5, 200);
    }
}
