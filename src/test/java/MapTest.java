/** Promises 8, 11, 12, 13 and 14: the bytes of the MAP, written, changed and read. */
public final class MapTest {
    private static final Due DUE = new Due();

    public static void main(String[] args) {
        sameList();
        oneOnStack();
        shorterAndLonger();
        whole();
        full();
        patches();
        cuts();
        rows();
        rowsHangOnTheMethod();
        broken();
        DUE.end("MapTest");
    }

    private static int[] i(int... numbers) {
        return numbers;
    }

    /** A METHOD whose one row has this OFFSET (7 or more), with the TYPE of op on the STACK, or none for op 0. */
    private static MapForge far(int offset, int op) {
        int rest = offset - (op == 0 ? 6 : 7);
        int last = (op == 0 ? 4 : 5) + rest / 3 + rest % 3;
        MapForge x = new MapForge();
        if (op != 0) {
            DUE.write(x, i(op));
        }
        DUE.write(x, i(1), i(32, last), i(5));
        for (int k = 0; k < rest / 3; k++) {
            DUE.write(x, i(39, 0));
        }
        DUE.write(x, i(6));
        for (int k = 0; k < rest % 3; k++) {
            DUE.write(x, i(0));
        }
        DUE.write(x, i(18));
        DUE.is("OFFSET of the last", x.code(last, 3), offset);
        return x;
    }

    private static void sameList() {
        MapForge x = DUE.method(0, 0, false, i(31, 0));
        DUE.is("a row at OFFSET 0", x.make(), 1);
        DUE.map(x, 0);
        MapForge y = DUE.method(0, 0, false, i(31, 1), i(31, 2), i(18));
        DUE.is("rows by OFFSET", y.make(), 2);
        DUE.map(y, 3, 2);
        DUE.is("the second's OFFSET", y.row(1, 21), 6);
        MapForge z = far(63, 0);
        DUE.is("DELTA 63", z.make(), 1);
        DUE.map(z, 63);
        z = far(64, 0);
        DUE.is("DELTA 64", z.make(), 1);
        DUE.map(z, 251, 0, 64);
        DUE.is("its OFFSET", z.row(0, 21), 64);
        DUE.is("its first byte", z.row(0, 22), 251);
        DUE.is("check", z.check(), MapForge.NONE);
    }

    private static void oneOnStack() {
        MapForge x = far(63, 1);
        DUE.is("DELTA 63, INT", x.make(), 1);
        DUE.map(x, 127, 1);
        x = far(64, 3);
        DUE.is("DELTA 64, DOUBLE", x.make(), 1);
        DUE.map(x, 247, 0, 64, 3);
        DUE.is("how many", x.row(0, 20), 1);
        DUE.is("DOUBLE", x.row(0, 10), 3);
        DUE.is("check", x.check(), MapForge.NONE);
        x = DUE.method(0, 0, false, i(35, 6), i(31, 2), i(36, 6), i(18));
        DUE.is("a RAW", x.make(), 1);
        DUE.map(x, 64 + 6, 8, 0, 0);
        x = DUE.method(0, 0, false, i(0), i(0), i(35, 6), i(31, 4), i(36, 6), i(18));
        DUE.is("a RAW of 2", x.make(), 1);
        DUE.map(x, 64 + 8, 8, 0, 2);
        DUE.is("its TYPE", x.row(0, 10), 16 * 2 + 8);
        x = DUE.method(0, 0, false, i(5), i(39, 5), i(31, 3), i(18));
        DUE.is("an OBJECT", x.make(), 1);
        DUE.map(x, 64 + 7, 7, 0, 5);
        x = DUE.method(0, 0, false, i(5), i(31, 2), i(18));
        DUE.is("a NULL", x.make(), 1);
        DUE.map(x, 64 + 4, 5);
        x = DUE.method(2, 2, false, i(25, 0), i(31, 2), i(36, 2), i(18));
        DUE.is("RAW THIS", x.make(), 1);
        DUE.map(x, 64 + 5, 6);
        DUE.is("check", x.check(), MapForge.NONE);
    }

    /** Four LOCALS come, one by one and by two, and go at a row of a loop. */
    private static void shorterAndLonger() {
        for (int more = 1; more <= 4; more++) {
            MapForge x = new MapForge();
            x.argument(2);
            for (int k = 0; k < more; k++) {
                DUE.write(x, i(k == 1 ? 4 : 1), i(k == 1 ? 27 : 26, k < 2 ? 1 + k : 2 + k));
            }
            int at = 2 * more;
            // Row at at + 1 with more LOCALS; then one to which PLACE at + 2 comes, and the HANDLER from PLACE 0.
            DUE.write(x, i(31, at + 1), i(1), i(32, at + 4), i(18), i(18));
            DUE.is("rows", x.make(), 2);
            int delta = 3 * more + 3;
            if (more == 1) {
                DUE.map(x, 252, 0, delta, 1, 4);
            } else if (more == 2) {
                DUE.map(x, 253, 0, delta, 1, 4, 4);
            } else if (more == 3) {
                DUE.map(x, 254, 0, delta, 1, 4, 1, 4);
            } else {
                DUE.map(x, 255, 0, delta, 0, 5, 2, 1, 4, 1, 1, 0, 0, 4);
            }
            DUE.is("check", x.check(), MapForge.NONE);
        }
        for (int less = 1; less <= 4; less++) {
            MapForge x = new MapForge();
            for (int k = 0; k < 4; k++) {
                x.argument(k == 2 ? 3 : 1);
            }
            // STORE of NULL makes a LOCAL TOP where it comes together with INT.
            int[] place = {4, 2, 1, 0};
            DUE.write(x, i(1), i(32, 2 * less + 2));
            for (int k = 0; k < less; k++) {
                DUE.write(x, i(5), i(30, place[k]));
            }
            DUE.write(x, i(18));
            DUE.is("rows", x.make(), 1);
            int delta = 4 + 3 * less;
            if (less < 4) {
                DUE.map(x, 251 - less, 0, delta);
            } else {
                DUE.map(x, 255, 0, delta, 0, 0, 0, 0);
            }
            DUE.is("check", x.check(), MapForge.NONE);
            DUE.is("LOCAL 0", x.row(0, 0), less < 4 ? 1 : 0);
            DUE.is("LOCAL 1", x.row(0, 1), less < 3 ? 1 : 0);
            DUE.is("LOCAL 2", x.row(0, 2), less < 2 ? 3 : 0);
            DUE.is("LOCAL 4", x.row(0, 4), 0);
        }
        // Longer over a TOP that has to be told: it counts as one of the 1 to 3.
        MapForge x = DUE.method(0, 0, false, i(1), i(26, 2), i(31, 3), i(18));
        DUE.is("rows", x.make(), 1);
        DUE.map(x, 254, 0, 6, 0, 0, 1);
        x = DUE.method(0, 0, false, i(1), i(26, 3), i(31, 3), i(18));
        DUE.is("rows", x.make(), 1);
        DUE.map(x, 255, 0, 6, 0, 4, 0, 0, 0, 1, 0, 0);
    }

    private static void whole() {
        MapForge x = DUE.method(4, 1, false, i(3), i(5), i(35, 7), i(31, 4), i(0), i(18));
        DUE.is("two and more on the STACK", x.make(), 1);
        DUE.map(x, 255, 0, 8, 0, 1, 7, 0, 4, 0, 3, 3, 5, 8, 0, 2);
        x = DUE.method(4, 1, false, i(1), i(26, 1), i(5), i(31, 4), i(0), i(18));
        DUE.is("more LOCALS and one on the STACK", x.make(), 1);
        DUE.map(x, 255, 0, 7, 0, 2, 7, 0, 4, 1, 0, 1, 5);
        x = DUE.method(4, 1, false, i(1), i(26, 0), i(31, 3), i(18));
        DUE.is("another LOCAL", x.make(), 1);
        DUE.map(x, 255, 0, 6, 0, 1, 1, 0, 0);
        DUE.is("check", x.check(), MapForge.NONE);
        x = DUE.method(4, 1, false, i(1), i(26, 0), i(18));
        DUE.is("no rows", x.make(), 0);
        DUE.is("no bytes", x.map(-1), 0);
    }

    /** 9 rows of 44 bytes (10 OBJECTS in LOCALS, 7 NULLS on the STACK), then so many of 1 byte. */
    private static MapForge large(int small) {
        MapForge x = new MapForge();
        x.argument(7);
        for (int k = 1; k < 10; k++) {
            DUE.write(x, i(25, 0), i(30, k));
        }
        for (int k = 0; k < 7; k++) {
            DUE.write(x, i(5));
        }
        for (int k = 0; k < 9; k++) {
            DUE.write(x, i(31, x.count(0) + 1));
        }
        for (int k = 0; k < 7; k++) {
            DUE.write(x, i(6));
        }
        for (int k = 0; k < small; k++) {
            DUE.write(x, i(31, x.count(0) + 1));
        }
        DUE.write(x, i(18));
        return x;
    }

    private static void full() {
        MapForge x = large(4);
        DUE.is("rows of 400 bytes", x.make(), 13);
        DUE.is("400 bytes", x.map(-1), 400);
        DUE.is("check", x.check(), MapForge.NONE);
        DUE.is("patch behind 400", x.patch(400, 0), false);
        DUE.is("patch behind 401", x.patch(401, 0), false);
        DUE.is("patch in 400", x.patch(399, 2), true);
        DUE.is("still 400", x.map(-1), 400);
        MapForge y = large(5);
        DUE.lay(y, 1, 2, 3);
        DUE.is("401 bytes", y.make(), MapForge.FULL);
        DUE.map(y, 1, 2, 3);
        DUE.is("change", y.change(y.count(0) - 1, 6, 0, 0), true);
        DUE.is("401 bytes and WRONG", y.make(), MapForge.WRONG);
        DUE.map(y, 1, 2, 3);
        MapForge z = DUE.method(0, 0, false, i(31, 1), i(18));
        DUE.lay(z, 9, 9, 9);
        DUE.is("made over more bytes", z.make(), 1);
        DUE.map(z, 3);
    }

    private static void patches() {
        MapForge x = new MapForge();
        DUE.is("patch(1, 0), empty", x.patch(1, 0), false);
        DUE.is("patch(-1, 0)", x.patch(-1, 0), false);
        DUE.is("patch(0, -1)", x.patch(0, -1), false);
        DUE.is("patch(0, 256)", x.patch(0, 256), false);
        DUE.is("nothing is there", x.map(-1), 0);
        DUE.is("patch(0, 255)", x.patch(0, 255), true);
        DUE.is("patch(1, 0)", x.patch(1, 0), true);
        DUE.map(x, 255, 0);
        DUE.is("patch(0, 7)", x.patch(0, 7), true);
        DUE.map(x, 7, 0);
        DUE.is("map(2)", x.map(2), MapForge.NONE);
        DUE.is("map(-2)", x.map(-2), MapForge.NONE);
        for (int k = 2; k < 400; k++) {
            DUE.is("patch(" + k + ")", x.patch(k, k & 255), true);
        }
        DUE.is("patch(400)", x.patch(400, 1), false);
        DUE.is("map(399)", x.map(399), 399 & 255);
        DUE.is("map(400)", x.map(400), MapForge.NONE);
        DUE.is("400 bytes", x.map(-1), 400);
        DUE.is("patch(0, 9) of 400", x.patch(0, 9), true);
        DUE.is("map(0)", x.map(0), 9);
    }

    private static void cuts() {
        MapForge x = new MapForge();
        DUE.is("cut(0), empty", x.cut(0), 0);
        DUE.is("cut(1), empty", x.cut(1), MapForge.REFUSED);
        DUE.lay(x, 1, 2, 3, 4);
        DUE.is("cut(-1)", x.cut(-1), MapForge.REFUSED);
        DUE.is("cut(5)", x.cut(5), MapForge.REFUSED);
        DUE.is("cut(4)", x.cut(4), 0);
        DUE.is("cut(1)", x.cut(1), 3);
        DUE.map(x, 1);
        DUE.is("map(1)", x.map(1), MapForge.NONE);
        DUE.is("patch(2), behind", x.patch(2, 9), false);
        DUE.is("patch(1)", x.patch(1, 9), true);
        DUE.map(x, 1, 9);
        DUE.is("cut(0)", x.cut(0), 2);
    }

    private static void rows() {
        MapForge x = sixNops();
        DUE.lay(x, 255, 0, 0, 0, 3, 3, 0, 7, 0, 6, 0, 2, 8, 255, 254, 4, 250, 0, 0, 64, 6);
        DUE.is("count(4)", x.count(4), 3);
        int[] whole = {3, 0, 0, 103, 0, 0, 0, 0, 0, 0, 16 * 65534 + 8, 4, -2, -2, -2, -2, -2, -2, -1, -1, 2, 0, 255};
        int[] shorter = {3, 0, 0, 0, 0, 0, 0, 0, 0, 0, -2, -2, -2, -2, -2, -2, -2, -2, -1, -1, 0, 1, 250};
        int[] one = {3, 0, 0, 0, 0, 0, 0, 0, 0, 0, 6, -2, -2, -2, -2, -2, -2, -2, -1, -1, 1, 2, 64};
        for (int what = 0; what < 23; what++) {
            DUE.is("row(0, " + what + ")", x.row(0, what), whole[what]);
            DUE.is("row(1, " + what + ")", x.row(1, what), shorter[what]);
            DUE.is("row(2, " + what + ")", x.row(2, what), one[what]);
            DUE.is("row(3, " + what + ")", x.row(3, what), one[what] == -1 ? -1 : MapForge.NONE);
            DUE.is("row(-1, " + what + ")", x.row(-1, what), one[what] == -1 ? -1 : MapForge.NONE);
        }
        DUE.is("row(0, -1)", x.row(0, -1), MapForge.REFUSED);
        DUE.is("row(0, 23)", x.row(0, 23), MapForge.REFUSED);
        // Told TOPS at the end are in the list: shortening takes them first.
        DUE.lay(x, 255, 0, 0, 0, 3, 1, 1, 0, 0, 0, 250, 0, 0, 249, 0, 0);
        DUE.is("LOCAL 1 with the TOP away", x.row(1, 1), 1);
        DUE.is("LOCAL 1 with one more away", x.row(2, 1), 0);
        DUE.is("LOCAL 0 with both away", x.row(2, 0), 0);
    }

    /** Places 0 to 5 have the OFFSETS 0 to 5. */
    private static MapForge sixNops() {
        return DUE.method(0, 0, false, i(0), i(0), i(0), i(0), i(0), i(18));
    }

    private static void rowsHangOnTheMethod() {
        MapForge x = sixNops();
        DUE.lay(x, 2);
        DUE.is("no LOCAL", x.row(0, 0), 0);
        x.argument(4);
        DUE.is("the list of the FIRST FRAME", x.row(0, 0), 4);
        x.change(1, 21, 0, 0);
        DUE.is("no PLACE at OFFSET 2", x.row(0, 0), MapForge.NONE);
        DUE.is("BROKEN", x.count(4), MapForge.BROKEN);
        x.change(0, 21, 0, 0);
        DUE.is("a PLACE once more", x.count(4), 1);
        x.method(5, 2, false);
        DUE.write(x, i(0), i(0), i(0));
        DUE.is("RAW THIS", x.row(0, 0), 6);
        DUE.is("count(4)", x.count(4), 1);
        DUE.lay(x, 3);
        DUE.is("behind the last", x.count(4), MapForge.BROKEN);
        x.add(0, 0, 0);
        DUE.is("one more", x.count(4), 1);
    }

    private static void brokenAre(String what, boolean want, int... bytes) {
        MapForge x = sixNops();
        DUE.lay(x, bytes);
        DUE.is(what + ": count(4)", x.count(4) == MapForge.BROKEN, want);
        DUE.is(what + ": check()", x.check() == MapForge.BROKEN, want);
        DUE.is(what + ": row(0, 21)", x.row(0, 21), want ? MapForge.NONE : x.row(0, 21));
        DUE.is(what + ": row(0, 18)", x.row(0, 18), MapForge.REFUSED);
    }

    private static void broken() {
        brokenAre("no bytes", false);
        for (int head = 6; head < 255; head++) {
            boolean one = head >= 64 && head < 64 + 6;
            brokenAre("first byte " + head, !one, head, 1);
        }
        for (int first : i(247, 248, 249, 250, 252, 253, 254, 255)) {
            brokenAre("alone " + first, true, first);
            brokenAre("half a DELTA " + first, true, first, 0);
        }
        brokenAre("64 alone", true, 64);
        brokenAre("251", false, 251, 0, 5);
        brokenAre("251 without PLACE", true, 251, 0, 6);
        brokenAre("251 with high DELTA", true, 251, 1, 0);
        brokenAre("a second row", false, 0, 4);
        brokenAre("a second row without PLACE", true, 0, 5);
        brokenAre("six rows", false, 0, 0, 0, 0, 0, 0);
        brokenAre("seven rows", true, 0, 0, 0, 0, 0, 0, 0);
        for (int type = 0; type < 7; type++) {
            brokenAre("TYPE " + type, false, 64, type);
            brokenAre("TYPE " + type + " by 247", false, 247, 0, 0, type);
        }
        brokenAre("TYPE 9", true, 64, 9);
        brokenAre("TYPE 9 and more", true, 64, 9, 0, 0);
        brokenAre("TYPE 255", true, 252, 0, 0, 255);
        brokenAre("OBJECT 7", false, 64, 7, 0, 7);
        brokenAre("OBJECT 8", true, 64, 7, 0, 8);
        brokenAre("OBJECT 256", true, 64, 7, 1, 0);
        brokenAre("half an OBJECT", true, 64, 7, 0);
        brokenAre("RAW of any OFFSET", false, 64, 8, 255, 255);
        brokenAre("half a RAW", true, 64, 8, 0);
        brokenAre("shortened below none", true, 250, 0, 0);
        brokenAre("longer, then shortened", false, 253, 0, 0, 3, 4, 249, 0, 0);
        brokenAre("shortened by too many", true, 253, 0, 0, 3, 4, 248, 0, 0);
        brokenAre("longer by too few bytes", true, 254, 0, 0, 1, 1);
        brokenAre("10 LOCALS", false, 255, 0, 0, 0, 10, 0, 1, 2, 5, 6, 0, 1, 2, 5, 6, 0, 0);
        brokenAre("11 LOCALS", true, 255, 0, 0, 0, 11, 0, 1, 2, 5, 6, 0, 1, 2, 5, 6, 0, 0, 0);
        brokenAre("5 WIDE ones", false, 255, 0, 0, 0, 5, 3, 4, 3, 4, 3, 0, 0);
        brokenAre("5 WIDE ones and 1", true, 255, 0, 0, 0, 6, 3, 4, 3, 4, 3, 1, 0, 0);
        brokenAre("9 and a WIDE one", true, 255, 0, 0, 0, 6, 3, 4, 3, 4, 1, 3, 0, 0);
        brokenAre("256 LOCALS", true, 255, 0, 0, 1, 0, 0, 0);
        brokenAre("longer than 10", true, 255, 0, 0, 0, 5, 3, 4, 3, 4, 3, 0, 0, 252, 0, 0, 1);
        brokenAre("8 SLOTS", false, 255, 0, 0, 0, 0, 0, 4, 3, 4, 3, 4);
        brokenAre("9 SLOTS", true, 255, 0, 0, 0, 0, 0, 5, 3, 4, 3, 4, 1);
        brokenAre("7 SLOTS and a WIDE one", true, 255, 0, 0, 0, 0, 0, 5, 3, 4, 3, 1, 4);
        brokenAre("9 TOPS", true, 255, 0, 0, 0, 0, 0, 9, 0, 0, 0, 0, 0, 0, 0, 0, 0);
        brokenAre("256 TYPES", true, 255, 0, 0, 0, 0, 1, 0);
        brokenAre("no number of LOCALS", true, 255, 0, 0);
        brokenAre("half a number of LOCALS", true, 255, 0, 0, 0);
        brokenAre("no number of TYPES", true, 255, 0, 0, 0, 0);
        brokenAre("half a number of TYPES", true, 255, 0, 0, 0, 0, 0);
        brokenAre("nothing in it", false, 255, 0, 0, 0, 0, 0, 0);
    }
}
