/** Promise 10: THE CHECK goes by the bytes alone. */
public final class CheckTest {
    private static final Due DUE = new Due("promise 10, THE CHECK");

    public static void main(String[] args) {
        ways();
        rowHolds();
        fits();
        handlers();
        thisIsRaw();
        raws();
        answers();
        DUE.end("CheckTest");
    }

    private static int[] i(int... numbers) {
        return numbers;
    }

    private static void bad(String what, MapForge x, int want, int... bytes) {
        DUE.lay(x, bytes);
        DUE.is(what, x.check(), want);
    }

    private static void ways() {
        MapForge x = DUE.method(0, 0, false, i(1), i(32, 3), i(18), i(18));
        bad("b without a row", x, 1);
        bad("all is well", x, MapForge.NONE, 5);
        bad("a row at PLACE 0, too", x, MapForge.NONE, 0, 4);
        bad("a row at PLACE 2, too", x, MapForge.NONE, 4, 0);
        bad("a row at PLACE 1 with an INT", x, MapForge.NONE, 65, 1, 3);
        bad("a row at PLACE 1 without", x, 1, 1, 3);
        MapForge y = DUE.method(0, 0, false, i(31, 2), i(18), i(31, 1));
        bad("nothing comes to PLACE 1", y, 1, 4);
        bad("no rows at all", y, 0);
        bad("b = 1 without a row", y, 0, 3);
        bad("both rows", y, MapForge.NONE, 3, 0);
        MapForge z = DUE.method(0, 0, false, i(18), i(0));
        bad("nothing comes behind RETURN", z, 1);
        bad("behind the last", z, 2, 1);
        MapForge w = DUE.method(0, 0, false, i(0), i(0));
        bad("behind the last of two", w, 2);
        MapForge v = DUE.method(0, 0, false, i(1), i(32, 0));
        bad("behind the last, IF", v, 2, 0);
        MapForge u = DUE.method(0, 0, false, i(1), i(32, 9), i(18));
        bad("b is not there", u, 1);
        MapForge t = DUE.method(0, 0, false, i(31, 1), i(6), i(18));
        bad("nothing on the STACK for POP", t, 0, 64 + 3, 1);
        MapForge s = DUE.method(0, 0, false, i(18), i(6), i(18));
        DUE.is("WRONG for make", s.make(), MapForge.WRONG);
        bad("well for check", s, MapForge.NONE, 64 + 1, 1);
        MapForge r = DUE.method(0, 0, false, i(18));
        bad("a row at PLACE 0", r, MapForge.NONE, 0);
        bad("a row at PLACE 0 that asks for more", r, 0, 252, 0, 0, 1);
        bad("a row at PLACE 0 with a STACK", r, 0, 64, 1);
    }

    private static void rowHolds() {
        MapForge x = DUE.method(0, 0, false, i(0), i(21, 0), i(6), i(18));
        x.argument(1);
        bad("as the FIRST FRAME has it", x, MapForge.NONE, 1);
        bad("LOCAL 0 is TOP in the row", x, 1, 250, 0, 1);
        bad("LOCAL 0 is TOP from PLACE 0 on", x, 1, 250, 0, 0);
        bad("LOCAL 0 is TOP too late", x, MapForge.NONE, 250, 0, 4);
        MapForge y = DUE.method(0, 0, false, i(5), i(37, 1), i(6), i(18));
        bad("NULL", y, MapForge.NONE);
        bad("OBJECT 1 in its stead", y, MapForge.NONE, 65, 7, 0, 1);
        bad("OBJECT 0 in its stead", y, 1, 65, 7, 0, 0);
        MapForge z = DUE.method(0, 0, false, i(1), i(6), i(18));
        bad("INT", z, MapForge.NONE, 65, 1);
        bad("TOP is not for POP", z, 1, 65, 0);
        z.change(1, 0, 0, 0);
        bad("TOP on the STACK", z, MapForge.NONE, 65, 0);
        z.change(1, 8, 0, 0);
        bad("TOP is not for DUP", z, 1, 65, 0);
        z.change(1, 30, 0, 0);
        bad("TOP is not for STORE", z, 1, 65, 0);
        z.change(1, 7, 0, 0);
        bad("TOP is not for POP BOTH", z, 1, 65, 0);
        MapForge w = DUE.method(0, 0, false, i(3), i(1), i(8), i(8), i(8), i(8), i(8), i(8), i(18));
        bad("9 SLOTS", w, 7);
        MapForge v = DUE.method(0, 0, false, i(4), i(1), i(8), i(8), i(8), i(8), i(8), i(8), i(18));
        bad("LONG counts as one where the row says TOP", v, MapForge.NONE, 65, 0);
    }

    /** From PLACE 1 on the FRAME (LOCAL 0, a TYPE on the STACK) has to FIT a row. */
    private static void fit(int argument, int op, boolean want, int... row) {
        MapForge x = DUE.method(0, 0, false, i(op), i(0), i(18));
        x.type(1, 0, false);
        x.type(2, 1, false);
        x.type(3, 0, true);
        x.argument(argument);
        if (op >= 21) {
            x.change(0, op, 0, 0);
        }
        DUE.lay(x, row);
        DUE.is("FITS", x.check(), want ? MapForge.NONE : 1);
    }

    private static void fits() {
        fit(1, 0, true, 1);
        fit(1, 0, true, 250, 0, 1);
        fit(1, 0, false, 252, 0, 1, 1);
        fit(1, 0, true, 252, 0, 1, 0);
        fit(1, 0, false, 255, 0, 1, 0, 1, 2, 0, 0);
        fit(4, 0, true, 255, 0, 1, 0, 2, 0, 0, 0, 0);
        fit(4, 0, false, 255, 0, 1, 0, 1, 3, 0, 0);
        fit(16 * 2 + 7, 0, true, 255, 0, 1, 0, 1, 7, 0, 2, 0, 0);
        fit(16 * 2 + 7, 0, true, 255, 0, 1, 0, 1, 7, 0, 1, 0, 0);
        fit(16 * 2 + 7, 0, true, 255, 0, 1, 0, 1, 7, 0, 0, 0, 0);
        fit(16 * 2 + 7, 0, true, 255, 0, 1, 0, 1, 7, 0, 3, 0, 0);
        fit(16 * 2 + 7, 0, false, 255, 0, 1, 0, 1, 7, 0, 4, 0, 0);
        fit(16 * 2 + 7, 0, false, 255, 0, 1, 0, 1, 5, 0, 0);
        fit(16 + 7, 0, false, 255, 0, 1, 0, 1, 7, 0, 2, 0, 0);
        fit(1, 0, false, 255, 0, 1, 0, 1, 7, 0, 3, 0, 0);
        fit(1, 5, true, 65, 5);
        fit(1, 5, true, 65, 7, 0, 4);
        fit(1, 5, true, 65, 0);
        fit(1, 5, false, 65, 8, 0, 0);
        fit(1, 5, false, 65, 6);
        fit(1, 5, false, 1);
        fit(1, 0, false, 65, 0);
        fit(1, 3, true, 65, 3);
        fit(1, 3, false, 65, 4);
        fit(1, 3, false, 255, 0, 1, 0, 1, 1, 0, 2, 3, 0);
        fit(1, 3, false, 255, 0, 1, 0, 1, 1, 0, 2, 0, 0);
    }

    private static void handlers() {
        MapForge x = DUE.method(0, 0, false, i(1), i(26, 0), i(0), i(18), i(6), i(18));
        DUE.is("handle", x.handle(1, 3, 4, 5), 1);
        // OFFSETS: 0, 1, 3, 4, 5, 6.
        bad("no row", x, 1);
        bad("OBJECT 5", x, MapForge.NONE, 64 + 5, 7, 0, 5);
        bad("OBJECT 0", x, MapForge.NONE, 64 + 5, 7, 0, 0);
        bad("OBJECT 4", x, 1, 64 + 5, 7, 0, 4);
        bad("TOP, and POP of it", x, 4, 64 + 5, 0);
        bad("an empty STACK", x, 1, 5);
        bad("LOCAL 0, before the STORE", x, 1, 255, 0, 5, 0, 1, 1, 0, 1, 7, 0, 5);
        x.method(0, 0, false);
        DUE.write(x, i(1), i(26, 0), i(0), i(18), i(6), i(18));
        DUE.is("handle", x.handle(2, 3, 4, 5), 1);
        bad("LOCAL 0, behind the STORE", x, MapForge.NONE, 255, 0, 5, 0, 1, 1, 0, 1, 7, 0, 5);
        bad("by the row at PLACE 2", x, 2, 3, 255, 0, 1, 0, 1, 1, 0, 1, 7, 0, 5);
        MapForge y = DUE.method(0, 0, false, i(0), i(18));
        DUE.is("handle", y.handle(2, 9, 9, 0), 1);
        bad("guards no INSTRUCTION", y, MapForge.NONE);
        DUE.is("handle", y.handle(1, 9, 9, 0), 2);
        bad("at is not there", y, 1);
        MapForge z = DUE.method(0, 0, false, i(18), i(0), i(31, 1));
        DUE.is("handle", z.handle(0, 3, 1, 0), 1);
        bad("the HANDLER guards itself", z, MapForge.NONE, 65, 7, 0, 0);
    }

    private static void thisIsRaw() {
        MapForge x = DUE.method(3, 2, false, i(0), i(25, 0), i(36, 3), i(18));
        bad("without rows", x, MapForge.NONE);
        bad("a row with RAW THIS", x, MapForge.NONE, 1);
        bad("a row without", x, 1, 250, 0, 1);
        bad("a row with OBJECT behind INIT", x, MapForge.NONE, 255, 0, 6, 0, 1, 7, 0, 3, 0, 0);
        bad("a row with RAW THIS behind INIT", x, 3, 6);
        bad("a row with TOP behind INIT", x, MapForge.NONE, 255, 0, 6, 0, 0, 0, 0);
        // The flag of the row holds: RAW THIS on the STACK alone is not in a LOCAL.
        MapForge y = DUE.method(3, 2, false, i(25, 0), i(0), i(18));
        bad("RETURN while THIS IS RAW", y, 2);
        bad("on the STACK alone", y, 1, 255, 0, 2, 0, 0, 0, 1, 6);
        MapForge z = DUE.method(3, 2, false, i(31, 1), i(18));
        bad("GOTO a row without RAW THIS", z, 0, 250, 0, 3);
        bad("GOTO a row with RAW THIS", z, 1, 3);
        // Rows may tell of a RAW THIS where none can be; then it is there, in a METHOD of any mode.
        MapForge w = DUE.method(3, 0, false, i(18), i(25, 0), i(36, 3), i(25, 0), i(37, 3), i(6), i(18));
        bad("RAW THIS in a static METHOD", w, MapForge.NONE, 252, 0, 1, 6);
        MapForge v = DUE.method(3, 0, false, i(18), i(25, 0), i(36, 0), i(18));
        bad("INIT of its SUPER", v, MapForge.NONE, 252, 0, 1, 6);
        v.change(2, 36, 1, 0);
        bad("INIT of another", v, 2, 252, 0, 1, 6);
        MapForge u = DUE.method(3, 1, false, i(18), i(18));
        bad("RETURN in no CONSTRUCTOR", u, MapForge.NONE, 252, 0, 1, 6);
        MapForge t = DUE.method(3, 2, false, i(25, 0), i(36, 0), i(18), i(18));
        bad("RETURN in a CONSTRUCTOR", t, 3, 5 + 1);
        bad("RETURN in a CONSTRUCTOR, no RAW THIS", t, MapForge.NONE, 250, 0, 6);
    }

    private static void raws() {
        // OFFSETS: 0, 1, 4, 5, 8; the NEW stands behind the INIT.
        MapForge x = DUE.method(0, 0, false, i(18), i(36, 2), i(18), i(35, 2), i(31, 1));
        bad("RAW of NEW", x, MapForge.NONE, 65, 8, 0, 5, 3);
        bad("RAW of RETURN's OFFSET", x, 1, 65, 8, 0, 0, 3);
        bad("RAW of INIT's OFFSET", x, 1, 65, 8, 0, 1, 3);
        bad("RAW inside of NEW", x, 1, 65, 8, 0, 6, 3);
        bad("RAW behind all", x, 1, 65, 8, 255, 255, 3);
        x.change(1, 36, 3, 0);
        bad("INIT of another CLASS", x, 1, 65, 8, 0, 5, 3);
        MapForge y = DUE.method(0, 0, false, i(35, 2), i(8), i(36, 2), i(0), i(18));
        bad("INIT makes an OBJECT of both", y, MapForge.NONE, 64 + 7, 7, 0, 2);
        bad("none stays RAW", y, 3, 64 + 7, 8, 0, 0);
    }

    private static void answers() {
        MapForge x = new MapForge();
        DUE.is("no CODE", x.check(), MapForge.WRONG);
        DUE.is("patch", x.patch(0, 200), true);
        DUE.is("no CODE, and bytes", x.check(), MapForge.WRONG);
        DUE.write(x, i(6));
        DUE.is("BROKEN before BAD", x.check(), MapForge.BROKEN);
        x.cut(0);
        DUE.is("BAD", x.check(), 0);
        x.change(0, 18, 0, 0);
        DUE.is("all is well", x.check(), MapForge.NONE);
    }
}
