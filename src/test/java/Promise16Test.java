/** Promise 16, count: each number, empty and full. */
public final class Promise16Test {
    private static final Due DUE = new Due("promise 16, count");

    public static void main(String[] args) {
        empty();
        instructions();
        handlers();
        arguments();
        bytesOfTheCode();
        rows();
        brokenMap();
        rowsByTheMapAlone();
        otherWhat();
        changesNothing();
        DUE.end("Promise16Test");
    }

    private static int[] i(int... numbers) {
        return numbers;
    }

    private static void empty() {
        DUE.edge("all are 0 at first");
        MapForge x = new MapForge();
        for (int what = 0; what <= 4; what++) {
            DUE.is("count(" + what + ")", x.count(what), 0);
        }
    }

    private static void instructions() {
        DUE.edge("what 0: INSTRUCTIONS, from 0 to 50");
        MapForge x = new MapForge();
        for (int n = 1; n <= 50; n++) {
            x.add(0, 0, 0);
            DUE.is("count(0)", x.count(0), n);
        }
        x.add(0, 0, 0);
        x.add(40, 0, 0);
        DUE.is("count(0) behind FULL and REFUSED", x.count(0), 50);
    }

    private static void handlers() {
        DUE.edge("what 1: HANDLERS, from 0 to 4");
        MapForge x = new MapForge();
        for (int n = 1; n <= 4; n++) {
            x.handle(0, 1, 0, 0);
            DUE.is("count(1)", x.count(1), n);
        }
        x.handle(0, 1, 0, 0);
        x.handle(0, 0, 0, 0);
        DUE.is("count(1) behind FULL and REFUSED", x.count(1), 4);
        DUE.is("count(0)", x.count(0), 0);
        DUE.is("count(2)", x.count(2), 0);
    }

    private static void arguments() {
        DUE.edge("what 2: ARGUMENTS, from 0 to 4, WIDE ones as one");
        MapForge x = new MapForge();
        for (int n = 1; n <= 4; n++) {
            x.argument(n);
            DUE.is("count(2)", x.count(2), n);
        }
        x.argument(1);
        x.argument(0);
        DUE.is("count(2) behind FULL and REFUSED", x.count(2), 4);
        DUE.is("THIS is none", DUE.method(0, 1, false).count(2), 0);
    }

    private static void bytesOfTheCode() {
        DUE.edge("what 3: bytes of the CODE, from 0 to 150");
        MapForge x = new MapForge();
        int bytes = 0;
        for (int op = 0; op < 40; op++) {
            x.add(op, 0, 0);
            bytes += op <= 20 ? 1 : op <= 30 ? 2 : 3;
            DUE.is("count(3)", x.count(3), bytes);
        }
        MapForge y = new MapForge();
        for (int n = 1; n <= 50; n++) {
            y.add(39, 0, 0);
            DUE.is("count(3)", y.count(3), 3 * n);
        }
        y.add(39, 0, 0);
        DUE.is("count(3) behind FULL", y.count(3), 150);
        y.change(0, 0, 0, 0);
        DUE.is("count(3) behind change", y.count(3), 148);
        y.method(0, 0, false);
        DUE.is("count(3) behind method", y.count(3), 0);
    }

    private static void rows() {
        DUE.edge("what 4: rows of the MAP, from 0 to 50");
        MapForge x = new MapForge();
        for (int p = 0; p < 50; p++) {
            x.add(0, 0, 0);
        }
        for (int n = 1; n <= 50; n++) {
            x.patch(n - 1, 0);
            DUE.is("count(4)", x.count(4), n);
        }
        DUE.edge("rows, not bytes");
        DUE.lay(x, 255, 0, 3, 0, 1, 7, 0, 2, 0, 1, 1, 64, 5, 251, 0, 9);
        DUE.is("count(4)", x.count(4), 3);
    }

    private static void brokenMap() {
        DUE.edge("BROKEN: the MAP is so, and the others are told");
        MapForge x = DUE.method(0, 0, false, i(0), i(0), i(18));
        DUE.lay(x, 0, 128);
        DUE.is("count(4)", x.count(4), MapForge.BROKEN);
        DUE.is("count(0)", x.count(0), 3);
        DUE.is("count(3)", x.count(3), 3);
        x.cut(1);
        DUE.is("mended: count(4)", x.count(4), 1);
        DUE.edge("BROKEN: rows, but no CODE");
        x.method(0, 0, false);
        DUE.is("count(4)", x.count(4), MapForge.BROKEN);
        x.cut(0);
        DUE.is("count(4) of no bytes", x.count(4), 0);
    }

    private static void rowsByTheMapAlone() {
        DUE.edge("rows of the MAP as it is, whatever make would make");
        MapForge x = DUE.method(0, 0, false, i(31, 1), i(18));
        DUE.is("count(4) before make", x.count(4), 0);
        x.make();
        DUE.is("count(4)", x.count(4), 1);
        x.change(1, 6, 0, 0);
        DUE.is("count(4) of a METHOD that is WRONG", x.count(4), 1);
    }

    private static void otherWhat() {
        DUE.edge("REFUSED: another what");
        MapForge x = DUE.method(0, 0, false, i(18));
        for (int what : Due.outside(0, 4)) {
            DUE.is("count(" + what + ")", x.count(what), MapForge.REFUSED);
        }
        x.patch(0, 128);
        DUE.is("count(5) of a BROKEN MAP", x.count(5), MapForge.REFUSED);
    }

    private static void changesNothing() {
        DUE.edge("it changes nothing");
        MapForge x = DUE.method(0, 0, false, i(31, 1), i(18));
        DUE.lay(x, 3, 128);
        for (int what = -1; what <= 5; what++) {
            x.count(what);
        }
        DUE.map(x, 3, 128);
        DUE.is("code(1, 0)", x.code(1, 0), 18);
    }
}
