/** Promise 2, type: which numbers are as said, and what SUPER, LINE and FACE do. */
public final class Promise02Test {
    private static final Due DUE = new Due("promise 2, type");

    public static void main(String[] args) {
        classIsZero();
        classOutside();
        superTooSmall();
        superTooLarge();
        leastAndMost();
        refusedChangesNothing();
        lineGoesToZero();
        lineOfAnother();
        firstInBothLines();
        faceComesAndGoes();
        faceAndSuperApart();
        onlyObjectsAreOfAFace();
        faceDoesNotJoin();
        countsAtOnce();
        othersStay();
        DUE.end("Promise02Test");
    }

    private static int[] i(int... numbers) {
        return numbers;
    }

    private static void refused(MapForge x, int c, int above) {
        DUE.is("type(" + c + ", " + above + ", false)", x.type(c, above, false), false);
        DUE.is("type(" + c + ", " + above + ", true)", x.type(c, above, true), false);
    }

    private static void classIsZero() {
        DUE.edge("c is 0: it has no SUPER and is never a FACE");
        MapForge x = new MapForge();
        refused(x, 0, 0);
        refused(x, 0, -1);
        refused(x, 0, 1);
    }

    private static void classOutside() {
        DUE.edge("c is not 1 to 7");
        MapForge x = new MapForge();
        for (int c : Due.outside(1, 7)) {
            refused(x, c, 0);
        }
        refused(x, 8, 7);
        refused(x, -1, -2);
    }

    private static void superTooSmall() {
        DUE.edge("above is less than 0");
        for (int c = 1; c < 8; c++) {
            refused(new MapForge(), c, -1);
            refused(new MapForge(), c, Integer.MIN_VALUE);
        }
    }

    private static void superTooLarge() {
        DUE.edge("above is more than c - 1");
        for (int c = 1; c < 8; c++) {
            for (int above = c; above < 9; above++) {
                refused(new MapForge(), c, above);
            }
            refused(new MapForge(), c, Integer.MAX_VALUE);
        }
    }

    private static void leastAndMost() {
        DUE.edge("each c from 1 to 7 with each above from 0 to c - 1");
        for (int c = 1; c < 8; c++) {
            for (int above = 0; above < c; above++) {
                MapForge x = new MapForge();
                DUE.is("type(" + c + ", " + above + ", false)", x.type(c, above, false), true);
                DUE.is(c + " IS " + above, Due.isOf(x, c, above), true);
                DUE.is(above + " IS " + c, Due.isOf(x, above, c), false);
                x.type(c, above, true);
                DUE.is(c + " is a FACE: 0 IS " + c, Due.isOf(x, 0, c), true);
            }
        }
    }

    private static void refusedChangesNothing() {
        DUE.edge("a refused call changes neither SUPER nor FACE");
        MapForge x = new MapForge();
        DUE.is("type(2, 1, true)", x.type(2, 1, true), true);
        DUE.is("type(3, 1, false)", x.type(3, 1, false), true);
        DUE.is("type(2, 2, false)", x.type(2, 2, false), false);
        DUE.is("type(2, -1, false)", x.type(2, -1, false), false);
        DUE.is("type(3, 3, true)", x.type(3, 3, true), false);
        DUE.is("type(3, 4, true)", x.type(3, 4, true), false);
        DUE.is("2 IS 1", Due.isOf(x, 2, 1), true);
        DUE.is("2 is a FACE: 5 IS 2", Due.isOf(x, 5, 2), true);
        DUE.is("3 IS 1", Due.isOf(x, 3, 1), true);
        DUE.is("3 is no FACE: 5 IS 3", Due.isOf(x, 5, 3), false);
    }

    private static MapForge chain() {
        MapForge x = new MapForge();
        for (int c = 7; c > 0; c--) {
            DUE.is("type", x.type(c, c - 1, false), true);
        }
        return x;
    }

    private static void lineGoesToZero() {
        DUE.edge("the LINE has each SUPER, to 0");
        for (int c = 0; c < 8; c++) {
            DUE.is("7 IS " + c, Due.isOf(chain(), 7, c), true);
            DUE.is(c + " IS 7", Due.isOf(chain(), c, 7), c == 7);
            DUE.is("JOIN of 7 and " + c, Due.joinOf(chain(), 7, c), 16 * c + 7);
            DUE.is("JOIN of " + c + " and 7", Due.joinOf(chain(), c, 7), 16 * c + 7);
        }
    }

    private static void lineOfAnother() {
        DUE.edge("a LINE goes by the SUPERS as they are now");
        MapForge x = chain();
        DUE.is("type(4, 1, false)", x.type(4, 1, false), true);
        int[] line = {1, 1, 0, 0, 1, 1, 1, 1};
        for (int c = 0; c < 8; c++) {
            DUE.is("7 IS " + c, Due.isOf(x, 7, c), line[c] == 1);
        }
        DUE.is("3 IS 2", Due.isOf(x, 3, 2), true);
        DUE.is("type(4, 3, false)", x.type(4, 3, false), true);
        DUE.is("7 IS 2", Due.isOf(x, 7, 2), true);
        DUE.is("type(1, 0, false)", x.type(1, 0, false), true);
        DUE.is("7 IS 1", Due.isOf(x, 7, 1), true);
    }

    private static void firstInBothLines() {
        DUE.edge("JOIN: the first in the LINE of c that is in that of d");
        MapForge x = new MapForge();
        x.type(2, 1, false);
        x.type(3, 2, false);
        x.type(4, 1, false);
        x.type(6, 4, false);
        int[][] joins = {{3, 4, 1}, {3, 6, 1}, {6, 4, 4}, {3, 2, 2}, {3, 5, 0}, {6, 0, 0}, {3, 3, 3}};
        for (int[] join : joins) {
            DUE.is("JOIN of " + join[0] + " and " + join[1], Due.joinOf(x, join[0], join[1]), 16 * join[2] + 7);
            DUE.is("JOIN of " + join[1] + " and " + join[0], Due.joinOf(x, join[1], join[0]), 16 * join[2] + 7);
        }
    }

    private static void faceComesAndGoes() {
        DUE.edge("a CLASS is a FACE, then not");
        MapForge x = new MapForge();
        DUE.is("5 IS 7", Due.isOf(x, 5, 7), false);
        DUE.is("type(7, 6, true)", x.type(7, 6, true), true);
        DUE.is("5 IS the FACE 7", Due.isOf(x, 5, 7), true);
        DUE.is("0 IS the FACE 7", Due.isOf(x, 0, 7), true);
        DUE.is("type(7, 6, false)", x.type(7, 6, false), true);
        DUE.is("5 IS 7, no FACE now", Due.isOf(x, 5, 7), false);
        DUE.is("7 IS 7", Due.isOf(x, 7, 7), true);
    }

    private static void faceAndSuperApart() {
        DUE.edge("a FACE has a SUPER, and IS only what is in its LINE, or a FACE");
        MapForge x = new MapForge();
        x.type(7, 6, true);
        DUE.is("the FACE 7 IS 6", Due.isOf(x, 7, 6), true);
        DUE.is("the FACE 7 IS 5", Due.isOf(x, 7, 5), false);
        DUE.is("6 is no FACE by its own: 5 IS 6", Due.isOf(x, 5, 6), false);
        x.type(5, 0, true);
        DUE.is("the FACE 7 IS the FACE 5", Due.isOf(x, 7, 5), true);
    }

    private static void onlyObjectsAreOfAFace() {
        DUE.edge("a FACE is what any OBJECT and NULL IS, and nothing else");
        int[][] on = {i(5), i(1), i(2), i(3), i(4), i(35, 1), i(35, 2)};
        for (int k = 0; k < on.length; k++) {
            MapForge x = DUE.method(0, 0, false, on[k], i(37, 1), i(18));
            x.type(1, 0, true);
            DUE.right("CALL 1 of what " + on[k][0] + " leaves", x, k == 0);
        }
        MapForge y = DUE.method(1, 2, false, i(25, 0), i(37, 1), i(5), i(20));
        y.type(1, 0, true);
        DUE.right("CALL 1 of RAW THIS", y, false);
    }

    private static void faceDoesNotJoin() {
        DUE.edge("JOIN goes by the LINES of FACES, too");
        MapForge x = new MapForge();
        x.type(7, 6, true);
        x.type(5, 0, true);
        DUE.is("JOIN of 7 and 5", Due.joinOf(x, 7, 5), 7);
        DUE.is("JOIN of 1 and 7", Due.joinOf(x, 1, 7), 7);
        DUE.is("JOIN of 7 and 6", Due.joinOf(x, 7, 6), 16 * 6 + 7);
    }

    private static void countsAtOnce() {
        DUE.edge("what is changed counts at once for flow, make and check");
        MapForge x = DUE.method(0, 0, false, i(25, 0), i(37, 2), i(6), i(18));
        x.argument(16 * 3 + 7);
        DUE.right("3 IS 2", x, false);
        DUE.is("check()", x.check(), 1);
        x.type(3, 2, false);
        DUE.right("3 IS 2 now", x, true);
        DUE.is("check()", x.check(), MapForge.NONE);
        x.type(3, 1, false);
        DUE.right("3 IS 2 no more", x, false);
        DUE.is("check()", x.check(), 1);
        x.type(2, 0, true);
        DUE.right("3 IS the FACE 2", x, true);
        DUE.is("check()", x.check(), MapForge.NONE);
    }

    private static void othersStay() {
        DUE.edge("METHOD and MAP stay");
        MapForge x = DUE.method(3, 1, true, i(1), i(19));
        x.argument(4);
        x.handle(7, 8, 1, 2);
        DUE.lay(x, 1, 0);
        String before = Due.stateOf(x);
        DUE.is("type(3, 2, true)", x.type(3, 2, true), true);
        DUE.same("all", Due.stateOf(x), before);
    }
}
