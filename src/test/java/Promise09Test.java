/** Promise 9, flow: each question, and when there is no answer to it. */
public final class Promise09Test {
    private static final Due DUE = new Due("promise 9, flow");

    public static void main(String[] args) {
        everyLocal();
        everyOfTheStack();
        wideAsOne();
        howManyTypes();
        thisIsRaw();
        placeOutside();
        wrongMethod();
        noCode();
        otherWhat();
        beforeThePlace();
        apartFromTheMap();
        changesNothing();
        DUE.end("Promise09Test");
    }

    private static int[] i(int... numbers) {
        return numbers;
    }

    private static void everyLocal() {
        DUE.edge("what 0 to 9: that LOCAL");
        MapForge x = DUE.method(6, 1, false, i(5), i(30, 5), i(1), i(26, 6), i(35, 2), i(30, 7), i(4), i(27, 8), i(18));
        x.argument(3);
        x.argument(2);
        x.argument(16 * 7 + 7);
        int[] due = {16 * 6 + 7, 3, 0, 2, 16 * 7 + 7, 5, 1, 16 * 6 + 8, 4, 0};
        for (int what = 0; what < 10; what++) {
            DUE.is("flow(8, " + what + ")", x.flow(8, what), due[what]);
            DUE.is("flow(0, " + what + ")", x.flow(0, what), what < 5 ? due[what] : 0);
        }
    }

    private static void everyOfTheStack() {
        DUE.edge("what 10 to 17: k of the STACK from below; NONE if there are not so many");
        int[] due = {1, 2, 5, 8 + 16 * 3, 1, 2, 5, 1};
        MapForge x = DUE.method(0, 0, false, i(1), i(2), i(5), i(35, 4), i(1), i(2), i(5), i(1), i(18));
        for (int p = 0; p < 9; p++) {
            for (int k = 0; k < 8; k++) {
                DUE.is("flow(" + p + ", " + (10 + k) + ")", x.flow(p, 10 + k), k < p ? due[k] : MapForge.NONE);
            }
        }
    }

    private static void wideAsOne() {
        DUE.edge("WIDE ones on the STACK as one");
        MapForge x = DUE.method(0, 0, false, i(3), i(4), i(1), i(4), i(18));
        int[] due = {3, 4, 1, 4};
        for (int k = 0; k < 8; k++) {
            DUE.is("flow(4, " + (10 + k) + ")", x.flow(4, 10 + k), k < 4 ? due[k] : MapForge.NONE);
        }
        DUE.is("flow(4, 20)", x.flow(4, 20), 4);
    }

    private static void howManyTypes() {
        DUE.edge("what 20: how many TYPES, from 0 to 8");
        MapForge x = DUE.method(0, 0, false, i(1), i(1), i(1), i(1), i(1), i(1), i(1), i(1), i(18));
        for (int p = 0; p < 9; p++) {
            DUE.is("flow(" + p + ", 20)", x.flow(p, 20), p);
        }
    }

    private static void thisIsRaw() {
        DUE.edge("what 21: 1 if THIS IS RAW, else 0");
        MapForge x = DUE.method(3, 2, false, i(0), i(25, 0), i(36, 3), i(0), i(18));
        int[] due = {1, 1, 1, 0, 0};
        for (int p = 0; p < 5; p++) {
            DUE.is("flow(" + p + ", 21)", x.flow(p, 21), due[p]);
        }
        DUE.is("of a METHOD that is no CONSTRUCTOR", DUE.method(3, 1, false, i(18)).flow(0, 21), 0);
        DUE.is("of a static METHOD", DUE.method(3, 0, false, i(18)).flow(0, 21), 0);
    }

    private static final int[] QUESTIONS = {0, 1, 2, 3, 4, 5, 6, 7, 8, 9, 10, 11, 12, 13, 14, 15, 16, 17, 20, 21};

    private static void placeOutside() {
        DUE.edge("NONE: p is below 0, or as many as there are, or more");
        MapForge x = DUE.method(0, 0, false, i(1), i(0), i(18));
        for (int p : Due.outside(0, 2)) {
            for (int what : QUESTIONS) {
                DUE.is("flow(" + p + ", " + what + ")", x.flow(p, what), MapForge.NONE);
            }
        }
        DUE.is("flow(49, 0)", x.flow(49, 0), MapForge.NONE);
        DUE.is("flow(50, 0)", x.flow(50, 0), MapForge.NONE);
        DUE.is("the last: flow(2, 20)", x.flow(2, 20), 1);
        DUE.is("the first: flow(0, 20)", x.flow(0, 20), 0);
    }

    private static void wrongMethod() {
        DUE.edge("NONE: the METHOD is WRONG, even where it is right up to there");
        MapForge x = DUE.method(0, 0, false, i(1), i(6), i(18), i(18));
        for (int p = 0; p < 4; p++) {
            for (int what : QUESTIONS) {
                DUE.is("flow(" + p + ", " + what + ")", x.flow(p, what), MapForge.NONE);
            }
        }
    }

    private static void noCode() {
        DUE.edge("NONE: there is no INSTRUCTION");
        for (int what : QUESTIONS) {
            DUE.is("flow(0, " + what + ")", new MapForge().flow(0, what), MapForge.NONE);
        }
    }

    private static void otherWhat() {
        DUE.edge("REFUSED: another what");
        MapForge right = DUE.method(0, 0, false, i(1), i(18));
        MapForge wrong = DUE.method(0, 0, false, i(6), i(18));
        for (int what : i(-1, 18, 19, 22, 23, 30, 256, 276, -236, Integer.MIN_VALUE, Integer.MAX_VALUE)) {
            DUE.is("flow(0, " + what + ")", right.flow(0, what), MapForge.REFUSED);
            DUE.is("flow(2, " + what + ")", right.flow(2, what), MapForge.REFUSED);
            DUE.is("flow(-1, " + what + ")", right.flow(-1, what), MapForge.REFUSED);
            DUE.is("flow(0, " + what + ") of a WRONG one", wrong.flow(0, what), MapForge.REFUSED);
        }
    }

    private static void beforeThePlace() {
        DUE.edge("the FRAME is that before the INSTRUCTION");
        MapForge x = DUE.method(0, 0, false, i(1), i(26, 3), i(18));
        DUE.is("flow(0, 20)", x.flow(0, 20), 0);
        DUE.is("flow(1, 20)", x.flow(1, 20), 1);
        DUE.is("flow(1, 3)", x.flow(1, 3), 0);
        DUE.is("flow(2, 3)", x.flow(2, 3), 1);
    }

    private static void apartFromTheMap() {
        DUE.edge("it hangs on the METHOD, not on the MAP");
        MapForge x = DUE.method(0, 0, false, i(1), i(31, 2), i(18));
        DUE.lay(x, 200, 200);
        DUE.is("flow(2, 10)", x.flow(2, 10), 1);
        x.cut(0);
        DUE.is("flow(2, 10)", x.flow(2, 10), 1);
    }

    private static void changesNothing() {
        DUE.edge("it changes nothing");
        MapForge x = DUE.method(0, 0, false, i(1), i(31, 2), i(18));
        DUE.lay(x, 3, 4);
        x.flow(1, 10);
        x.flow(9, 99);
        DUE.map(x, 3, 4);
        DUE.is("count(0)", x.count(0), 3);
    }
}
