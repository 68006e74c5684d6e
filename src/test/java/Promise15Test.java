/** Promise 15, code: what is told of an INSTRUCTION. */
public final class Promise15Test {
    private static final Due DUE = new Due("promise 15, code");

    public static void main(String[] args) {
        everyQuestion();
        firstAndLast();
        noneSuch();
        noCode();
        fifty();
        otherWhat();
        offsets();
        changesNothing();
        DUE.end("Promise15Test");
    }

    private static int[] i(int... numbers) {
        return numbers;
    }

    private static void everyQuestion() {
        DUE.edge("what 0: op, 1: a, 2: b, 3: its OFFSET");
        MapForge x = DUE.method(0, 0, false, i(20), i(21, 3), i(30, 4), i(34, 2), i(38, 1, 2), i(36, 7), i(18));
        int[][] due = {{20, 0, 0, 0}, {21, 3, 0, 1}, {30, 4, 0, 3}, {34, 0, 2, 5}, {38, 1, 2, 8}, {36, 7, 0, 11}, {18, 0, 0, 14}};
        for (int p = 0; p < due.length; p++) {
            for (int what = 0; what < 4; what++) {
                DUE.is("code(" + p + ", " + what + ")", x.code(p, what), due[p][what]);
            }
        }
    }

    private static void firstAndLast() {
        DUE.edge("one INSTRUCTION alone is the first and the last");
        MapForge x = DUE.method(0, 0, false, i(39, 6));
        DUE.is("code(0, 0)", x.code(0, 0), 39);
        DUE.is("code(0, 1)", x.code(0, 1), 6);
        DUE.is("code(0, 2)", x.code(0, 2), 0);
        DUE.is("code(0, 3)", x.code(0, 3), 0);
        DUE.is("code(1, 0)", x.code(1, 0), MapForge.NONE);
    }

    private static void noneSuch() {
        DUE.edge("NONE: i is below 0, or as many as there are, or more");
        MapForge x = DUE.method(0, 0, false, i(21, 3), i(18));
        for (int at : Due.outside(0, 1)) {
            for (int what = 0; what < 4; what++) {
                DUE.is("code(" + at + ", " + what + ")", x.code(at, what), MapForge.NONE);
            }
        }
    }

    private static void noCode() {
        DUE.edge("NONE: an empty CODE, and one that has become empty");
        MapForge x = new MapForge();
        for (int what = 0; what < 4; what++) {
            DUE.is("code(0, " + what + ")", x.code(0, what), MapForge.NONE);
        }
        DUE.write(x, i(21, 3), i(18));
        x.method(0, 0, false);
        for (int what = 0; what < 4; what++) {
            DUE.is("code(0, " + what + ")", x.code(0, what), MapForge.NONE);
        }
    }

    private static void fifty() {
        DUE.edge("of 50 the last is there, and none behind it");
        MapForge x = new MapForge();
        for (int p = 0; p < 50; p++) {
            x.add(31, 0, p);
        }
        DUE.is("code(49, 0)", x.code(49, 0), 31);
        DUE.is("code(49, 2)", x.code(49, 2), 49);
        DUE.is("code(49, 3)", x.code(49, 3), 147);
        for (int what = 0; what < 4; what++) {
            DUE.is("code(50, " + what + ")", x.code(50, what), MapForge.NONE);
        }
    }

    private static void otherWhat() {
        DUE.edge("REFUSED: another what, with such an INSTRUCTION or without");
        MapForge x = DUE.method(0, 0, false, i(18));
        for (int what : Due.outside(0, 3)) {
            DUE.is("code(0, " + what + ")", x.code(0, what), MapForge.REFUSED);
            DUE.is("code(1, " + what + ")", x.code(1, what), MapForge.REFUSED);
            DUE.is("code(-1, " + what + ")", x.code(-1, what), MapForge.REFUSED);
        }
    }

    private static void offsets() {
        DUE.edge("the OFFSET is how many bytes stand before, at 20 and 21, 30 and 31");
        MapForge x = DUE.method(0, 0, false, i(20), i(21, 0), i(30, 0), i(31, 0), i(39, 0), i(0));
        int[] due = {0, 1, 3, 5, 8, 11};
        for (int p = 0; p < 6; p++) {
            DUE.is("code(" + p + ", 3)", x.code(p, 3), due[p]);
        }
    }

    private static void changesNothing() {
        DUE.edge("it changes nothing");
        MapForge x = DUE.method(0, 0, false, i(31, 1), i(18));
        String before = Due.stateOf(x);
        x.code(0, 0);
        x.code(9, 0);
        x.code(0, 9);
        DUE.same("all", Due.stateOf(x), before);
    }
}
