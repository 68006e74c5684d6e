/** Promise 14, row: what the bytes say of each row. */
public final class Promise14Test {
    private static final Due DUE = new Due("promise 14, row");
    private static final int[] QUESTIONS = {0, 1, 2, 3, 4, 5, 6, 7, 8, 9, 10, 11, 12, 13, 14, 15, 16, 17, 20, 21, 22};

    public static void main(String[] args) {
        everyLocal();
        everyOfTheStack();
        wideAsOne();
        howManyTypes();
        offsets();
        firstBytes();
        lists();
        toldTops();
        rowOutside();
        emptyMap();
        brokenMap();
        noCode();
        otherWhat();
        hangsOnTheMethod();
        changesNothing();
        DUE.end("Promise14Test");
    }

    private static int[] i(int... numbers) {
        return numbers;
    }

    private static MapForge laid(int... bytes) {
        MapForge x = DUE.sixPlaces();
        DUE.lay(x, bytes);
        return x;
    }

    private static void locals(MapForge x, int row, int... types) {
        for (int local = 0; local < 10; local++) {
            int due = local < types.length ? types[local] : 0;
            DUE.is("row(" + row + ", " + local + ")", x.row(row, local), due);
        }
    }

    private static void everyLocal() {
        DUE.edge("what 0 to 9: that LOCAL, told as a TYPE");
        MapForge x = laid(255, 0, 0, 0, 9, 0, 1, 2, 3, 5, 6, 7, 0, 7, 8, 1, 2, 1, 0, 0);
        locals(x, 0, 0, 1, 2, 3, 0, 5, 6, 16 * 7 + 7, 16 * 258 + 8, 1);
        DUE.edge("a WIDE one in LOCAL 8 takes LOCAL 9");
        locals(laid(255, 0, 0, 0, 9, 1, 1, 1, 1, 1, 1, 1, 1, 4, 0, 0), 0, 1, 1, 1, 1, 1, 1, 1, 1, 4, 0);
        DUE.edge("RAW of the greatest OFFSET");
        locals(laid(252, 0, 0, 8, 255, 255), 0, 16 * 65535 + 8);
    }

    private static void everyOfTheStack() {
        DUE.edge("what 10 to 17: k of the STACK from below; NONE if there are not so many");
        int[] bytes = {255, 0, 0, 0, 0, 0, 8, 1, 2, 5, 6, 0, 7, 0, 3, 8, 255, 255, 1};
        int[] due = {1, 2, 5, 6, 0, 16 * 3 + 7, 16 * 65535 + 8, 1};
        MapForge x = laid(bytes);
        for (int k = 0; k < 8; k++) {
            DUE.is("row(0, " + (10 + k) + ")", x.row(0, 10 + k), due[k]);
        }
        MapForge y = laid(64, 2, 0);
        for (int k = 0; k < 8; k++) {
            DUE.is("row(0, " + (10 + k) + ")", y.row(0, 10 + k), k == 0 ? 2 : MapForge.NONE);
            DUE.is("row(1, " + (10 + k) + ")", y.row(1, 10 + k), MapForge.NONE);
        }
    }

    private static void wideAsOne() {
        DUE.edge("WIDE ones on the STACK as one");
        MapForge x = laid(255, 0, 0, 0, 0, 0, 4, 3, 1, 4, 4);
        int[] due = {3, 1, 4, 4};
        for (int k = 0; k < 8; k++) {
            DUE.is("row(0, " + (10 + k) + ")", x.row(0, 10 + k), k < 4 ? due[k] : MapForge.NONE);
        }
        DUE.is("row(0, 20)", x.row(0, 20), 4);
    }

    private static void howManyTypes() {
        DUE.edge("what 20: how many TYPES, from 0 to 8");
        MapForge x = laid(0, 64, 1, 247, 0, 0, 1, 255, 0, 0, 0, 0, 0, 8, 1, 1, 1, 1, 1, 1, 1, 1, 251, 0, 0);
        int[] due = {0, 1, 1, 8, 0};
        for (int row = 0; row < 5; row++) {
            DUE.is("row(" + row + ", 20)", x.row(row, 20), due[row]);
        }
    }

    private static void offsets() {
        DUE.edge("what 21: its OFFSET, by the rows before it");
        MapForge x = laid(0, 0, 1, 251, 0, 1);
        int[] due = {0, 1, 3, 5};
        for (int row = 0; row < 4; row++) {
            DUE.is("row(" + row + ", 21)", x.row(row, 21), due[row]);
        }
        DUE.edge("an OFFSET of 147, the greatest that a PLACE has");
        MapForge y = new MapForge();
        for (int p = 0; p < 50; p++) {
            y.add(31, 0, 0);
        }
        DUE.lay(y, 251, 0, 147);
        DUE.is("row(0, 21)", y.row(0, 21), 147);
        DUE.lay(y, 251, 0, 150);
        DUE.is("row(0, 21)", y.row(0, 21), MapForge.NONE);
    }

    private static void firstBytes() {
        DUE.edge("what 22: the first byte of it, not its DELTA");
        MapForge x = laid(254, 0, 0, 1, 1, 1, 248, 0, 0, 251, 0, 0, 65, 5, 255, 0, 0, 0, 0, 0, 0);
        int[] due = {254, 248, 251, 65, 255};
        for (int row = 0; row < 5; row++) {
            DUE.is("row(" + row + ", 22)", x.row(row, 22), due[row]);
        }
        DUE.is("row(0, 22) of 0", laid(0).row(0, 22), 0);
        DUE.is("row(0, 22) of 5", laid(5).row(0, 22), 5);
        DUE.is("row(0, 22) of 247", laid(247, 0, 5, 1).row(0, 22), 247);
    }

    private static void lists() {
        DUE.edge("the list before the first row is that of the FIRST FRAME");
        MapForge x = DUE.method(6, 1, false, i(0), i(0), i(0), i(0), i(18));
        x.argument(3);
        x.argument(2);
        DUE.lay(x, 0, 250, 0, 0, 252, 0, 0, 1, 64, 5, 249, 0, 0);
        locals(x, 0, 16 * 6 + 7, 3, 0, 2);
        DUE.edge("without the last, one more, and the same: by the list of the row before");
        locals(x, 1, 16 * 6 + 7, 3, 0);
        locals(x, 2, 16 * 6 + 7, 3, 0, 1);
        locals(x, 3, 16 * 6 + 7, 3, 0, 1);
        locals(x, 4, 16 * 6 + 7);
        DUE.edge("with 255 nothing is left of the list before");
        MapForge y = laid(254, 0, 0, 1, 4, 1, 255, 0, 0, 0, 1, 2, 0, 0, 0);
        locals(y, 0, 1, 4, 0, 1);
        locals(y, 1, 2);
        locals(y, 2, 2);
        DUE.edge("RAW THIS is in the list of a CONSTRUCTOR");
        MapForge z = DUE.method(6, 2, false, i(0), i(18));
        DUE.lay(z, 0, 250, 0, 0);
        locals(z, 0, 6);
        locals(z, 1);
    }

    private static void toldTops() {
        DUE.edge("TOPS at the end that bytes tell are in the list");
        MapForge x = laid(254, 0, 0, 1, 1, 0, 250, 0, 0, 250, 0, 0);
        locals(x, 0, 1, 1);
        locals(x, 1, 1, 1);
        locals(x, 2, 1);
    }

    private static void rowOutside() {
        DUE.edge("NONE: i is below 0, or as many as there are, or more");
        MapForge x = laid(252, 0, 0, 1, 0);
        for (int row : Due.outside(0, 1)) {
            for (int what : QUESTIONS) {
                DUE.is("row(" + row + ", " + what + ")", x.row(row, what), MapForge.NONE);
            }
        }
        DUE.is("row(49, 21)", x.row(49, 21), MapForge.NONE);
        DUE.is("row(50, 21)", x.row(50, 21), MapForge.NONE);
        DUE.is("the last: row(1, 21)", x.row(1, 21), 1);
    }

    private static void emptyMap() {
        DUE.edge("NONE: an empty MAP has no row");
        for (int what : QUESTIONS) {
            DUE.is("row(0, " + what + ")", laid().row(0, what), MapForge.NONE);
        }
        DUE.edge("NONE: a row that was there before");
        MapForge x = laid(0, 0, 0);
        DUE.is("row(2, 21)", x.row(2, 21), 2);
        x.cut(2);
        DUE.is("row(2, 21)", x.row(2, 21), MapForge.NONE);
        DUE.is("row(1, 21)", x.row(1, 21), 1);
    }

    private static void brokenMap() {
        DUE.edge("NONE: the MAP is BROKEN, even behind rows that are right");
        MapForge x = laid(0, 0, 128);
        for (int row = 0; row < 3; row++) {
            for (int what : QUESTIONS) {
                DUE.is("row(" + row + ", " + what + ")", x.row(row, what), MapForge.NONE);
            }
        }
        x.cut(2);
        DUE.is("mended: row(1, 21)", x.row(1, 21), 1);
    }

    private static void noCode() {
        DUE.edge("NONE: without CODE no OFFSET has a PLACE");
        MapForge x = new MapForge();
        DUE.lay(x, 0);
        for (int what : QUESTIONS) {
            DUE.is("row(0, " + what + ")", x.row(0, what), MapForge.NONE);
        }
    }

    private static void otherWhat() {
        DUE.edge("REFUSED: another what");
        MapForge x = laid(0);
        MapForge broken = laid(128);
        for (int what : i(-1, 18, 19, 23, 24, 30, 256, 276, -234, Integer.MIN_VALUE, Integer.MAX_VALUE)) {
            DUE.is("row(0, " + what + ")", x.row(0, what), MapForge.REFUSED);
            DUE.is("row(1, " + what + ")", x.row(1, what), MapForge.REFUSED);
            DUE.is("row(-1, " + what + ")", x.row(-1, what), MapForge.REFUSED);
            DUE.is("row(0, " + what + ") of a BROKEN one", broken.row(0, what), MapForge.REFUSED);
        }
    }

    private static void hangsOnTheMethod() {
        DUE.edge("rows go by the FIRST FRAME and the OFFSETS as they are now");
        MapForge x = laid(2);
        DUE.is("row(0, 0)", x.row(0, 0), 0);
        x.argument(4);
        DUE.is("row(0, 0)", x.row(0, 0), 4);
        x.change(1, 21, 0, 0);
        DUE.is("no PLACE at OFFSET 2", x.row(0, 0), MapForge.NONE);
        x.change(0, 21, 0, 0);
        DUE.is("a PLACE once more", x.row(0, 21), 2);
        x.method(5, 2, false);
        DUE.write(x, i(0), i(0));
        DUE.is("just behind the CODE", x.row(0, 0), MapForge.NONE);
        DUE.write(x, i(0));
        DUE.is("RAW THIS", x.row(0, 0), 6);
    }

    private static void changesNothing() {
        DUE.edge("it changes nothing");
        MapForge x = laid(252, 0, 1, 1);
        x.row(0, 0);
        x.row(9, 9);
        x.row(0, 99);
        DUE.map(x, 252, 0, 1, 1);
        DUE.is("count(4)", x.count(4), 1);
    }
}
