/** The run that README.md shows: what each call answers stands behind it. */
public final class Example {
    public static void main(String[] args) {
        MapForge forge = new MapForge();
        show(forge.type(2, 1, false));          // true: CLASS 2 has SUPER 1, and is no FACE
        show(forge.type(3, 1, false));          // true: CLASS 3 likewise
        show(forge.method(0, 0, true));         // true: static, of CLASS 0, gives an INT
        show(forge.argument(1));                // 1: an INT, which is in LOCAL 0
        show(forge.add(21, 0, 0));              // 1: PLACE 0, LOAD INT 0
        show(forge.add(32, 0, 6));              // 2: PLACE 1, IF INT 6
        show(forge.add(35, 2, 0));              // 3: PLACE 2, NEW 2
        show(forge.add(8, 0, 0));               // 4: PLACE 3, DUP
        show(forge.add(36, 2, 0));              // 5: PLACE 4, INIT 2
        show(forge.add(31, 0, 9));              // 6: PLACE 5, GOTO 9
        show(forge.add(35, 3, 0));              // 7: PLACE 6, NEW 3
        show(forge.add(8, 0, 0));               // 8: PLACE 7, DUP
        show(forge.add(36, 3, 0));              // 9: PLACE 8, INIT 3
        show(forge.add(37, 1, 0));              // 10: PLACE 9, CALL 1
        show(forge.add(19, 0, 0));              // 11: PLACE 10, RETURN INT
        show(forge.add(20, 0, 0));              // 12: PLACE 11, THROW
        show(forge.handle(9, 10, 11, 1));       // 1: from PLACE 9 one may come to PLACE 11, with an OBJECT 1
        show(forge.add(40, 0, 0));              // -1: REFUSED, there is no such op
        show(forge.count(0));                   // 12: INSTRUCTIONS
        show(forge.count(3));                   // 27: bytes of the CODE
        show(forge.code(9, 3));                 // 22: the OFFSET of PLACE 9

        show(forge.flow(3, 10));                // 88: 16 * 5 + 8, RAW of OFFSET 5
        show(forge.flow(9, 10));                // 23: 16 * 1 + 7, as OBJECT 2 and 3 JOIN to OBJECT 1
        show(forge.flow(9, 20));                // 1: so many TYPES are on the STACK

        show(forge.make());                     // 3: the rows of PLACES 6, 9 and 11
        show(forge.map(-1));                    // 9: bytes: 15; 70, 7, 0, 1; 67, 7, 0, 1
        show(forge.map(1));                     // 70: 64 and DELTA 6 (22 less 15 and 1)
        show(forge.row(1, 21));                 // 22: the OFFSET of row 1
        show(forge.row(1, 10));                 // 23: OBJECT 1 is on its STACK
        show(forge.check());                    // -2: NONE, all is well

        show(forge.patch(4, 2));                // true: row 1 says OBJECT 2 now
        show(forge.check());                    // 9: from PLACE 8 an OBJECT 3 comes
        show(forge.patch(0, 128));              // true: a number that no row has
        show(forge.check());                    // -5: BROKEN
        show(forge.cut(0));                     // 9: so many bytes went
        show(forge.check());                    // 1: its b has no row

        show(forge.change(9, 37, 2, 0));        // true: PLACE 9 is CALL 2
        show(forge.make());                     // -4: WRONG, since OBJECT 1 is no OBJECT 2
    }

    private static void show(Object answer) {
        System.out.println(answer);
    }
}
