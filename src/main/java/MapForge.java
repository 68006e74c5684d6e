import java.util.Arrays;

/**
 * A maker of stack maps, and a checker that trusts nothing but the map. The words in capitals are
 * those of the document (../shared/DOC.md).
 */
public final class MapForge {
    /** A number is not as said. */
    public static final int REFUSED = -1;
    /** There is no such thing, or all is well. */
    public static final int NONE = -2;
    /** There is no room. */
    public static final int FULL = -3;
    /** The METHOD is WRONG. */
    public static final int WRONG = -4;
    /** The bytes are no rows. */
    public static final int BROKEN = -5;

    private static final int CLASSES = 8;
    private static final int LOCALS = 10;
    private static final int SLOTS = 8;
    private static final int MOST_ARGUMENTS = 4;
    private static final int MOST_PLACES = 50;
    private static final int MOST_HANDLERS = 4;
    private static final int MOST_BYTES = 400;

    private static final int STATIC = 0;
    private static final int CONSTRUCTOR = 2;

    private static final int TOP = 0;
    private static final int INT = 1;
    private static final int FLOAT = 2;
    private static final int DOUBLE = 3;
    private static final int LONG = 4;
    private static final int NULL = 5;
    private static final int RAW_THIS = 6;
    private static final int OBJECT = 7;
    private static final int RAW = 8;
    /** Stands where a TYPE is asked for and none is there; its kind is that of no TYPE. */
    private static final int NOTHING = -1;

    private static final int NOP = 0;
    private static final int LAST_CONSTANT = 5;
    private static final int POP = 6;
    private static final int POP_BOTH = 7;
    private static final int DUP = 8;
    private static final int SWAP = 9;
    private static final int FIRST_SUM = 10;
    private static final int LAST_SUM = 13;
    private static final int INT_TO_LONG = 14;
    private static final int LONG_TO_INT = 15;
    private static final int INT_TO_DOUBLE = 16;
    private static final int DOUBLE_TO_INT = 17;
    private static final int RETURN = 18;
    private static final int RETURN_INT = 19;
    private static final int THROW = 20;
    private static final int FIRST_LOAD = 21;
    private static final int LAST_LOAD = 25;
    private static final int FIRST_STORE = 26;
    private static final int LAST_STORE = 30;
    private static final int GOTO = 31;
    private static final int IF_INT = 32;
    private static final int IF_NULL = 33;
    private static final int IF_SAME = 34;
    private static final int NEW = 35;
    private static final int INIT = 36;
    private static final int CALL = 37;
    private static final int GET = 38;
    private static final int CAST = 39;

    /** The kinds of the sums, the LOADS and the STORES, in their order; OBJECT is for all references. */
    private static final int[] KINDS = {INT, LONG, FLOAT, DOUBLE, OBJECT};

    /** The numbers of the questions that follow those for LOCALS (0 on) and for the STACK (10 on). */
    private static final int ASK_STACK = LOCALS;
    private static final int ASK_DEPTH = 20;
    private static final int ASK_RAW_OR_OFFSET = 21;
    private static final int ASK_FIRST_BYTE = 22;

    /** The numbers that the bytes of a row begin with. */
    private static final int SHORT_DELTAS = 64;
    private static final int FIRST_UNUSED = 128;
    private static final int ONE_ON_STACK = 247;
    private static final int SAME_LIST = 251;
    private static final int WHOLE = 255;
    private static final int MOST_SHORTENED = 3;

    private final Family family;
    private final Program program;
    private final Bytes bytes;
    private final Flow flow;
    private final Writer writer;
    private final Reader reader;
    private final Checker checker;

    public MapForge() {
        family = new Family();
        program = new Program();
        bytes = new Bytes();
        Machine machine = new Machine(family, program);
        flow = new Flow(family, program, machine);
        writer = new Writer(program, flow);
        reader = new Reader(program, bytes);
        checker = new Checker(family, program, machine, reader);
    }

    public boolean type(int c, int above, boolean face) {
        if (c < 1 || c >= CLASSES || above < 0 || above >= c) {
            return false;
        }
        family.describe(c, above, face);
        forgetFindings();
        return true;
    }

    public boolean method(int own, int mode, boolean gives) {
        if (!isClass(own) || mode < STATIC || mode > CONSTRUCTOR) {
            return false;
        }
        program.begin(own, mode, gives);
        forgetFindings();
        return true;
    }

    public int argument(int type) {
        boolean plain = type >= INT && type <= LONG;
        boolean object = type >= 0 && kindOf(type) == OBJECT && isClass(partOf(type));
        if (!plain && !object) {
            return REFUSED;
        }
        if (program.argumentCount == MOST_ARGUMENTS) {
            return FULL;
        }
        program.arguments[program.argumentCount] = type;
        program.argumentCount++;
        forgetFindings();
        return program.argumentCount;
    }

    public int add(int op, int a, int b) {
        if (!isInstruction(op, a, b)) {
            return REFUSED;
        }
        if (program.size == MOST_PLACES) {
            return FULL;
        }
        program.size++;
        program.write(program.size - 1, op, a, b);
        forgetFindings();
        return program.size;
    }

    public boolean change(int i, int op, int a, int b) {
        if (i < 0 || i >= program.size || !isInstruction(op, a, b)) {
            return false;
        }
        program.write(i, op, a, b);
        forgetFindings();
        return true;
    }

    public int handle(int from, int to, int at, int c) {
        if (!isPlace(from) || !isPlace(at) || to <= from || to > MOST_PLACES || !isClass(c)) {
            return REFUSED;
        }
        if (program.handlers == MOST_HANDLERS) {
            return FULL;
        }
        program.guard(from, to, at, c);
        forgetFindings();
        return program.handlers;
    }

    public int make() {
        if (!flow.isRight()) {
            return WRONG;
        }
        int rows = writer.writeRows();
        if (writer.written.size > MOST_BYTES) {
            return FULL;
        }
        bytes.takeOver(writer.written);
        reader.known = false;
        return rows;
    }

    public int flow(int p, int what) {
        if (!isQuestion(what, ASK_RAW_OR_OFFSET)) {
            return REFUSED;
        }
        if (p < 0 || p >= program.size || !flow.isRight()) {
            return NONE;
        }
        return flow.frames[p].tell(what);
    }

    public int check() {
        if (program.size == 0) {
            return WRONG;
        }
        return reader.isSound() ? checker.firstBad() : BROKEN;
    }

    public int map(int k) {
        if (k == -1) {
            return bytes.size;
        }
        return k >= 0 && k < bytes.size ? bytes.cells[k] : NONE;
    }

    public boolean patch(int k, int b) {
        if (k < 0 || k > bytes.size || k >= MOST_BYTES || b < 0 || b > 255) {
            return false;
        }
        bytes.cells[k] = b;
        bytes.size = Math.max(bytes.size, k + 1);
        reader.known = false;
        return true;
    }

    public int cut(int n) {
        if (n < 0 || n > bytes.size) {
            return REFUSED;
        }
        int gone = bytes.size - n;
        bytes.size = n;
        reader.known = false;
        return gone;
    }

    public int row(int i, int what) {
        if (!isQuestion(what, ASK_FIRST_BYTE)) {
            return REFUSED;
        }
        if (i < 0 || !reader.isSound() || i >= reader.rows) {
            return NONE;
        }
        if (what == ASK_RAW_OR_OFFSET) {
            return reader.offsets[i];
        }
        return what == ASK_FIRST_BYTE ? reader.firstBytes[i] : reader.frames[i].tell(what);
    }

    public int code(int i, int what) {
        if (what < 0 || what > 3) {
            return REFUSED;
        }
        if (i < 0 || i >= program.size) {
            return NONE;
        }
        switch (what) {
            case 0:
                return program.ops[i];
            case 1:
                return program.as[i];
            case 2:
                return program.bs[i];
            default:
                return program.offsets[i];
        }
    }

    public int count(int what) {
        switch (what) {
            case 0:
                return program.size;
            case 1:
                return program.handlers;
            case 2:
                return program.argumentCount;
            case 3:
                return program.offsets[program.size];
            case 4:
                return reader.isSound() ? reader.rows : BROKEN;
            default:
                return REFUSED;
        }
    }

    /** The rows hang on the METHOD, too: on its FIRST FRAME and on the OFFSETS of its PLACES. */
    private void forgetFindings() {
        flow.known = false;
        reader.known = false;
    }

    private static boolean isClass(int c) {
        return c >= 0 && c < CLASSES;
    }

    private static boolean isPlace(int p) {
        return p >= 0 && p < MOST_PLACES;
    }

    private static boolean isQuestion(int what, int last) {
        return what >= 0 && what < ASK_STACK + SLOTS || what >= ASK_DEPTH && what <= last;
    }

    private static boolean isInstruction(int op, int a, int b) {
        if (op < NOP || op > CAST) {
            return false;
        }
        if (hasLocal(op)) {
            return a >= 0 && a <= LOCALS - widthOf(localKindOf(op));
        }
        if (isJump(op)) {
            return isPlace(b);
        }
        return op < NEW || isClass(a) && (op != GET || isClass(b));
    }

    private static boolean hasLocal(int op) {
        return op >= FIRST_LOAD && op <= LAST_STORE;
    }

    private static boolean isJump(int op) {
        return op >= GOTO && op <= IF_SAME;
    }

    /** Whether the next INSTRUCTION may not come behind it. */
    private static boolean isEnd(int op) {
        return op >= RETURN && op <= THROW || op == GOTO;
    }

    /** The kind that a LOAD or a STORE moves. */
    private static int localKindOf(int op) {
        return KINDS[op <= LAST_LOAD ? op - FIRST_LOAD : op - FIRST_STORE];
    }

    private static int lengthOf(int op) {
        if (op <= THROW) {
            return 1;
        }
        return op <= LAST_STORE ? 2 : 3;
    }

    private static int kindOf(int type) {
        return type & 15;
    }

    private static int partOf(int type) {
        return type >> 4;
    }

    private static int typeOf(int kind, int part) {
        return 16 * part + kind;
    }

    private static int widthOf(int type) {
        return type == DOUBLE || type == LONG ? 2 : 1;
    }

    /** The s of the document: what takes one SLOT, and is no TOP. */
    private static boolean isSmall(int type) {
        int kind = kindOf(type);
        return kind == INT || kind == FLOAT || kind >= NULL && kind <= RAW;
    }

    private static boolean isOfKind(int type, int kind) {
        if (kind != OBJECT) {
            return type == kind;
        }
        return kindOf(type) >= NULL && kindOf(type) <= RAW;
    }

    private static boolean isObjectOrNull(int type) {
        return type == NULL || kindOf(type) == OBJECT;
    }

    /** The CLASSES, and what hangs on them: IS, JOIN and FITS. */
    private static final class Family {
        private final int[] above = new int[CLASSES];
        private final boolean[] face = new boolean[CLASSES];
        /** The LINE of each CLASS, a bit for each CLASS in it. */
        private final int[] line = new int[CLASSES];

        Family() {
            for (int c = 0; c < CLASSES; c++) {
                line[c] = 1 | 1 << c;
            }
        }

        void describe(int c, int superOfIt, boolean isFace) {
            above[c] = superOfIt;
            face[c] = isFace;
            // A SUPER has the lesser number, so its LINE is ready when that of c is made.
            for (int d = c; d < CLASSES; d++) {
                line[d] = line[above[d]] | 1 << d;
            }
        }

        boolean isAbove(int c, int d) {
            return d > 0 && above[d] == c;
        }

        boolean is(int x, int y) {
            if (x == y || y == TOP) {
                return true;
            }
            if (kindOf(y) != OBJECT) {
                return false;
            }
            int c = partOf(y);
            return x == NULL || kindOf(x) == OBJECT && (face[c] || (line[partOf(x)] >> c & 1) == 1);
        }

        int join(int x, int y) {
            if (x == y) {
                return x;
            }
            if (!isObjectOrNull(x) || !isObjectOrNull(y)) {
                return TOP;
            }
            if (x == NULL || y == NULL) {
                return x == NULL ? y : x;
            }
            int c = partOf(x);
            for (int step = 0; step < CLASSES && (line[partOf(y)] >> c & 1) == 0; step++) {
                c = above[c];
            }
            return typeOf(OBJECT, c);
        }

        boolean fits(Frame frame, Frame row) {
            if (frame.raw != row.raw || frame.depth != row.depth) {
                return false;
            }
            for (int i = 0; i < LOCALS; i++) {
                if (!is(frame.locals[i], row.locals[i])) {
                    return false;
                }
            }
            for (int i = 0; i < frame.depth; i++) {
                if (!is(frame.stack[i], row.stack[i])) {
                    return false;
                }
            }
            return true;
        }
    }

    /** THE METHOD with its ARGUMENTS, CODE and HANDLERS. */
    private static final class Program {
        int own;
        int mode;
        boolean gives;
        final int[] arguments = new int[MOST_ARGUMENTS];
        int argumentCount;
        final int[] ops = new int[MOST_PLACES];
        final int[] as = new int[MOST_PLACES];
        final int[] bs = new int[MOST_PLACES];
        /** One more than there are PLACES: behind the last one stands how long the CODE is. */
        final int[] offsets = new int[MOST_PLACES + 1];
        int size;
        final int[] from = new int[MOST_HANDLERS];
        final int[] to = new int[MOST_HANDLERS];
        final int[] at = new int[MOST_HANDLERS];
        final int[] caught = new int[MOST_HANDLERS];
        int handlers;

        void begin(int ofClass, int inMode, boolean givesInt) {
            own = ofClass;
            mode = inMode;
            gives = givesInt && inMode != CONSTRUCTOR;
            argumentCount = 0;
            size = 0;
            handlers = 0;
        }

        /** What an op has not is 0 in its stead. */
        void write(int i, int op, int a, int b) {
            ops[i] = op;
            as[i] = hasLocal(op) || op >= NEW ? a : 0;
            bs[i] = isJump(op) || op == GET ? b : 0;
            for (int p = i; p < size; p++) {
                offsets[p + 1] = offsets[p] + lengthOf(ops[p]);
            }
        }

        void guard(int first, int end, int place, int c) {
            from[handlers] = first;
            to[handlers] = end;
            at[handlers] = place;
            caught[handlers] = c;
            handlers++;
        }

        boolean isGuarded(int p, int handler) {
            return p >= from[handler] && p < to[handler];
        }

        /** The PLACE at this OFFSET, or NONE. */
        int placeAt(int offset) {
            for (int p = 0; p < size; p++) {
                if (offsets[p] == offset) {
                    return p;
                }
            }
            return NONE;
        }

        /** Tells for each PLACE whether it has a row in THE MAP. */
        void markRows(boolean[] marks) {
            for (int p = 0; p < MOST_PLACES; p++) {
                marks[p] = p > 0 && p < size && isEnd(ops[p - 1]);
            }
            for (int p = 0; p < size; p++) {
                if (isJump(ops[p])) {
                    marks[bs[p]] = true;
                }
            }
            for (int h = 0; h < handlers; h++) {
                marks[at[h]] = true;
            }
        }

        void enter(Frame frame) {
            Arrays.fill(frame.locals, TOP);
            frame.emptyStack();
            frame.raw = mode == CONSTRUCTOR;
            int local = 0;
            if (mode != STATIC) {
                frame.locals[0] = frame.raw ? RAW_THIS : typeOf(OBJECT, own);
                local = 1;
            }
            for (int i = 0; i < argumentCount; i++) {
                frame.locals[local] = arguments[i];
                local += widthOf(arguments[i]);
            }
        }
    }

    /** A FRAME. */
    private static final class Frame {
        final int[] locals = new int[LOCALS];
        final int[] stack = new int[SLOTS];
        /** How many TYPES the STACK has. */
        int depth;
        /** How many SLOTS they take. */
        private int slots;
        /** Whether THIS IS RAW. */
        boolean raw;

        void takeOver(Frame other) {
            System.arraycopy(other.locals, 0, locals, 0, LOCALS);
            System.arraycopy(other.stack, 0, stack, 0, other.depth);
            depth = other.depth;
            slots = other.slots;
            raw = other.raw;
        }

        /** This FRAME becomes the one in which a HANDLER of CLASS c begins. */
        void takeOverForHandler(Frame other, int c) {
            takeOver(other);
            emptyStack();
            push(typeOf(OBJECT, c));
        }

        void emptyStack() {
            depth = 0;
            slots = 0;
        }

        /** False if there is no room for it. */
        boolean push(int type) {
            int width = widthOf(type);
            if (slots + width > SLOTS) {
                return false;
            }
            stack[depth] = type;
            depth++;
            slots += width;
            return true;
        }

        /** The TYPE that has so many above it on the STACK, or NOTHING. */
        int peek(int above) {
            return above < depth ? stack[depth - 1 - above] : NOTHING;
        }

        void drop() {
            if (depth > 0) {
                depth--;
                slots -= widthOf(stack[depth]);
            }
        }

        /** Takes just this TYPE from the top; false if it is not there. */
        boolean take(int type) {
            if (peek(0) != type) {
                return false;
            }
            drop();
            return true;
        }

        void swap() {
            if (depth > 1) {
                int top = stack[depth - 1];
                stack[depth - 1] = stack[depth - 2];
                stack[depth - 2] = top;
            }
        }

        void store(int local, int type) {
            if (local > 0 && widthOf(locals[local - 1]) == 2) {
                locals[local - 1] = TOP;
            }
            locals[local] = type;
            if (widthOf(type) == 2 && local + 1 < LOCALS) {
                locals[local + 1] = TOP;
            }
        }

        void replaceAll(int type, int by) {
            for (int i = 0; i < LOCALS; i++) {
                if (locals[i] == type) {
                    locals[i] = by;
                }
            }
            for (int i = 0; i < depth; i++) {
                if (stack[i] == type) {
                    stack[i] = by;
                }
            }
        }

        boolean hasRawThisInLocal() {
            for (int i = 0; i < LOCALS; i++) {
                if (locals[i] == RAW_THIS) {
                    return true;
                }
            }
            return false;
        }

        /** The answer to a question that is one. */
        int tell(int what) {
            if (what < ASK_STACK) {
                return locals[what];
            }
            if (what < ASK_STACK + SLOTS) {
                return what - ASK_STACK < depth ? stack[what - ASK_STACK] : NONE;
            }
            if (what == ASK_DEPTH) {
                return depth;
            }
            return raw ? 1 : 0;
        }
    }

    /** What each INSTRUCTION takes and leaves: one for THE FLOW and THE CHECK. */
    private static final class Machine {
        private final Family family;
        private final Program program;

        Machine(Family family, Program program) {
            this.family = family;
            this.program = program;
        }

        /** False if the INSTRUCTION does not have what it takes, or there are too many SLOTS. */
        boolean step(int place, Frame frame) {
            int op = program.ops[place];
            if (op <= LAST_SUM) {
                return stepOnStack(op, frame);
            }
            if (op <= THROW) {
                return stepToOther(op, frame);
            }
            if (op <= LAST_LOAD) {
                int type = frame.locals[program.as[place]];
                return isOfKind(type, localKindOf(op)) && frame.push(type);
            }
            if (op <= LAST_STORE) {
                return stepStore(op, program.as[place], frame);
            }
            return op <= IF_SAME ? stepJump(op, frame) : stepObject(place, frame);
        }

        private boolean stepOnStack(int op, Frame frame) {
            if (op == NOP) {
                return true;
            }
            if (op <= LAST_CONSTANT) {
                // The numbers of these ops are those of the TYPES that come.
                return frame.push(op);
            }
            if (op >= FIRST_SUM) {
                int kind = KINDS[op - FIRST_SUM];
                return frame.take(kind) && frame.take(kind) && frame.push(kind);
            }
            int x = frame.peek(0);
            if (op == POP_BOTH && widthOf(x) == 2) {
                frame.drop();
                return true;
            }
            if (!isSmall(x)) {
                return false;
            }
            return op == POP || op == DUP ? stepOne(op, x, frame) : stepTwo(op, frame);
        }

        private boolean stepOne(int op, int x, Frame frame) {
            if (op == DUP) {
                return frame.push(x);
            }
            frame.drop();
            return true;
        }

        private boolean stepTwo(int op, Frame frame) {
            if (!isSmall(frame.peek(1))) {
                return false;
            }
            if (op == SWAP) {
                frame.swap();
            } else {
                frame.drop();
                frame.drop();
            }
            return true;
        }

        /** The changes of TYPE and the ways out of the METHOD. */
        private boolean stepToOther(int op, Frame frame) {
            switch (op) {
                case INT_TO_LONG:
                    return frame.take(INT) && frame.push(LONG);
                case LONG_TO_INT:
                    return frame.take(LONG) && frame.push(INT);
                case INT_TO_DOUBLE:
                    return frame.take(INT) && frame.push(DOUBLE);
                case DOUBLE_TO_INT:
                    return frame.take(DOUBLE) && frame.push(INT);
                case RETURN:
                    return !program.gives && !(program.mode == CONSTRUCTOR && frame.raw);
                case RETURN_INT:
                    return program.gives && frame.take(INT);
                default:
                    return family.is(frame.peek(0), OBJECT);
            }
        }

        private boolean stepStore(int op, int local, Frame frame) {
            int type = frame.peek(0);
            if (!isOfKind(type, localKindOf(op))) {
                return false;
            }
            frame.drop();
            frame.store(local, type);
            return true;
        }

        private boolean stepJump(int op, Frame frame) {
            if (op == GOTO) {
                return true;
            }
            if (op == IF_INT) {
                return frame.take(INT);
            }
            if (!isObjectOrNull(frame.peek(0)) || op == IF_SAME && !isObjectOrNull(frame.peek(1))) {
                return false;
            }
            frame.drop();
            if (op == IF_SAME) {
                frame.drop();
            }
            return true;
        }

        private boolean stepObject(int place, Frame frame) {
            int op = program.ops[place];
            int a = program.as[place];
            if (op == NEW) {
                return frame.push(typeOf(RAW, program.offsets[place]));
            }
            int x = frame.peek(0);
            if (op == INIT) {
                return stepInit(a, x, frame);
            }
            if (!family.is(x, typeOf(OBJECT, op == CAST ? 0 : a))) {
                return false;
            }
            frame.drop();
            if (op == CALL) {
                return frame.push(INT);
            }
            return frame.push(typeOf(OBJECT, op == GET ? program.bs[place] : a));
        }

        private boolean stepInit(int a, int x, Frame frame) {
            if (x == RAW_THIS && (a == program.own || family.isAbove(a, program.own))) {
                frame.drop();
                frame.replaceAll(x, typeOf(OBJECT, program.own));
                frame.raw = false;
                return true;
            }
            if (kindOf(x) != RAW) {
                return false;
            }
            int born = program.placeAt(partOf(x));
            if (born == NONE || program.ops[born] != NEW || program.as[born] != a) {
                return false;
            }
            frame.drop();
            frame.replaceAll(x, typeOf(OBJECT, a));
            return true;
        }
    }

    /** THE FLOW. */
    private static final class Flow {
        /**
         * In each round but the last some FRAME goes up; each of the 50 has 18 TYPES, that can go
         * up some ten times each.
         */
        private static final int MOST_ROUNDS = 100000;

        private final Family family;
        private final Program program;
        private final Machine machine;
        final Frame[] frames = new Frame[MOST_PLACES];
        final boolean[] rowHere = new boolean[MOST_PLACES];
        private final boolean[] reached = new boolean[MOST_PLACES];
        /** PLACES whose FRAME is new since what they leave was last passed on. */
        private final boolean[] waiting = new boolean[MOST_PLACES];
        private final Frame work = new Frame();
        /** Whether what is held here is of the METHOD as it is now. */
        boolean known;
        private boolean right;

        Flow(Family family, Program program, Machine machine) {
            this.family = family;
            this.program = program;
            this.machine = machine;
            for (int p = 0; p < MOST_PLACES; p++) {
                frames[p] = new Frame();
            }
        }

        /** Whether the METHOD is not WRONG; its FRAMES are found then. */
        boolean isRight() {
            if (known) {
                return right;
            }
            known = true;
            right = false;
            begin();
            boolean more = true;
            for (int round = 0; more && round < MOST_ROUNDS; round++) {
                more = false;
                for (int p = 0; p < program.size; p++) {
                    if (waiting[p]) {
                        waiting[p] = false;
                        more = true;
                        if (!leaveToHandlers(p) || !leave(p)) {
                            return false;
                        }
                    }
                }
            }
            right = isWhole();
            return right;
        }

        private void begin() {
            for (int p = 0; p < MOST_PLACES; p++) {
                reached[p] = false;
                waiting[p] = false;
            }
            program.enter(work);
            arrive(0, work);
        }

        private boolean leaveToHandlers(int p) {
            for (int h = 0; h < program.handlers; h++) {
                if (program.isGuarded(p, h)) {
                    work.takeOverForHandler(frames[p], program.caught[h]);
                    if (!arrive(program.at[h], work)) {
                        return false;
                    }
                }
            }
            return true;
        }

        private boolean leave(int p) {
            work.takeOver(frames[p]);
            if (!machine.step(p, work)) {
                return false;
            }
            int op = program.ops[p];
            if (isJump(op) && !arrive(program.bs[p], work)) {
                return false;
            }
            return isEnd(op) || arrive(p + 1, work);
        }

        /** False if the PLACE is not there, or the STACKS do not JOIN. */
        private boolean arrive(int p, Frame frame) {
            if (p >= program.size) {
                return false;
            }
            if (reached[p]) {
                return joinAt(p, frame);
            }
            reached[p] = true;
            waiting[p] = true;
            frames[p].takeOver(frame);
            return true;
        }

        private boolean joinAt(int p, Frame frame) {
            Frame held = frames[p];
            if (held.depth != frame.depth) {
                return false;
            }
            if (frame.raw && !held.raw) {
                held.raw = true;
                waiting[p] = true;
            }
            for (int i = 0; i < LOCALS; i++) {
                int joined = family.join(held.locals[i], frame.locals[i]);
                waiting[p] |= joined != held.locals[i];
                held.locals[i] = joined;
            }
            for (int i = 0; i < held.depth; i++) {
                int joined = family.join(held.stack[i], frame.stack[i]);
                if (joined == TOP) {
                    return false;
                }
                waiting[p] |= joined != held.stack[i];
                held.stack[i] = joined;
            }
            return true;
        }

        /** There are PLACES, all come to, and where a row is, its LOCALS tell that THIS IS RAW. */
        private boolean isWhole() {
            program.markRows(rowHere);
            for (int p = 0; p < program.size; p++) {
                if (!reached[p] || rowHere[p] && frames[p].raw && !frames[p].hasRawThisInLocal()) {
                    return false;
                }
            }
            return program.size > 0;
        }
    }

    /** The LOCALS as a row has them: a WIDE TYPE and the TOP behind it are one. */
    private static final class TypeList {
        final int[] types = new int[LOCALS];
        int size;
        /** How many LOCALS they take. */
        private int width;

        void empty() {
            size = 0;
            width = 0;
        }

        /** False if there are not so many LOCALS. */
        boolean append(int type) {
            int wide = widthOf(type);
            if (width + wide > LOCALS) {
                return false;
            }
            types[size] = type;
            size++;
            width += wide;
            return true;
        }

        void drop() {
            if (size > 0) {
                size--;
                width -= widthOf(types[size]);
            }
        }

        void takeOver(TypeList other) {
            System.arraycopy(other.types, 0, types, 0, other.size);
            size = other.size;
            width = other.width;
        }

        /** Takes the LOCALS of a FRAME, without the TOPS at the end. */
        void gather(Frame frame) {
            empty();
            for (int i = 0; i < LOCALS; i += widthOf(frame.locals[i])) {
                append(frame.locals[i]);
            }
            for (int i = 0; i < LOCALS && size > 0 && types[size - 1] == TOP; i++) {
                drop();
            }
        }

        void spread(Frame frame) {
            Arrays.fill(frame.locals, TOP);
            int local = 0;
            for (int i = 0; i < size; i++) {
                frame.locals[local] = types[i];
                local += widthOf(types[i]);
            }
        }

        /** How many TYPES from the first on are the same in both. */
        int sharedStart(TypeList other) {
            int shared = 0;
            while (shared < size && shared < other.size && types[shared] == other.types[shared]) {
                shared++;
            }
            return shared;
        }
    }

    /** The bytes of a MAP. */
    private static final class Bytes {
        final int[] cells = new int[MOST_BYTES];
        int size;

        /** Counts on where there is no room, so that the size tells how many there would be. */
        void put(int b) {
            if (size < MOST_BYTES) {
                cells[size] = b;
            }
            size++;
        }

        void putTwo(int number) {
            put(number >> 8 & 255);
            put(number & 255);
        }

        void putType(int type) {
            int kind = kindOf(type);
            put(kind);
            if (kind == OBJECT || kind == RAW) {
                putTwo(partOf(type));
            }
        }

        /** Not for one that has counted on. */
        void takeOver(Bytes other) {
            size = Math.min(other.size, MOST_BYTES);
            System.arraycopy(other.cells, 0, cells, 0, size);
        }
    }

    /** Writes the rows of THE FLOW, apart from THE MAP, which may have to stay as it is. */
    private static final class Writer {
        private final Program program;
        private final Flow flow;
        private final Frame first = new Frame();
        private final TypeList before = new TypeList();
        private final TypeList list = new TypeList();
        final Bytes written = new Bytes();

        Writer(Program program, Flow flow) {
            this.program = program;
            this.flow = flow;
        }

        /** How many rows there are; the METHOD is not WRONG. */
        int writeRows() {
            program.enter(first);
            before.gather(first);
            written.size = 0;
            int rows = 0;
            // With -1 the DELTA of the first row is its OFFSET.
            int offsetBefore = -1;
            for (int p = 0; p < program.size; p++) {
                if (flow.rowHere[p]) {
                    list.gather(flow.frames[p]);
                    writeRow(flow.frames[p], program.offsets[p] - offsetBefore - 1);
                    before.takeOver(list);
                    offsetBefore = program.offsets[p];
                    rows++;
                }
            }
            return rows;
        }

        private void writeRow(Frame frame, int delta) {
            int shared = list.sharedStart(before);
            int more = list.size - before.size;
            boolean same = more == 0 && shared == list.size;
            boolean near = Math.abs(more) <= MOST_SHORTENED && shared == Math.min(list.size, before.size);
            if (same && frame.depth == 0) {
                writeHead(0, SAME_LIST, delta);
            } else if (same && frame.depth == 1) {
                writeHead(SHORT_DELTAS, ONE_ON_STACK, delta);
                written.putType(frame.stack[0]);
            } else if (near && frame.depth == 0) {
                written.put(SAME_LIST + more);
                written.putTwo(delta);
                writeTypes(list.types, before.size, list.size);
            } else {
                writeWhole(frame, delta);
            }
        }

        private void writeHead(int base, int wideHead, int delta) {
            if (delta < SHORT_DELTAS) {
                written.put(base + delta);
            } else {
                written.put(wideHead);
                written.putTwo(delta);
            }
        }

        private void writeWhole(Frame frame, int delta) {
            written.put(WHOLE);
            written.putTwo(delta);
            written.putTwo(list.size);
            writeTypes(list.types, 0, list.size);
            written.putTwo(frame.depth);
            writeTypes(frame.stack, 0, frame.depth);
        }

        private void writeTypes(int[] types, int from, int to) {
            for (int i = from; i < to; i++) {
                written.putType(types[i]);
            }
        }
    }

    /** Reads the bytes of THE MAP as rows. */
    private static final class Reader {
        private final Program program;
        private final Bytes bytes;
        private final Frame first = new Frame();
        private final TypeList list = new TypeList();
        final Frame[] frames = new Frame[MOST_PLACES];
        final int[] offsets = new int[MOST_PLACES];
        final int[] firstBytes = new int[MOST_PLACES];
        /** The number of the row of each PLACE, or NONE. */
        final int[] rowAt = new int[MOST_PLACES];
        int rows;
        /** Whether what is held here is of the MAP and the METHOD as they are now. */
        boolean known;
        private boolean sound;
        private int next;

        Reader(Program program, Bytes bytes) {
            this.program = program;
            this.bytes = bytes;
            for (int i = 0; i < MOST_PLACES; i++) {
                frames[i] = new Frame();
            }
        }

        /** Whether the bytes are rows. */
        boolean isSound() {
            if (known) {
                return sound;
            }
            known = true;
            sound = false;
            begin();
            int offset = -1;
            while (rows < MOST_PLACES && next < bytes.size) {
                if (!readRow(frames[rows])) {
                    return false;
                }
                offset += offsets[rows] + 1;
                int place = program.placeAt(offset);
                if (place == NONE) {
                    return false;
                }
                offsets[rows] = offset;
                rowAt[place] = rows;
                rows++;
            }
            // OFFSETS rise, so there can be no more rows than PLACES.
            sound = next == bytes.size;
            return sound;
        }

        private void begin() {
            program.enter(first);
            list.gather(first);
            Arrays.fill(rowAt, NONE);
            rows = 0;
            next = 0;
        }

        /** Leaves the DELTA where the OFFSET of the row comes to stand. */
        private boolean readRow(Frame frame) {
            int head = readByte();
            firstBytes[rows] = head;
            frame.emptyStack();
            boolean right;
            if (head < FIRST_UNUSED) {
                offsets[rows] = head % SHORT_DELTAS;
                right = readStack(frame, head / SHORT_DELTAS);
            } else if (head < ONE_ON_STACK) {
                right = false;
            } else {
                offsets[rows] = readTwo();
                right = offsets[rows] >= 0 && readRest(head, frame);
            }
            list.spread(frame);
            frame.raw = frame.hasRawThisInLocal();
            return right;
        }

        /** What stands behind a DELTA in two bytes. */
        private boolean readRest(int head, Frame frame) {
            if (head == ONE_ON_STACK) {
                return readStack(frame, 1);
            }
            if (head == WHOLE) {
                list.empty();
                return readList(readTwo()) && readStack(frame, readTwo());
            }
            return head < SAME_LIST ? shorten(SAME_LIST - head) : readList(head - SAME_LIST);
        }

        private boolean shorten(int howMany) {
            if (howMany > list.size) {
                return false;
            }
            for (int i = 0; i < howMany; i++) {
                list.drop();
            }
            return true;
        }

        private boolean readList(int howMany) {
            for (int i = 0; i < howMany; i++) {
                int type = readType();
                if (type == NOTHING || !list.append(type)) {
                    return false;
                }
            }
            return howMany >= 0;
        }

        private boolean readStack(Frame frame, int howMany) {
            for (int i = 0; i < howMany; i++) {
                int type = readType();
                if (type == NOTHING || !frame.push(type)) {
                    return false;
                }
            }
            return howMany >= 0;
        }

        /** A TYPE, or NOTHING if the bytes are none. */
        private int readType() {
            int kind = readByte();
            if (kind < TOP || kind > RAW) {
                return NOTHING;
            }
            if (kind < OBJECT) {
                return kind;
            }
            int part = readTwo();
            if (part < 0 || kind == OBJECT && !isClass(part)) {
                return NOTHING;
            }
            return typeOf(kind, part);
        }

        /** Below 0 if bytes are missing. */
        private int readTwo() {
            int high = readByte();
            int low = readByte();
            return high < 0 || low < 0 ? NOTHING : high << 8 | low;
        }

        /** Below 0 if the byte is missing. */
        private int readByte() {
            if (next >= bytes.size) {
                return NOTHING;
            }
            next++;
            return bytes.cells[next - 1];
        }
    }

    /** THE CHECK. */
    private static final class Checker {
        private final Family family;
        private final Program program;
        private final Machine machine;
        private final Reader reader;
        private final Frame now = new Frame();
        private final Frame thrown = new Frame();

        Checker(Family family, Program program, Machine machine, Reader reader) {
            this.family = family;
            this.program = program;
            this.machine = machine;
            this.reader = reader;
        }

        /** The first PLACE that is BAD, or NONE; the MAP is not BROKEN. */
        int firstBad() {
            program.enter(now);
            boolean open = true;
            for (int p = 0; p < program.size; p++) {
                if (!begins(p, open) || !handlersFit(p) || !machine.step(p, now) || !jumpFits(p)) {
                    return p;
                }
                open = !isEnd(program.ops[p]);
            }
            return open ? program.size : NONE;
        }

        /** The FRAME of the row holds from here on; open tells whether one may come from before. */
        private boolean begins(int p, boolean open) {
            int row = reader.rowAt[p];
            if (row == NONE) {
                return open;
            }
            if (open && !family.fits(now, reader.frames[row])) {
                return false;
            }
            now.takeOver(reader.frames[row]);
            return true;
        }

        private boolean handlersFit(int p) {
            for (int h = 0; h < program.handlers; h++) {
                if (program.isGuarded(p, h)) {
                    thrown.takeOverForHandler(now, program.caught[h]);
                    if (!fitsAt(program.at[h], thrown)) {
                        return false;
                    }
                }
            }
            return true;
        }

        private boolean jumpFits(int p) {
            return !isJump(program.ops[p]) || fitsAt(program.bs[p], now);
        }

        private boolean fitsAt(int p, Frame frame) {
            int row = reader.rowAt[p];
            return row != NONE && family.fits(frame, reader.frames[row]);
        }
    }
}
