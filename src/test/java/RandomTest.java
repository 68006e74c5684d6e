import java.util.Random;

/** Runs of chance, the same ones each time: the program and the Model have to answer alike. */
public final class RandomTest {
    private static final int RUNS = 4000;
    /** What an object answers behind so many calls is free. */
    private static final int MOST_CALLS = 512;
    private static final Due DUE = new Due("all promises, runs of chance");

    private final Random chance;
    private final int run;
    private final MapForge x = new MapForge();
    private final Model model = new Model();
    private int calls;
    private static int made;
    private static int soundRows;
    private static int badPlaces;

    private RandomTest(int run) {
        this.run = run;
        chance = new Random(run);
    }

    public static void main(String[] args) {
        for (int run = 0; run < RUNS; run++) {
            new RandomTest(run).go();
        }
        // Chance that meets only what is WRONG would test nothing.
        DUE.is("enough METHODS are right: " + made, made > RUNS / 4, true);
        DUE.is("enough changed bytes are rows: " + soundRows, soundRows > RUNS / 4, true);
        DUE.is("enough changed bytes are BAD: " + badPlaces, badPlaces > RUNS / 4, true);
        DUE.end("RandomTest");
    }

    private void go() {
        for (int k = 0; k < 4; k++) {
            type(number(0, 8), number(-1, 6), chance.nextInt(3) == 0);
        }
        for (int round = 0; round < 2 && calls < MOST_CALLS / 2; round++) {
            method(number(0, 7), number(0, 2), chance.nextBoolean());
            for (int k = chance.nextInt(5); k > 0; k--) {
                argument();
            }
            if (chance.nextInt(3) == 0) {
                code();
                guard(number(0, model.code.size()));
            } else {
                parts();
            }
            answers();
            for (int k = 0; k < 4; k++) {
                upset();
                check();
            }
            strange();
        }
    }

    private int number(int least, int most) {
        return least + chance.nextInt(most - least + 1);
    }

    private void due(String call, int got, int want) {
        calls++;
        if (calls > MOST_CALLS) {
            return;
        }
        DUE.is("run " + run + ", call " + calls + ": " + call, got, want);
    }

    private void due(String call, boolean got, boolean want) {
        due(call, got ? 1 : 0, want ? 1 : 0);
    }

    private void type(int c, int above, boolean face) {
        due("type " + c + " " + above + " " + face, x.type(c, above, face), model.type(c, above, face));
    }

    private void method(int own, int mode, boolean gives) {
        due("method " + own + " " + mode + " " + gives, x.method(own, mode, gives), model.method(own, mode, gives));
    }

    private void argument() {
        int type = chance.nextInt(8) == 0 ? number(-20, 140) : chance.nextBoolean() ? number(1, 4) : 16 * number(0, 7) + 7;
        due("argument " + type, x.argument(type), model.argument(type));
    }

    private void handle(int from, int to, int at, int c) {
        due("handle " + from + " " + to + " " + at + " " + c, x.handle(from, to, at, c), model.handle(from, to, at, c));
    }

    private void add(int op, int a, int b) {
        due("add " + op + " " + a + " " + b, x.add(op, a, b), model.add(op, a, b));
    }

    private void change(int i, int op, int a, int b) {
        due("change " + i + ": " + op + " " + a + " " + b, x.change(i, op, a, b), model.change(i, op, a, b));
    }

    /** INSTRUCTIONS that mostly have what they take, for one who comes from before. */
    private void code() {
        int size = number(2, 48);
        Model.Frame frame = model.firstFrame();
        for (int p = 0; p < size; p++) {
            Model.Frame behind = null;
            add(0, 0, 0);
            int tries = chance.nextInt(40) == 0 ? 1 : 60;
            for (int k = 0; k < tries && behind == null; k++) {
                int op = chance.nextInt(4) == 0 ? number(30, 39) : number(0, 39);
                boolean ends = op >= 18 && op <= 20 || op == 31;
                boolean back = chance.nextInt(4) == 0;
                int b = op == 38 ? number(0, 7) : back ? number(0, p) : number(p + 1, Math.min(p + 6, size));
                if (!ends || op == 31 && b == p + 1) {
                    model.change(p, op, chance.nextInt(10), b);
                    behind = stepped(p, frame);
                }
            }
            Model.Op one = model.code.get(p);
            change(p, one.op(), one.a(), one.b());
            frame = behind == null ? frame : behind;
        }
        add(frame.stack().isEmpty() ? 5 : 0, 0, 0);
        add(number(18, 20), 0, 0);
        if (isWrong()) {
            change(size, 1, 0, 0);
            change(size + 1, 19, 0, 0);
        }
        if (isWrong()) {
            change(size + 1, 18, 0, 0);
        }
        for (int k = 0; k < 40 && isWrong(); k++) {
            int p = chance.nextInt(size);
            int op = opAt(p);
            if (op >= 31 && op <= 34) {
                change(p, op, 0, p + 1);
            }
        }
    }

    private int opAt(int p) {
        return p < model.code.size() ? model.code.get(p).op() : MapForge.NONE;
    }

    private boolean isWrong() {
        int rows = model.make();
        due("make", x.make(), rows);
        return rows == MapForge.WRONG;
    }

    private void guard(int at) {
        for (int k = 0; k < 2 && chance.nextInt(3) == 0; k++) {
            int from = number(0, 20);
            handle(from, number(from, from + 9), at, number(0, 7));
        }
    }

    /** Parts that begin and end with an empty STACK, and go on at one another; a HANDLER at the end. */
    private void parts() {
        Model.Frame frame = model.firstFrame();
        if (frame.raw() && chance.nextInt(4) > 0) {
            frame = put(frame, 25, 0, 0);
            for (int a = 0; a < 8; a++) {
                frame = stack(frame) > 0 ? put(frame, 36, a, 0) : frame;
            }
        }
        int[] starts = new int[5];
        for (int part = 0; part < starts.length; part++) {
            starts[part] = model.code.size();
            for (int k = number(1, 5); k > 0; k--) {
                frame = stack(frame) > 4 ? frame : chosen(frame);
            }
            for (int k = 0; k < 8 && stack(frame) > 0; k++) {
                frame = put(put(frame, 6, 0, 0), 7, 0, 0);
            }
            if (chance.nextInt(3) > 0) {
                frame = put(put(frame, 1, 0, 0), 32, 0, part);
            } else if (chance.nextInt(2) == 0) {
                frame = put(put(frame, 5, 0, 0), 33, 0, part);
            }
        }
        add(1, 0, 0);
        add(number(18, 19), 0, 0);
        int last = model.code.size();
        add(chance.nextBoolean() ? 6 : 20, 0, 0);
        if (opAt(last) == 6) {
            add(31, 0, starts[chance.nextInt(5)]);
        }
        for (int p = 0; p < last; p++) {
            int op = opAt(p);
            if (op == 32 || op == 33) {
                change(p, op, 0, starts[chance.nextInt(5)]);
            }
        }
        int end = number(1, last);
        handle(number(0, end - 1), end, last, number(0, 7));
        if (isWrong()) {
            change(last - 1, 37 - opAt(last - 1), 0, 0);
        }
        isWrong();
    }

    private static int stack(Model.Frame frame) {
        return frame.stack().size();
    }

    /** Puts the INSTRUCTION at the end, if it has what it takes there. */
    private Model.Frame put(Model.Frame frame, int op, int a, int b) {
        int p = model.code.size();
        add(op, a, b);
        Model.Frame behind = p < 50 ? stepped(p, frame) : null;
        if (p < 50 && behind == null) {
            change(p, 0, 0, 0);
        }
        return behind == null ? frame : behind;
    }

    /** LOADS, STORES and what is done with OBJECTS come more often than others. */
    private Model.Frame chosen(Model.Frame frame) {
        Model.Frame behind = frame;
        for (int k = 0; k < 60 && behind == frame; k++) {
            int[] ops = {number(1, 17), 25, 30, number(21, 30), number(35, 39), number(26, 30)};
            int op = ops[chance.nextInt(ops.length)];
            int p = model.code.size();
            int a = chance.nextInt(10);
            if (p < 50 && model.add(op, a, chance.nextInt(8)) > 0) {
                Model.Frame next = stepped(p, frame);
                Model.Op one = model.code.remove(p);
                if (next != null) {
                    add(one.op(), one.a(), one.b());
                    behind = next;
                }
            }
        }
        return behind;
    }

    private Model.Frame stepped(int p, Model.Frame frame) {
        try {
            return model.step(p, frame);
        } catch (Model.Fault fault) {
            return null;
        }
    }

    private void answers() {
        int rows = model.make();
        due("make", x.make(), rows);
        made += rows > 0 ? 1 : 0;
        bytes();
        due("check", x.check(), model.check());
        if (rows >= 0) {
            due("check of what is made", x.check(), MapForge.NONE);
        }
        for (int k = 0; k < 30; k++) {
            int p = number(-1, model.code.size());
            int what = number(-1, 23);
            due("flow " + p + " " + what, x.flow(p, what), model.flow(p, what));
        }
        rows();
        for (int k = 0; k < 10; k++) {
            int i = number(-1, model.code.size());
            int what = number(-1, 4);
            due("code " + i + " " + what, x.code(i, what), model.code(i, what));
        }
        for (int what = -1; what <= 5; what++) {
            due("count " + what, x.count(what), model.count(what));
        }
    }

    private void bytes() {
        for (int k = -2; k <= model.map(-1); k++) {
            due("map " + k, x.map(k), model.map(k));
        }
    }

    private void rows() {
        for (int k = 0; k < 30; k++) {
            int i = number(-1, 5);
            int what = number(-1, 24);
            due("row " + i + " " + what, x.row(i, what), model.row(i, what));
        }
    }

    /** Some bytes, INSTRUCTIONS or CLASSES become others. */
    private void upset() {
        int size = model.map(-1);
        switch (chance.nextInt(7)) {
            case 0, 1, 2:
                int k = number(0, size);
                patch(k, chance.nextBoolean() ? number(0, 9) : number(-1, 256));
                break;
            case 3:
                int n = number(size / 2, size + 1);
                due("cut " + n, x.cut(n), model.cut(n));
                break;
            case 4:
                change(number(0, model.code.size()), number(-1, 40), number(-1, 10), number(-1, 50));
                break;
            case 5:
                type(number(1, 7), number(0, 6), chance.nextBoolean());
                break;
            default:
                argument();
        }
    }

    private void patch(int k, int b) {
        due("patch " + k + " " + b, x.patch(k, b), model.patch(k, b));
    }

    private void check() {
        int bad = model.check();
        due("check", x.check(), bad);
        due("count 4", x.count(4), model.count(4));
        soundRows += bad != MapForge.BROKEN ? 1 : 0;
        badPlaces += bad >= 0 ? 1 : 0;
        rows();
    }

    /** Bytes of chance, in the form of rows as often as not. */
    private void strange() {
        due("cut", x.cut(0), model.cut(0));
        int[] heads = {0, 1, 2, 3, 64, 65, 66, 247, 248, 249, 250, 251, 252, 253, 254, 255};
        for (int k = number(1, 4); k > 0; k--) {
            int head = heads[chance.nextInt(heads.length)];
            patch(model.map(-1), head);
            if (head >= 247) {
                two(number(0, 3));
            }
            types(head == 255 ? 2 : 0, head >= 252 ? (head == 255 ? number(0, 6) : head - 251) : 0);
            types(head == 255 ? 2 : 0, head == 255 ? number(0, 5) : head == 247 || head >= 64 && head < 128 ? 1 : 0);
        }
        check();
        rows();
        due("make", x.make(), model.make());
        due("check", x.check(), model.check());
        bytes();
    }

    private void types(int count, int number) {
        if (count == 2) {
            two(number);
        }
        for (int k = 0; k < number; k++) {
            int kind = chance.nextInt(30) == 0 ? 9 : number(0, 8);
            patch(model.map(-1), kind);
            if (kind == 7 || kind == 8) {
                two(number(0, chance.nextInt(10) == 0 ? 300 : 7));
            }
        }
    }

    private void two(int number) {
        patch(model.map(-1), number / 256);
        patch(model.map(-1), number % 256);
    }
}
