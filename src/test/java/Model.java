import java.util.ArrayList;
import java.util.Collections;
import java.util.List;
import java.util.Objects;
import java.util.TreeMap;

/**
 * The document once more, written apart from the program, as slowly and plainly as the Java library
 * lets it be: the random test holds the program against it.
 */
final class Model {
    record Type(int kind, int part) {
        int told() {
            return 16 * part + kind;
        }

        boolean wide() {
            return kind == 3 || kind == 4;
        }

        boolean s() {
            return kind != 0 && !wide();
        }
    }

    record Op(int op, int a, int b) {
        int length() {
            return op <= 20 ? 1 : op <= 30 ? 2 : 3;
        }

        boolean jump() {
            return op >= 31 && op <= 34;
        }

        boolean end() {
            return List.of(18, 19, 20, 31).contains(op);
        }
    }

    record Handler(int from, int to, int at, int c) {
        boolean has(int p) {
            return from <= p && p < to;
        }
    }

    record Frame(List<Type> locals, List<Type> stack, boolean raw) {
        Frame copy() {
            return new Frame(new ArrayList<>(locals), new ArrayList<>(stack), raw);
        }

        Frame forHandler(int c) {
            return new Frame(new ArrayList<>(locals), new ArrayList<>(List.of(new Type(7, c))), raw);
        }

        boolean hasRawThis() {
            return locals.contains(new Type(6, 0));
        }

        int slots() {
            return stack.stream().mapToInt(t -> t.wide() ? 2 : 1).sum();
        }
    }

    record Row(int offset, int first, Frame frame) {
    }

    /** What makes a METHOD WRONG, a PLACE BAD or a MAP BROKEN. */
    static final class Fault extends RuntimeException {
        private static final long serialVersionUID = 1L;
    }

    static final Type TOP = new Type(0, 0);

    private final int[] above = new int[8];
    private final boolean[] face = new boolean[8];
    private int own;
    private int mode;
    private boolean gives;
    private final List<Type> arguments = new ArrayList<>();
    final List<Op> code = new ArrayList<>();
    private final List<Handler> handlers = new ArrayList<>();
    private List<Integer> bytes = new ArrayList<>();

    private static void need(boolean so) {
        if (!so) {
            throw new Fault();
        }
    }

    private List<Integer> line(int c) {
        List<Integer> line = new ArrayList<>();
        for (int d = c; ; d = above[d]) {
            line.add(d);
            if (d == 0) {
                return line;
            }
        }
    }

    private boolean is(Type x, Type y) {
        if (x.equals(y) || y.equals(TOP)) {
            return true;
        }
        if (y.kind() != 7) {
            return false;
        }
        return x.kind() == 5 || x.kind() == 7 && (line(x.part()).contains(y.part()) || face[y.part()]);
    }

    private Type join(Type x, Type y) {
        if (x.equals(y)) {
            return x;
        }
        if (x.kind() == 5 && y.kind() == 7) {
            return y;
        }
        if (x.kind() == 7 && y.kind() == 5) {
            return x;
        }
        if (x.kind() == 7 && y.kind() == 7) {
            List<Integer> common = line(x.part());
            common.retainAll(line(y.part()));
            return new Type(7, common.get(0));
        }
        return TOP;
    }

    boolean type(int c, int sup, boolean isFace) {
        if (c < 1 || c > 7 || sup < 0 || sup > c - 1) {
            return false;
        }
        above[c] = sup;
        face[c] = isFace;
        return true;
    }

    boolean method(int cls, int how, boolean givesInt) {
        if (cls < 0 || cls > 7 || how < 0 || how > 2) {
            return false;
        }
        own = cls;
        mode = how;
        gives = givesInt && how != 2;
        arguments.clear();
        code.clear();
        handlers.clear();
        return true;
    }

    int argument(int type) {
        boolean good = type >= 1 && type <= 4;
        for (int c = 0; c < 8; c++) {
            good |= type == 16 * c + 7;
        }
        if (!good) {
            return -1;
        }
        if (arguments.size() == 4) {
            return -3;
        }
        arguments.add(new Type(type % 16, type / 16));
        return arguments.size();
    }

    private static Op read(int op, int a, int b) {
        if (op < 0 || op > 39) {
            return null;
        }
        if (op <= 20) {
            return new Op(op, 0, 0);
        }
        if (op <= 30) {
            boolean wide = List.of(22, 24, 27, 29).contains(op);
            return a >= 0 && a <= (wide ? 8 : 9) ? new Op(op, a, 0) : null;
        }
        if (op <= 34) {
            return b >= 0 && b <= 49 ? new Op(op, 0, b) : null;
        }
        if (a < 0 || a > 7 || op == 38 && (b < 0 || b > 7)) {
            return null;
        }
        return new Op(op, a, op == 38 ? b : 0);
    }

    int add(int op, int a, int b) {
        Op one = read(op, a, b);
        if (one == null) {
            return -1;
        }
        if (code.size() == 50) {
            return -3;
        }
        code.add(one);
        return code.size();
    }

    boolean change(int i, int op, int a, int b) {
        Op one = read(op, a, b);
        if (one == null || i < 0 || i >= code.size()) {
            return false;
        }
        code.set(i, one);
        return true;
    }

    int handle(int from, int to, int at, int c) {
        if (from < 0 || from > 49 || at < 0 || at > 49 || to <= from || to > 50 || c < 0 || c > 7) {
            return -1;
        }
        if (handlers.size() == 4) {
            return -3;
        }
        handlers.add(new Handler(from, to, at, c));
        return handlers.size();
    }

    private int offset(int p) {
        return code.subList(0, p).stream().mapToInt(Op::length).sum();
    }

    Frame firstFrame() {
        List<Type> locals = new ArrayList<>();
        if (mode != 0) {
            locals.add(mode == 2 ? new Type(6, 0) : new Type(7, own));
        }
        for (Type argument : arguments) {
            locals.add(argument);
            if (argument.wide()) {
                locals.add(TOP);
            }
        }
        while (locals.size() < 10) {
            locals.add(TOP);
        }
        return new Frame(locals, new ArrayList<>(), mode == 2);
    }

    private static Type pop(Frame f) {
        need(!f.stack().isEmpty());
        return f.stack().remove(f.stack().size() - 1);
    }

    private static Type popKind(Frame f, Integer... kinds) {
        Type x = pop(f);
        need(List.of(kinds).contains(x.kind()));
        return x;
    }

    private static Type popS(Frame f) {
        Type x = pop(f);
        need(x.s());
        return x;
    }

    private Type popIs(Frame f, int c) {
        Type x = pop(f);
        need(is(x, new Type(7, c)));
        return x;
    }

    private static Integer[] moved(int k) {
        return switch (k) {
            case 0 -> new Integer[] {1};
            case 1 -> new Integer[] {4};
            case 2 -> new Integer[] {2};
            case 3 -> new Integer[] {3};
            default -> new Integer[] {5, 6, 7, 8};
        };
    }

    /** The FRAME behind the INSTRUCTION. */
    Frame step(int p, Frame before) {
        Frame f = before.copy();
        List<Type> stack = f.stack();
        Op one = code.get(p);
        int op = one.op();
        boolean raw = f.raw();
        switch (op) {
            case 0, 31 -> { }
            case 1, 2, 3, 4, 5 -> stack.add(new Type(op, 0));
            case 6 -> popS(f);
            case 7 -> {
                Type x = pop(f);
                if (!x.wide()) {
                    need(x.s());
                    popS(f);
                }
            }
            case 8 -> {
                Type x = popS(f);
                Collections.addAll(stack, x, x);
            }
            case 9 -> {
                Type x = popS(f);
                Type y = popS(f);
                Collections.addAll(stack, x, y);
            }
            case 10, 11, 12, 13 -> {
                Type x = popKind(f, moved(op - 10));
                need(pop(f).equals(x));
                stack.add(x);
            }
            case 14 -> turn(f, 1, 4);
            case 15 -> turn(f, 4, 1);
            case 16 -> turn(f, 1, 3);
            case 17 -> turn(f, 3, 1);
            case 18 -> need(!gives && !(mode == 2 && raw));
            case 19 -> {
                need(gives);
                popKind(f, 1);
            }
            case 20 -> popIs(f, 0);
            case 21, 22, 23, 24, 25 -> {
                Type x = f.locals().get(one.a());
                need(List.of(moved(op - 21)).contains(x.kind()));
                stack.add(x);
            }
            case 26, 27, 28, 29, 30 -> {
                Type x = popKind(f, moved(op - 26));
                if (one.a() > 0 && f.locals().get(one.a() - 1).wide()) {
                    f.locals().set(one.a() - 1, TOP);
                }
                f.locals().set(one.a(), x);
                if (x.wide()) {
                    f.locals().set(one.a() + 1, TOP);
                }
            }
            case 32 -> popKind(f, 1);
            case 33 -> popKind(f, 5, 7);
            case 34 -> {
                popKind(f, 5, 7);
                popKind(f, 5, 7);
            }
            case 35 -> stack.add(new Type(8, offset(p)));
            case 36 -> raw = init(one.a(), f) ? false : raw;
            case 37 -> {
                popIs(f, one.a());
                stack.add(new Type(1, 0));
            }
            case 38 -> {
                popIs(f, one.a());
                stack.add(new Type(7, one.b()));
            }
            default -> {
                popIs(f, 0);
                stack.add(new Type(7, one.a()));
            }
        }
        need(f.slots() <= 8);
        return new Frame(f.locals(), stack, raw);
    }

    private static void turn(Frame f, int from, int to) {
        popKind(f, from);
        f.stack().add(new Type(to, 0));
    }

    /** Whether it was THIS. */
    private boolean init(int a, Frame f) {
        Type x = popKind(f, 6, 8);
        Type made = new Type(7, x.kind() == 6 ? own : a);
        if (x.kind() == 6) {
            need(a == own || own != 0 && a == above[own]);
        } else {
            boolean there = false;
            for (int p = 0; p < code.size(); p++) {
                there |= offset(p) == x.part() && code.get(p).op() == 35 && code.get(p).a() == a;
            }
            need(there);
        }
        f.locals().replaceAll(t -> t.equals(x) ? made : t);
        f.stack().replaceAll(t -> t.equals(x) ? made : t);
        return x.kind() == 6;
    }

    private boolean rowAt(int p) {
        boolean has = p > 0 && code.get(p - 1).end();
        has |= code.stream().anyMatch(one -> one.jump() && one.b() == p);
        return has || handlers.stream().anyMatch(h -> h.at() == p);
    }

    private void come(Frame[] frames, int p, Frame frame) {
        need(p < frames.length);
        Frame held = frames[p];
        if (held == null) {
            frames[p] = frame.copy();
            return;
        }
        need(held.stack().size() == frame.stack().size());
        List<Type> locals = new ArrayList<>();
        List<Type> stack = new ArrayList<>();
        for (int k = 0; k < 10; k++) {
            locals.add(join(held.locals().get(k), frame.locals().get(k)));
        }
        for (int k = 0; k < frame.stack().size(); k++) {
            stack.add(join(held.stack().get(k), frame.stack().get(k)));
        }
        need(!stack.contains(TOP));
        frames[p] = new Frame(locals, stack, held.raw() || frame.raw());
    }

    /** The FRAMES of THE FLOW; a Fault if the METHOD is WRONG. */
    private Frame[] frames() {
        need(!code.isEmpty());
        Frame[] frames = new Frame[code.size()];
        frames[0] = firstFrame();
        List<Frame> before;
        do {
            before = new ArrayList<>(java.util.Arrays.asList(frames));
            for (int p = code.size() - 1; p >= 0; p--) {
                if (frames[p] != null) {
                    pass(frames, p);
                }
            }
        } while (!before.equals(java.util.Arrays.asList(frames)));
        for (int p = 0; p < frames.length; p++) {
            need(frames[p] != null);
            need(!rowAt(p) || !frames[p].raw() || frames[p].hasRawThis());
        }
        return frames;
    }

    private void pass(Frame[] frames, int p) {
        Frame here = frames[p];
        for (Handler h : handlers) {
            if (h.has(p)) {
                come(frames, h.at(), here.forHandler(h.c()));
            }
        }
        Frame behind = step(p, here);
        if (code.get(p).jump()) {
            come(frames, code.get(p).b(), behind);
        }
        if (!code.get(p).end()) {
            come(frames, p + 1, behind);
        }
    }

    private static List<Type> listOf(Frame frame) {
        List<Type> list = new ArrayList<>();
        for (int k = 0; k < 10; k++) {
            Type x = frame.locals().get(k);
            list.add(x);
            if (x.wide()) {
                k++;
            }
        }
        while (!list.isEmpty() && list.get(list.size() - 1).equals(TOP)) {
            list.remove(list.size() - 1);
        }
        return list;
    }

    private static void two(List<Integer> out, int number) {
        Collections.addAll(out, number / 256, number % 256);
    }

    private static void types(List<Integer> out, List<Type> types) {
        for (Type x : types) {
            out.add(x.kind());
            if (x.kind() >= 7) {
                two(out, x.part());
            }
        }
    }

    private static List<Integer> rowBytes(int delta, List<Type> old, List<Type> list, List<Type> stack) {
        List<Integer> out = new ArrayList<>();
        int size = list.size();
        int less = old.size() - size;
        if (list.equals(old) && stack.size() < 2) {
            if (delta < 64) {
                out.add(64 * stack.size() + delta);
            } else {
                out.add(stack.isEmpty() ? 251 : 247);
                two(out, delta);
            }
            types(out, stack);
        } else if (stack.isEmpty() && less >= 1 && less <= 3 && old.subList(0, size).equals(list)) {
            out.add(251 - less);
            two(out, delta);
        } else if (stack.isEmpty() && less <= -1 && less >= -3 && list.subList(0, old.size()).equals(old)) {
            out.add(251 - less);
            two(out, delta);
            types(out, list.subList(old.size(), size));
        } else {
            out.add(255);
            two(out, delta);
            two(out, size);
            types(out, list);
            two(out, stack.size());
            types(out, stack);
        }
        return out;
    }

    int make() {
        Frame[] frames;
        try {
            frames = frames();
        } catch (Fault wrong) {
            return -4;
        }
        List<Integer> made = new ArrayList<>();
        List<Type> list = listOf(firstFrame());
        int rows = 0;
        int last = 0;
        for (int p = 0; p < frames.length; p++) {
            if (rowAt(p)) {
                int delta = rows == 0 ? offset(p) : offset(p) - last - 1;
                List<Type> now = listOf(frames[p]);
                made.addAll(rowBytes(delta, list, now, frames[p].stack()));
                list = now;
                last = offset(p);
                rows++;
            }
        }
        if (made.size() > 400) {
            return -3;
        }
        bytes = made;
        return rows;
    }

    private static int tell(Frame frame, int what) {
        if (what < 10) {
            return frame.locals().get(what).told();
        }
        if (what < 18) {
            return what - 10 < frame.stack().size() ? frame.stack().get(what - 10).told() : -2;
        }
        return what == 20 ? frame.stack().size() : frame.raw() ? 1 : 0;
    }

    int flow(int p, int what) {
        if (what < 0 || what == 18 || what == 19 || what > 21) {
            return -1;
        }
        try {
            Frame[] frames = frames();
            return p < 0 || p >= frames.length ? -2 : tell(frames[p], what);
        } catch (Fault wrong) {
            return -2;
        }
    }

    private Type readType(List<Integer> in) {
        int kind = one(in);
        need(kind <= 8);
        int part = kind >= 7 ? one(in) * 256 + one(in) : 0;
        need(kind != 7 || part <= 7);
        return new Type(kind, part);
    }

    private static int one(List<Integer> in) {
        need(!in.isEmpty());
        return in.remove(0);
    }

    private List<Type> readTypes(List<Integer> in, int number) {
        List<Type> types = new ArrayList<>();
        for (int k = 0; k < number; k++) {
            types.add(readType(in));
        }
        return types;
    }

    /** The rows by OFFSET; a Fault if the MAP is BROKEN. */
    private TreeMap<Integer, Row> rows() {
        TreeMap<Integer, Row> rows = new TreeMap<>();
        List<Integer> in = new ArrayList<>(bytes);
        List<Type> list = listOf(firstFrame());
        int last = -1;
        while (!in.isEmpty()) {
            int first = one(in);
            need(first < 128 || first > 246);
            int delta = first < 128 ? first & 63 : one(in) * 256 + one(in);
            List<Type> stack = new ArrayList<>();
            list = new ArrayList<>(list);
            if (first >= 64 && first < 128 || first == 247) {
                stack.add(readType(in));
            } else if (first >= 248 && first <= 250) {
                need(list.size() >= 251 - first);
                list = list.subList(0, list.size() - (251 - first));
            } else if (first >= 252 && first <= 254) {
                list.addAll(readTypes(in, first - 251));
            } else if (first == 255) {
                list = readTypes(in, one(in) * 256 + one(in));
                stack = readTypes(in, one(in) * 256 + one(in));
            }
            List<Type> locals = new ArrayList<>();
            for (Type x : list) {
                locals.add(x);
                if (x.wide()) {
                    locals.add(TOP);
                }
            }
            need(locals.size() <= 10);
            while (locals.size() < 10) {
                locals.add(TOP);
            }
            Frame frame = new Frame(locals, stack, locals.contains(new Type(6, 0)));
            need(frame.slots() <= 8);
            last += delta + 1;
            int offset = last;
            need(java.util.stream.IntStream.range(0, code.size()).anyMatch(p -> offset(p) == offset));
            rows.put(offset, new Row(offset, first, frame));
        }
        return rows;
    }

    private void fit(Frame frame, Row row) {
        need(row != null);
        Frame other = Objects.requireNonNull(row).frame();
        need(frame.raw() == other.raw() && frame.stack().size() == other.stack().size());
        for (int k = 0; k < 10; k++) {
            need(is(frame.locals().get(k), other.locals().get(k)));
        }
        for (int k = 0; k < frame.stack().size(); k++) {
            need(is(frame.stack().get(k), other.stack().get(k)));
        }
    }

    private Row rowOf(TreeMap<Integer, Row> rows, int p) {
        return p < code.size() ? rows.get(offset(p)) : null;
    }

    /** The FRAME behind PLACE p, or null if one may not go on; a Fault if p is BAD. */
    private Frame walk(TreeMap<Integer, Row> rows, int p, Frame frame) {
        Row row = rowOf(rows, p);
        need(frame != null || row != null);
        if (frame != null && row != null) {
            fit(frame, row);
        }
        Frame here = row != null ? row.frame() : frame;
        for (Handler h : handlers) {
            if (h.has(p)) {
                fit(here.forHandler(h.c()), rowOf(rows, h.at()));
            }
        }
        Frame behind = step(p, here);
        if (code.get(p).jump()) {
            fit(behind, rowOf(rows, code.get(p).b()));
        }
        return code.get(p).end() ? null : behind;
    }

    int check() {
        if (code.isEmpty()) {
            return -4;
        }
        TreeMap<Integer, Row> rows;
        try {
            rows = rows();
        } catch (Fault broken) {
            return -5;
        }
        Frame frame = firstFrame();
        for (int p = 0; p < code.size(); p++) {
            try {
                frame = walk(rows, p, frame);
            } catch (Fault bad) {
                return p;
            }
        }
        return frame == null ? -2 : code.size();
    }

    int map(int k) {
        return k == -1 ? bytes.size() : k >= 0 && k < bytes.size() ? bytes.get(k) : -2;
    }

    boolean patch(int k, int b) {
        if (k < 0 || k > bytes.size() || b < 0 || b > 255 || k == 400) {
            return false;
        }
        if (k == bytes.size()) {
            bytes.add(b);
        } else {
            bytes.set(k, b);
        }
        return true;
    }

    int cut(int n) {
        if (n < 0 || n > bytes.size()) {
            return -1;
        }
        int gone = bytes.size() - n;
        bytes = new ArrayList<>(bytes.subList(0, n));
        return gone;
    }

    int row(int i, int what) {
        if (what < 0 || what == 18 || what == 19 || what > 22) {
            return -1;
        }
        try {
            List<Row> rows = new ArrayList<>(rows().values());
            if (i < 0 || i >= rows.size()) {
                return -2;
            }
            Row row = rows.get(i);
            return what == 21 ? row.offset() : what == 22 ? row.first() : tell(row.frame(), what);
        } catch (Fault broken) {
            return -2;
        }
    }

    int code(int i, int what) {
        if (what < 0 || what > 3) {
            return -1;
        }
        if (i < 0 || i >= code.size()) {
            return -2;
        }
        Op one = code.get(i);
        return what == 0 ? one.op() : what == 1 ? one.a() : what == 2 ? one.b() : offset(i);
    }

    int count(int what) {
        switch (what) {
            case 0:
                return code.size();
            case 1:
                return handlers.size();
            case 2:
                return arguments.size();
            case 3:
                return offset(code.size());
            case 4:
                try {
                    return rows().size();
                } catch (Fault broken) {
                    return -5;
                }
            default:
                return -1;
        }
    }
}
