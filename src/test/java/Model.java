import java.util.ArrayDeque;
import java.util.ArrayList;
import java.util.Arrays;
import java.util.Collection;
import java.util.Collections;
import java.util.IdentityHashMap;
import java.util.List;
import java.util.Set;

/**
 * The document once more, over Java's own objects and with no memory to manage: what ManagedRuntime
 * is compared with. A value is null, an Integer or a Thing.
 */
final class Model {
    private static final class Thing {
        final int ofClass;
        final Object[] fields = new Object[3];

        Thing(int ofClass) {
            this.ofClass = ofClass;
        }
    }

    private static final class Frame {
        final Object[] locals = new Object[4];
        final ArrayList<Object> stack = new ArrayList<>();
        int due;

        Frame(int due, Object first, Object second) {
            this.due = due;
            locals[0] = first;
            locals[1] = second;
        }

        Object fromTop(int k) {
            return stack.get(stack.size() - k);
        }

        Object pop() {
            return stack.remove(stack.size() - 1);
        }
    }

    /** The values that each instruction takes and leaves, as the document's table writes them. */
    private static final String[] TABLE = {
        "->", "->i", "->v", "->v", "v->", "v->", "v->vv", "vw->wv", "ab->i", "ab->i", "ab->i", "ab->i",
        "vw->i", "->", "a->", "->o", "o->v", "ov->", "v->i", "ov->", "v->", "->v", "v->", "a->",
    };

    final int[] ops = new int[60];
    final int[] operands = new int[60];
    final int[] above = {-1, -1, -1, -1};
    final int[][] starts = new int[4][4];
    final Object[] globals = new Object[4];
    final List<Integer> output = new ArrayList<>();
    private final ArrayDeque<Frame> frames = new ArrayDeque<>();
    Object given;
    int steps;
    int made;

    Model() {
        for (int[] row : starts) {
            Arrays.fill(row, -1);
        }
    }

    static int sortOf(Object value) {
        return value == null ? 0 : value instanceof Integer ? 1 : 2;
    }

    static int numberOf(Object value) {
        return value == null ? 0 : value instanceof Integer ? (Integer) value : ((Thing) value).ofClass;
    }

    boolean code(int i, int op, int n) {
        if (i < 0 || i > 59 || op < 0 || op > 23) {
            return false;
        }
        boolean field = op == 16 || op == 17;
        boolean four = Arrays.asList(3, 4, 15, 18, 19, 21, 22).contains(op);
        if ((field || four) && (n < 0 || n > (field ? 2 : 3))) {
            return false;
        }
        ops[i] = op;
        operands[i] = n;
        return true;
    }

    boolean above(int c, int a) {
        boolean good = c >= 0 && c <= 3 && a >= -1 && a < c;
        if (good) {
            above[c] = a;
        }
        return good;
    }

    boolean method(int c, int slot, int start) {
        boolean good = c >= 0 && c <= 3 && slot >= 0 && slot <= 3 && start >= -1 && start <= 59;
        if (good) {
            starts[c][slot] = start;
        }
        return good;
    }

    boolean clear(int g) {
        boolean good = g >= 0 && g <= 3;
        if (good) {
            globals[g] = null;
        }
        return good;
    }

    int output(int k) {
        return k < 0 || k > 19 || k >= output.size() ? 0 : output.get(k);
    }

    int sort(int g, int path) {
        Object there = follow(g, path);
        return there instanceof String ? (there.equals("BAD") ? -1 : -2) : sortOf(there);
    }

    int number(int g, int path) {
        return sort(g, path) <= 0 ? 0 : numberOf(follow(g, path));
    }

    private Object follow(int g, int path) {
        if (g < 0 || g > 3 || path < 0 || path > 65535) {
            return "BAD";
        }
        String digits = new StringBuilder(Integer.toString(path, 4)).reverse().toString();
        if (digits.indexOf('3') < 0) {
            return "BAD";
        }
        Object at = globals[g];
        for (char digit : digits.substring(0, digits.indexOf('3')).toCharArray()) {
            if (!(at instanceof Thing)) {
                return "NO_OBJECT";
            }
            at = ((Thing) at).fields[digit - '0'];
        }
        return at;
    }

    int needed() {
        Set<Thing> seen = Collections.newSetFromMap(new IdentityHashMap<>());
        visit(Arrays.asList(globals), seen);
        for (Frame f : frames) {
            visit(Arrays.asList(f.locals), seen);
            visit(f.stack, seen);
        }
        return seen.size();
    }

    private static void visit(Collection<Object> values, Set<Thing> seen) {
        for (Object v : values) {
            if (v instanceof Thing && seen.add((Thing) v)) {
                visit(Arrays.asList(((Thing) v).fields), seen);
            }
        }
    }

    private int startIn(Thing o, int slot) {
        for (int c = o.ofClass; c >= 0; c = above[c]) {
            if (starts[c][slot] >= 0) {
                return starts[c][slot];
            }
        }
        return -1;
    }

    private int isBelow(Object v, int n) {
        if (!(v instanceof Thing)) {
            return 0;
        }
        int c = ((Thing) v).ofClass;
        while (c >= 0 && c != n) {
            c = above[c];
        }
        return c == n ? 1 : 0;
    }

    int run(int start, int a) {
        output.clear();
        given = null;
        steps = 0;
        made = 0;
        frames.push(new Frame(start, null, a));
        int ending = -1;
        while (ending < 0) {
            ending = ending();
            if (ending < 0) {
                ending = work();
            }
        }
        frames.clear();
        return ending;
    }

    /** With what the due instruction ends the run because it can't work, or -1. */
    private int ending() {
        Frame f = frames.peek();
        if (f.due < 0 || f.due > 59) {
            return ManagedRuntime.CODE;
        }
        if (steps == 300) {
            return ManagedRuntime.TIRED;
        }
        int op = ops[f.due];
        String takes = TABLE[op].substring(0, TABLE[op].indexOf('-'));
        String leaves = TABLE[op].substring(TABLE[op].indexOf('>') + 1);
        int size = f.stack.size();
        if (size < takes.length() || size - takes.length() + leaves.length() > 6) {
            return ManagedRuntime.STACK;
        }
        for (int k = 0; k < takes.length(); k++) {
            int sort = sortOf(f.fromTop(takes.length() - k));
            char wanted = takes.charAt(k);
            if ((wanted == 'a' || wanted == 'b') && sort != 1 || wanted == 'o' && sort != 2) {
                return ManagedRuntime.SORT;
            }
        }
        if (op == 15 && needed() == 16) {
            return ManagedRuntime.MEMORY;
        }
        if (op == 19 && startIn((Thing) f.fromTop(2), operands[f.due]) < 0) {
            return ManagedRuntime.MISSING;
        }
        return op == 19 && frames.size() == 10 ? ManagedRuntime.DEEP : -1;
    }

    private int work() {
        Frame f = frames.peek();
        int op = ops[f.due];
        int n = operands[f.due];
        steps++;
        f.due++;
        ArrayList<Object> stack = f.stack;
        Object w = TABLE[op].startsWith("-") ? null : f.pop();
        Object v = TABLE[op].indexOf('-') == 2 ? f.pop() : null;
        switch (op) {
            case 0: return ManagedRuntime.ENDED;
            case 1: stack.add(n); break;
            case 2: stack.add(null); break;
            case 3: stack.add(f.locals[n]); break;
            case 4: f.locals[n] = w; break;
            case 5: break;
            case 6: stack.add(w); stack.add(w); break;
            case 7: stack.add(w); stack.add(v); break;
            case 8: stack.add((Integer) v + (Integer) w); break;
            case 9: stack.add((Integer) v - (Integer) w); break;
            case 10: stack.add((Integer) v * (Integer) w); break;
            case 11: stack.add((Integer) v < (Integer) w ? 1 : 0); break;
            case 12: stack.add(v == w || v instanceof Integer && v.equals(w) ? 1 : 0); break;
            case 13: f.due = n; break;
            case 14: f.due = (Integer) w == 0 ? n : f.due; break;
            case 15: stack.add(new Thing(n)); made++; break;
            case 16: stack.add(((Thing) w).fields[n]); break;
            case 17: ((Thing) v).fields[n] = w; break;
            case 18: stack.add(isBelow(w, n)); break;
            case 19: frames.push(new Frame(startIn((Thing) v, n), v, w)); break;
            case 20: return goBack(w);
            case 21: stack.add(globals[n]); break;
            case 22: globals[n] = w; break;
            default: output.add((Integer) w);
        }
        return -1;
    }

    private int goBack(Object value) {
        frames.pop();
        if (frames.isEmpty()) {
            given = value;
            return ManagedRuntime.ENDED;
        }
        frames.peek().stack.add(value);
        return -1;
    }
}
