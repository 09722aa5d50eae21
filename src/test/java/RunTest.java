import java.util.Random;
import java.util.function.LongSupplier;

/** Long runs of calls on one object, right and wrong ones, each answer against what the model's state makes due. */
public final class RunTest {
    private static final int MOST_CALLS = 512;
    private static final int[] EDGES = {-1, 0, 1, 2, 3, 4, 7, 8, 9, 10, 11, 31, 32, 512, 1023, 1024, 1000000, 1000001,
        -1000000, -1000001, Integer.MAX_VALUE, Integer.MIN_VALUE};

    private final Due due;
    private final Random random;
    private final String name;
    private final LeanSets sets = new LeanSets();
    private int calls = 0;
    private String text = "";
    private String waiting = "";
    private int place = -1;
    private Model function = null;
    private long[] vector = new long[10];

    private RunTest(Due due, int seed) {
        this.due = due;
        random = new Random(seed);
        name = "run " + seed;
    }

    public static void main(String[] args) {
        Due due = new Due();
        for (int seed = 0; seed < 600; seed++) {
            RunTest run = new RunTest(due, seed);
            while (run.calls < MOST_CALLS) {
                run.oneCall();
            }
        }
        due.end();
    }

    private int below(int bound) {
        return random.nextInt(bound);
    }

    private void oneCall() {
        int dice = below(waiting.isEmpty() ? 400 : 40);
        if (!waiting.isEmpty() && dice < 36) {
            typeNext();
        } else if (waiting.isEmpty() && dice < 8) {
            waiting = TextMaker.spoiledOrNot(random);
        } else if (waiting.isEmpty() && dice < 12 || dice == 39 && below(20) == 0) {
            read();
        } else if (dice < 20) {
            typeWrong();
        } else {
            ask();
        }
        if (waiting.isEmpty() && !text.isEmpty()) {
            read();
        }
    }

    private void typeNext() {
        int n = Math.min(waiting.length(), 1 + below(8));
        String part = waiting.substring(0, n);
        long higher = n == 8 ? 0 : random.nextLong() << 8 * n;
        boolean fits = text.length() + n <= 600;
        compare("type <" + part + ">", fits ? text.length() + n : -1, () -> sets.type(higher | Due.packed(part), n));
        text += fits ? part : "";
        waiting = fits ? waiting.substring(n) : "";
    }

    private void typeWrong() {
        int n = below(3) == 0 ? EDGES[below(EDGES.length)] : 1 + below(8);
        long characters = random.nextLong();
        boolean good = n >= 1 && n <= 8 && text.length() + n <= 600;
        String part = "";
        for (int i = n - 1; good && i >= 0; i--) {
            char c = (char) (characters >>> 8 * i & 255);
            good = c >= 32 && c <= 126;
            part += c;
        }
        compare("type(" + characters + ", " + n + ")", good ? text.length() + n : -1, () -> sets.type(characters, n));
        text += good ? part : "";
    }

    private void read() {
        Model model = new Model(text);
        compare("read of <" + text + ">", model.fault, () -> sets.read());
        place = model.place;
        text = "";
        waiting = "";
        if (model.fault == 0) {
            function = model;
            vector = new long[10];
        }
        compare("place", place, () -> sets.place());
    }

    /** An argument that is mostly below a bound, otherwise at an edge. */
    private int some(int bound) {
        return below(8) == 0 ? EDGES[below(EDGES.length)] : below(bound + 1);
    }

    private int someSet() {
        int set = function == null ? below(1024) : below(2 * function.f.length) & below(2 * function.f.length);
        return below(12) == 0 ? EDGES[below(EDGES.length)] : set;
    }

    private void ask() {
        int size = function == null ? 3 : function.size;
        int x = some(size);
        int what = some(3);
        int set = someSet();
        switch (below(14)) {
            case 0 -> compare("place", place, () -> sets.place());
            case 1 -> compare("count " + what, dueOfCount(what), () -> sets.count(what));
            case 2 -> compare("value " + set, dueOfValue(set), () -> sets.value(set));
            case 3, 4 -> askLeast(below(20) == 0 ? what : below(3), set, below(4) == 0 ? someSet() : someSet() & ~set);
            case 5 -> askExtreme(someOrder(), x);
            case 6, 7 -> tell(x);
            case 8 -> compare("surplus", dueOf(() -> function.least(0, 0, vector)[0]), () -> sets.surplus());
            case 9 -> compare("worst " + what, dueOfWorst(what), () -> sets.worst(what));
            case 10 -> compare("tight " + x, dueOfTight(x), () -> sets.tight(x));
            case 11 -> askTurn(x, what);
            case 12 -> compare("point " + x + ", " + what, dueOfPoint(x, what), () -> sets.point(x, what));
            default -> compare("check", dueOf(() -> function.check()), () -> sets.check());
        }
    }

    private void askLeast(int what, int in, int out) {
        Object want = dueOf(() -> 0);
        if (function != null) {
            boolean good = what >= 0 && what < 3 && isSet(in) && isSet(out) && (in & out) == 0;
            want = good ? (Object) function.least(in, out, new long[10])[what] : Due.ARGUMENT;
        }
        compare("least " + what + ", " + in + ", " + out, want, () -> sets.least(what, in, out));
    }

    private long someOrder() {
        int size = function == null ? 3 : function.size;
        long order = random.nextLong();
        int left = (1 << size) - 1;
        for (int i = 0; i < size; i++) {
            int x = below(size);
            while ((left >> x & 1) == 0) {
                x = below(size);
            }
            left &= ~(1 << x);
            order = order & ~(15L << 4 * i) | (long) x << 4 * i;
        }
        return below(6) == 0 ? order ^ 1L << below(40) : order;
    }

    private void askExtreme(long order, int x) {
        Object want = dueOf(() -> 0);
        if (function != null && !isElement(x)) {
            want = Due.INDEX;
        } else if (function != null) {
            int seen = 0;
            int before = 0;
            for (int i = 0; i < function.size; i++) {
                int element = (int) (order >>> 4 * i & 15);
                before = element == x ? seen : before;
                seen |= 1 << element;
            }
            boolean all = seen == function.f.length - 1;
            want = all ? (Object) (function.f[before | 1 << x] - function.f[before]) : Due.ARGUMENT;
        }
        compare("extreme " + order + ", " + x, want, () -> sets.extreme(order, x));
    }

    private void tell(int x) {
        // Near what an extreme vector has, so that tight sets and sets below the vector both come up.
        long near = function == null || !isElement(x) ? 0 : function.f[(2 << x) - 1] - function.f[(1 << x) - 1];
        int v = below(10) == 0 ? EDGES[below(EDGES.length)] : (int) near + below(3) / 2 - below(4) / 3;
        boolean good = v >= -1000000 && v <= 1000000;
        Object want = dueOf(() -> 0);
        if (function != null) {
            want = !isElement(x) ? Due.INDEX : good ? (Object) 0L : Due.ARGUMENT;
        }
        compare("tell " + x + ", " + v, want, () -> {
            sets.tell(x, v);
            return 0;
        });
        if (want.equals(0L)) {
            vector[x] = v;
        }
    }

    private void askTurn(int i, int what) {
        Object want = dueOf(() -> 0);
        if (function != null && (i < 0 || i >= function.turns.size())) {
            want = Due.INDEX;
        } else if (function != null) {
            want = what < 0 || what > 2 ? Due.ARGUMENT : (Object) function.turns.get(i)[what];
        }
        compare("turn " + i + ", " + what, want, () -> sets.turn(i, what));
        compare("turns", dueOf(() -> function.turns.size()), () -> sets.turns());
    }

    private Object dueOfCount(int what) {
        return what < 0 || what > 3 ? orNoFunction(Due.ARGUMENT) : dueOf(() -> function.counts[what]);
    }

    private Object dueOfValue(int set) {
        return isSet(set) ? dueOf(() -> function.f[set]) : orNoFunction(Due.ARGUMENT);
    }

    private Object dueOfWorst(int way) {
        return way == 0 || way == 1 ? dueOf(() -> function.least(0, 0, vector)[1 + way]) : orNoFunction(Due.ARGUMENT);
    }

    private Object dueOfTight(int x) {
        return isElement(x) ? dueOf(() -> function.tight(x, vector)) : orNoFunction(Due.INDEX);
    }

    private Object dueOfPoint(int x, int what) {
        if (function == null || !isElement(x)) {
            return orNoFunction(Due.INDEX);
        }
        if (what != 0 && what != 1) {
            return Due.ARGUMENT;
        }
        return function.point(x)[what];
    }

    private Object dueOf(LongSupplier answer) {
        return function == null ? Due.STATE : (Object) answer.getAsLong();
    }

    private Object orNoFunction(Class<?> thrown) {
        return function == null ? Due.STATE : thrown;
    }

    private boolean isElement(int x) {
        return function != null && x >= 0 && x < function.size;
    }

    private boolean isSet(int set) {
        return function != null && set >= 0 && set < function.f.length;
    }

    private void compare(String call, long want, LongSupplier run) {
        compare(call, (Object) want, run);
    }

    private void compare(String call, Object want, LongSupplier run) {
        if (calls >= MOST_CALLS) {
            return;
        }
        calls++;
        Object got;
        try {
            got = run.getAsLong();
        } catch (RuntimeException e) {
            got = e.getClass();
        }
        if (!got.equals(want)) {
            due.fail(name + ", call " + calls + ": " + call + " answered " + got + ", due is " + want);
        }
    }
}
