import java.util.ArrayList;
import java.util.Collections;
import java.util.List;
import java.util.Random;

/** All promises: many functions and many texts with faults, each answer against the model's. */
public final class ModelTest {
    private static final Due due = new Due();
    private static final Random random = new Random(20261115);

    public static void main(String[] args) {
        for (int i = 0; i < 1500; i++) {
            compareFunction(TextMaker.good(random, i % 3 == 0 ? 99999 : i % 3 == 1 ? 20 : 3));
        }
        for (int i = 0; i < 60000; i++) {
            compareFault(TextMaker.spoiled(random, TextMaker.good(random, 20)));
        }
        due.end();
    }

    private static int below(int bound) {
        return random.nextInt(bound);
    }

    private static LeanSets compareFault(String text) {
        Model model = new Model(text);
        LeanSets sets = new LeanSets();
        Due.typeAll(sets, text);
        due.same("read of <" + text + ">", sets.read(), model.fault);
        due.same("place of <" + text + ">", sets.place(), model.place);
        return sets;
    }

    private static void compareFunction(String text) {
        Model model = new Model(text);
        LeanSets sets = compareFault(text);
        if (model.fault != 0) {
            return;
        }
        for (int what = 0; what < 4; what++) {
            due.same("count(" + what + ") of " + text, sets.count(what), model.counts[what]);
        }
        for (int i = 0; i < 40; i++) {
            int set = below(model.f.length);
            due.same("value(" + set + ") of " + text, sets.value(set), model.f[set]);
        }
        compareLeast(text, model, sets);
        compareExtremes(text, model, sets);
        compareChain(text, model, sets);
        compareVectors(text, model, sets);
    }

    private static void compareLeast(String text, Model model, LeanSets sets) {
        long[] nothing = new long[10];
        for (int i = 0; i < 8; i++) {
            int in = below(model.f.length) & below(model.f.length);
            int out = below(model.f.length) & below(model.f.length) & ~in;
            long[] want = model.least(in, out, nothing);
            for (int what = 0; what < 3; what++) {
                due.same("least(" + what + ", " + in + ", " + out + ") of " + text,
                        sets.least(what, in, out), want[what]);
            }
        }
    }

    private static void compareExtremes(String text, Model model, LeanSets sets) {
        List<Integer> order = new ArrayList<>();
        for (int x = 0; x < model.size; x++) {
            order.add(x);
        }
        Collections.shuffle(order, random);
        long packed = random.nextLong() << 4 * model.size;
        for (int i = 0; i < model.size; i++) {
            packed |= (long) order.get(i) << 4 * i;
        }
        int before = 0;
        for (int x : order) {
            due.same("extreme(" + packed + ", " + x + ") of " + text, sets.extreme(packed, x),
                    model.f[before | 1 << x] - model.f[before]);
            before |= 1 << x;
        }
    }

    private static void compareChain(String text, Model model, LeanSets sets) {
        due.same("turns() of " + text, sets.turns(), model.turns.size());
        int before = 0;
        for (int i = 0; i < model.turns.size(); i++) {
            long[] turn = model.turns.get(i);
            for (int what = 0; what < 3; what++) {
                due.same("turn(" + i + ", " + what + ") of " + text, sets.turn(i, what), turn[what]);
            }
            for (int x = 0; x < model.size; x++) {
                if ((turn[2] >> x & 1) == 1 && (before >> x & 1) == 0) {
                    due.same("point(" + x + ", 0) of " + text, sets.point(x, 0), turn[0]);
                    due.same("point(" + x + ", 1) of " + text, sets.point(x, 1), turn[1]);
                }
            }
            before = (int) turn[2];
        }
        due.same("check() of " + text, sets.check(), model.check());
    }

    /** From an extreme vector, which lies below with many tight sets, by small steps. */
    private static void compareVectors(String text, Model model, LeanSets sets) {
        long[] v = new long[10];
        compareVector(text, model, sets, v);
        for (int x = 0; x < model.size; x++) {
            v[x] = Math.max(-1000000, Math.min(1000000, model.f[(2 << x) - 1] - model.f[(1 << x) - 1]));
            sets.tell(x, (int) v[x]);
        }
        compareVector(text, model, sets, v);
        for (int i = 0; i < 5; i++) {
            int x = below(model.size);
            v[x] = Math.max(-1000000, Math.min(1000000, v[x] + below(5) - 3));
            sets.tell(x, (int) v[x]);
            compareVector(text, model, sets, v);
        }
    }

    private static void compareVector(String text, Model model, LeanSets sets, long[] v) {
        long[] want = model.least(0, 0, v);
        due.same("surplus() of " + text, sets.surplus(), want[0]);
        due.same("worst(0) of " + text, sets.worst(0), want[1]);
        due.same("worst(1) of " + text, sets.worst(1), want[2]);
        for (int x = 0; x < model.size; x++) {
            due.same("tight(" + x + ") of " + text, sets.tight(x), model.tight(x, v));
        }
    }
}
