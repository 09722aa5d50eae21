import java.lang.reflect.Field;

/**
 * Promise 16, where it would tell 0. No text makes a function for which it does, so the chain that an object has
 * found is exchanged for a wrong one from outside.
 */
public final class CheckTest {
    private static final Due due = new Due();

    public static void main(String[] args) throws ReflectiveOperationException {
        rightChain();
        notBelow();
        notAllTogether();
        otherSums();
        theSameNumbers();
        leastWholeNumber();
        manyElements();
        nextText();
        due.end();
    }

    private static void rightChain() throws ReflectiveOperationException {
        due.about("check: 1");
        tells(1, "size 2;weight 0=1;weight 1=2", new int[][] {{1, 1, 0b01}, {2, 1, 0b11}});
        tells(1, "size 2;weight 0=2;weight 1=1", new int[][] {{1, 1, 0b10}, {2, 1, 0b11}});
        tells(1, "size 2;curve{0 1}=4 4", new int[][] {{2, 1, 0b11}});
    }

    private static void notBelow() throws ReflectiveOperationException {
        due.about("Whether the point lies below f");
        // In both the sums over what came in are right, and so is the whole one.
        tells(0, "size 2;weight 0=1;weight 1=3", new int[][] {{2, 1, 0b11}});
        tells(0, "size 2;weight 0=3;weight 1=1", new int[][] {{2, 1, 0b11}});
        tells(0, "size 2;weight 0=1;weight 1=2", new int[][] {{3, 2, 0b11}});
        tells(0, "size 3;weight 0=-5;weight 1=1;weight 2=3", new int[][] {{-5, 1, 0b001}, {2, 1, 0b111}});
        tells(0, "size 2;weight 0=1;weight 1=2", new int[][] {{1, 1, 0b01}, {3, 1, 0b11}});
        tells(0, "size 2;weight 0=1;weight 1=2", new int[][] {{1, 1, 0b10}, {2, 1, 0b11}});
    }

    private static void notAllTogether() throws ReflectiveOperationException {
        due.about("and is f of all elements together");
        tells(0, "size 2;weight 0=1;weight 1=2", new int[][] {{1, 1, 0b11}});
        tells(0, "size 1;weight 0=5", new int[][] {{4, 1, 0b1}});
        tells(0, "size 1;weight 0=5", new int[][] {{6, 1, 0b1}});
        tells(0, "size 1;weight 0=5", new int[][] {{-5, 1, 0b1}});
        tells(0, "size 2;curve{0 1}=3 3", new int[][] {{4, 3, 0b11}});
        tells(0, "size 2;curve{0 1}=3 3", new int[][] {{5, 3, 0b11}});
    }

    private static void otherSums() throws ReflectiveOperationException {
        due.about("the extreme vector by its numbers has for each turn the same sum over what came in there");
        // The point lies below f and is f of all elements together.
        tells(0, "size 2;curve{0 1}=4 4", new int[][] {{1, 1, 0b01}, {3, 1, 0b11}});
        tells(0, "size 2;curve{0 1}=4 4", new int[][] {{1, 1, 0b10}, {3, 1, 0b11}});
        tells(0, "size 2;curve{0 1}=4 4", new int[][] {{3, 2, 0b10}, {5, 2, 0b11}});
        tells(0, "size 3;weight 0=-9;curve{1 2}=4 4", new int[][] {{-9, 1, 1}, {1, 1, 0b101}, {3, 1, 0b111}});
    }

    private static void theSameNumbers() throws ReflectiveOperationException {
        due.about("the lesser ones first, the lesser element first of the same");
        tells(1, "size 2;curve{0 1}=2 3;weight 1=1", new int[][] {{2, 1, 0b01}, {2, 1, 0b11}});
        tells(0, "size 2;curve{0 1}=2 3;weight 0=1", new int[][] {{2, 1, 0b10}, {2, 1, 0b11}});
        tells(1, "size 2;curve{0 1}=5 6;weight 0=-5", new int[][] {{0, 1, 0b01}, {1, 1, 0b11}});
        tells(1, "size 2;curve{0 1}=5 6;weight 1=-5", new int[][] {{0, 1, 0b10}, {1, 1, 0b11}});
    }

    private static void leastWholeNumber() throws ReflectiveOperationException {
        due.about("times the least number that makes it whole, lies below as many times f");
        String text = "size 5;curve{0 1}=3 3;curve{2 3 4}=4 4 4";
        tells(1, text, new int[][] {{4, 3, 0b11100}, {3, 2, 0b11111}});
        tells(0, text, new int[][] {{4, 3, 0b11100}, {2, 1, 0b11111}});
        tells(0, text, new int[][] {{1, 1, 0b11100}, {3, 2, 0b11111}});
        tells(0, text, new int[][] {{7, 5, 0b11111}});
    }

    private static void manyElements() throws ReflectiveOperationException {
        due.about("the point has a number for each element");
        for (int x = 0; x < 10; x++) {
            String text = "size 10;weight " + x + "=1";
            int all = 1023;
            tells(1, text, new int[][] {{0, 1, all & ~(1 << x)}, {1, 1, all}});
            tells(0, text, new int[][] {{0, 1, all & ~(1 << x)}, {2, 1, all}});
            tells(0, text, new int[][] {{0, 1, all & ~(1 << (x + 1) % 10)}, {1, 1, all}});
            tells(0, text, new int[][] {{1, 10, all}});
        }
    }

    private static void nextText() throws ReflectiveOperationException {
        due.about("read: the chain is that of the latest function");
        LeanSets sets = Due.of("size 2;weight 0=1;weight 1=3");
        exchange(sets, new int[][] {{2, 1, 0b11}});
        due.same("check", sets.check(), 0);
        Due.typeAll(sets, "size 2;weight 0=1;weight 1=3");
        due.same("read", sets.read(), 0);
        due.same("check", sets.check(), 1);
    }

    private static void tells(int want, String text, int[][] turns) throws ReflectiveOperationException {
        LeanSets sets = Due.of(text);
        due.same("check of " + text, sets.check(), 1);
        exchange(sets, turns);
        due.same("turns of " + text, sets.turns(), turns.length);
        due.same("check of " + text + " with " + java.util.Arrays.deepToString(turns), sets.check(), want);
    }

    /** Each turn is its number above, below, and its set. */
    private static void exchange(LeanSets sets, int[][] turns) throws ReflectiveOperationException {
        Object chain = field(sets, "chain").get(sets);
        long[] above = (long[]) field(chain, "above").get(chain);
        long[] below = (long[]) field(chain, "below").get(chain);
        int[] setsOf = (int[]) field(chain, "sets").get(chain);
        int[] turnOf = (int[]) field(chain, "turnOf").get(chain);
        field(chain, "length").setInt(chain, turns.length);
        for (int i = turns.length - 1; i >= 0; i--) {
            above[i] = turns[i][0];
            below[i] = turns[i][1];
            setsOf[i] = turns[i][2];
            for (int x = 0; x < turnOf.length; x++) {
                turnOf[x] = (turns[i][2] >> x & 1) == 1 ? i : turnOf[x];
            }
        }
    }

    private static Field field(Object of, String name) throws ReflectiveOperationException {
        Field field = of.getClass().getDeclaredField(name);
        field.setAccessible(true);
        return field;
    }
}
