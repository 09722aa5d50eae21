/** Promises 5, 6, 7 and 8. */
public final class FunctionTest {
    private static final Due due = new Due();

    public static void main(String[] args) {
        counts();
        values();
        leastSets();
        extremes();
        due.end();
    }

    private static void counts() {
        LeanSets sets = Due.of("size 4;weight 0=1;arc 0>1=1;weight 0=-1;arc 0>1=0;arc 2>1=3;curve{3}=0");
        due.same("size", sets.count(0), 4);
        due.same("weights", sets.count(1), 2);
        due.same("arcs", sets.count(2), 3);
        due.same("curves", sets.count(3), 1);
        due.refused("count(4)", Due.ARGUMENT, () -> sets.count(4));
        due.refused("count(-1)", Due.ARGUMENT, () -> sets.count(-1));
        due.same("no terms", Due.of("size 10").count(1), 0);
    }

    private static void values() {
        LeanSets sets = Due.of("size 3;weight 0=5;weight 0=-7;arc 0>1=10;arc 0>1=20;curve{2 1 0}=100 150 140");
        int[] want = {0, 100 + 30 - 2, 100, 150 - 2, 100, 150 + 30 - 2, 150, 140 - 2};
        for (int set = 0; set < 8; set++) {
            due.same("value(" + set + ")", sets.value(set), want[set]);
        }
        for (int set : new int[] {8, 9, 1024, -1, Integer.MIN_VALUE, Integer.MAX_VALUE}) {
            due.refused("value(" + set + ")", Due.ARGUMENT, () -> sets.value(set));
        }
        LeanSets large = Due.of("size 10" + ";weight 0=99999".repeat(30));
        due.same("the largest", large.value(1023), 2999970);
        due.same("value(1022)", large.value(1022), 0);
        due.refused("value(1024)", Due.ARGUMENT, () -> large.value(1024));
    }

    private static void leastSets() {
        LeanSets sets = Due.of("size 3;weight 0=-2;weight 1=2;weight 2=0;arc 0>1=2");
        leastIs(sets, 0, 0, new int[] {0, 0, 7});
        leastIs(sets, 1, 0, new int[] {0, 1, 7});
        leastIs(sets, 2, 0, new int[] {0, 3, 7});
        leastIs(sets, 2, 1, new int[] {2, 2, 6});
        leastIs(sets, 0, 7, new int[] {0, 0, 0});
        leastIs(sets, 7, 0, new int[] {0, 7, 7});
        leastIs(sets, 4, 2, new int[] {0, 4, 5});
        for (int what : new int[] {3, -1, Integer.MIN_VALUE}) {
            due.refused("what " + what, Due.ARGUMENT, () -> sets.least(what, 0, 0));
        }
        int[][] wrong = {{8, 0}, {0, 8}, {8, 8}, {-1, 0}, {0, -1}, {1, 1}, {3, 6}, {8, 16}};
        for (int[] pair : wrong) {
            due.refused("least of " + pair[0] + " without " + pair[1], Due.ARGUMENT,
                    () -> sets.least(0, pair[0], pair[1]));
        }
        LeanSets negative = Due.of("size 2;weight 0=-4;weight 1=-3");
        leastIs(negative, 0, 0, new int[] {-7, 3, 3});
        leastIs(negative, 0, 1, new int[] {-3, 2, 2});
        negative.tell(0, 100);
        leastIs(negative, 0, 0, new int[] {-7, 3, 3});
    }

    private static void leastIs(LeanSets sets, int in, int out, int[] want) {
        for (int what = 0; what < 3; what++) {
            due.same("least(" + what + ", " + in + ", " + out + ")", sets.least(what, in, out), want[what]);
        }
    }

    private static void extremes() {
        LeanSets sets = Due.of("size 3;curve{0 1 2}=10 15 16;arc 0>2=4");
        due.same("first", sets.extreme(0x210, 0), 14);
        due.same("second", sets.extreme(0x210, 1), 5);
        due.same("third", sets.extreme(0x210, 2), -3);
        due.same("other order", sets.extreme(0x012, 0), 1);
        due.same("other order", sets.extreme(0x012, 2), 10);
        due.same("higher groups stand for nothing", sets.extreme(0xfffffffffffff012L, 1), 5);
        for (long order : new long[] {0x211, 0x013, 0x310, 0, 0xf10, 0x2100, -1, Long.MIN_VALUE}) {
            due.refused("order " + order, Due.ARGUMENT, () -> sets.extreme(order, 0));
        }
        for (int x : new int[] {3, -1, Integer.MIN_VALUE, Integer.MAX_VALUE}) {
            due.refused("x " + x, Due.INDEX, () -> sets.extreme(0x210, x));
            due.refused("x " + x + ", and no order", Due.INDEX, () -> sets.extreme(0, x));
        }
        LeanSets ten = Due.of("size 10;weight 9=7;weight 8=6");
        due.same("ten elements", ten.extreme(0x0123456789L, 9), 7);
        due.same("ten elements", ten.extreme(0x9876543210L, 8), 6);
        due.refused("a tenth of 10", Due.ARGUMENT, () -> ten.extreme(0xa876543210L, 0));
        due.same("one element", Due.of("size 1;weight 0=-3").extreme(0, 0), -3);
    }
}
