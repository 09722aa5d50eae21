/** The boundary cases of the function, its least sets and its extreme vectors: promises 5 to 8. */
public final class BoundaryFunctionTest {
    private static final Due due = new Due();
    private static final int[] FAR = {-1, -2, -1024, Integer.MIN_VALUE, Integer.MIN_VALUE + 1, Integer.MIN_VALUE + 7,
        Integer.MAX_VALUE, 1 << 30, 1 << 16};

    public static void main(String[] args) {
        noFunction();
        refusedCallsChangeNothing();
        setsByBits();
        weights();
        arcs();
        curves();
        largest();
        counts();
        noSuchWhat();
        noElementInValue();
        leastOfBound();
        leastRefused();
        extremeOrders();
        extremeElement();
        extremeRefused();
        due.end();
    }

    private static void noFunction() {
        due.about("throw IllegalStateException when there is no function (before they look at their arguments)");
        LeanSets sets = new LeanSets();
        String[] texts = {"", "size 0", "size 2;weight 2=1", "size 2;curve{0 1}=1"};
        for (String text : texts) {
            Due.typeAll(sets, text);
            allRefused(sets, 0);
            allRefused(sets, -1);
            allRefused(sets, Integer.MAX_VALUE);
            due.same("there is no function for " + text, sets.read() == 0 ? 1 : 0, 0);
        }
        Due.typeAll(sets, "size 1");
        allRefused(sets, 0);
        due.same("read", sets.read(), 0);
        due.same("a function now", sets.check(), 1);
    }

    private static void allRefused(LeanSets sets, int a) {
        due.refused("count", Due.STATE, () -> sets.count(a));
        due.refused("value", Due.STATE, () -> sets.value(a));
        due.refused("least", Due.STATE, () -> sets.least(a, a, a));
        due.refused("extreme", Due.STATE, () -> sets.extreme(a, a));
        due.refused("tell", Due.STATE, () -> sets.tell(a, a));
        due.refused("surplus", Due.STATE, () -> sets.surplus());
        due.refused("worst", Due.STATE, () -> sets.worst(a));
        due.refused("tight", Due.STATE, () -> sets.tight(a));
        due.refused("turns", Due.STATE, () -> sets.turns());
        due.refused("turn", Due.STATE, () -> sets.turn(a, a));
        due.refused("point", Due.STATE, () -> sets.point(a, a));
        due.refused("check", Due.STATE, () -> sets.check());
    }

    private static void refusedCallsChangeNothing() {
        due.about("What throws changes nothing");
        LeanSets sets = Due.of("size 3;weight 0=-5;arc 0>1=4;arc 2>0=1;curve{0 2}=3 5");
        sets.tell(1, 4);
        sets.tell(2, -6);
        String before = Due.seen(sets);
        Due.typeAll(sets, "size 1;w");
        due.refused("count", Due.ARGUMENT, () -> sets.count(4));
        due.refused("value", Due.ARGUMENT, () -> sets.value(8));
        due.refused("least", Due.ARGUMENT, () -> sets.least(0, 1, 1));
        due.refused("extreme", Due.ARGUMENT, () -> sets.extreme(0x110, 0));
        due.refused("tell", Due.ARGUMENT, () -> sets.tell(0, 1000001));
        due.refused("tell", Due.INDEX, () -> sets.tell(3, 1));
        due.refused("worst", Due.ARGUMENT, () -> sets.worst(2));
        due.refused("tight", Due.INDEX, () -> sets.tight(3));
        due.refused("turn", Due.INDEX, () -> sets.turn(3, 0));
        due.refused("turn", Due.ARGUMENT, () -> sets.turn(0, 3));
        due.refused("point", Due.ARGUMENT, () -> sets.point(0, 2));
        due.sameSeen("behind all of them", sets, before);
        due.same("the text stays", sets.type(Due.packed("eight0=3"), 8), 16);
        due.same("read", sets.read(), 0);
        due.same("value", sets.value(1), 3);
    }

    private static void setsByBits() {
        due.about("bit x is 1 for those x that are in");
        StringBuilder text = new StringBuilder("size 10");
        for (int x = 0; x < 10; x++) {
            text.append(";weight ").append(x).append("=").append(1 << x);
        }
        LeanSets sets = Due.of(text.toString());
        for (int x = 0; x < 10; x++) {
            due.same("only " + x, sets.value(1 << x), 1 << x);
            due.same("all but " + x, sets.value(1023 - (1 << x)), 1023 - (1 << x));
        }
        due.same("none", sets.value(0), 0);
        due.same("all", sets.value(1023), 1023);
    }

    private static void weights() {
        due.about("a weight counts its value when its element is in S");
        valuesAre("size 1;weight 0=-7", 0, -7);
        valuesAre("size 2;weight 1=7;weight 1=7;weight 1=-4", 0, 0, 10, 10);
        valuesAre("size 1;weight 0=0", 0, 0);
    }

    private static void arcs() {
        due.about("an arc counts its value when its first element is in S and its second one is not");
        valuesAre("size 2;arc 0>1=6", 0, 6, 0, 0);
        valuesAre("size 2;arc 1>0=6", 0, 0, 6, 0);
        valuesAre("size 2;arc 1>0=6;arc 0>1=2;arc 0>1=1", 0, 3, 6, 0);
        valuesAre("size 2;arc 0>1=0", 0, 0, 0, 0);
    }

    private static void curves() {
        due.about("a curve counts nothing when none of its elements is in S");
        valuesAre("size 3;curve{1}=9", 0, 0, 9, 9, 0, 0, 9, 9);
        due.about("otherwise the value whose place among its values (from 1 on) is how many of them are");
        valuesAre("size 3;curve{2 0}=9 4", 0, 9, 0, 9, 9, 4, 9, 4);
        valuesAre("size 3;curve{2 0 1}=9 4 -2", 0, 9, 9, 4, 9, 4, 4, -2);
        LeanSets ten = Due.of("size 10;curve{9 8 7 6 5 4 3 2 1 0}=10 19 27 34 40 45 49 52 54 55");
        int[] want = {0, 10, 19, 27, 34, 40, 45, 49, 52, 54, 55};
        for (int many = 0; many <= 10; many++) {
            due.same(many + " of ten", ten.value((1 << many) - 1), want[many]);
            due.same(many + " of ten", ten.value(1023 & ~(1023 >> many)), want[many]);
        }
    }

    private static void largest() {
        due.about("f has for each set S the sum of its terms");
        valuesAre("size 1", 0, 0);
        LeanSets least = Due.of("size 10" + ";weight 9=-99999".repeat(30));
        due.same("the least of all", least.value(512), -2999970);
        due.same("the least of all", least.least(0, 0, 0), -2999970);
        LeanSets most = Due.of("size 10" + ";arc 9>0=99999".repeat(30));
        due.same("the most of all", most.value(1022), 2999970);
        due.same("the most of all", most.least(0, 512, 1), 2999970);
        due.same("the most of all", most.extreme(0x0123456789L, 9), 2999970);
        due.same("the least of all", most.extreme(0x0123456789L, 0), -2999970);
    }

    private static void counts() {
        due.about("The size (what 0), how many weights (1), arcs (2), curves (3)");
        countsAre("size 1", 1, 0, 0, 0);
        countsAre("size 10" + ";weight 0=0".repeat(30), 10, 30, 0, 0);
        countsAre("size 2" + ";arc 0>1=0".repeat(30), 2, 0, 30, 0);
        countsAre("size 2" + ";curve{1}=0".repeat(30), 2, 0, 0, 30);
        countsAre("size 2" + ";curve{1}=0;arc 0>1=0;arc 1>0=0;weight 1=0;weight 1=0;weight 0=0".repeat(5), 2, 15, 10, 5);
    }

    private static void countsAre(String text, int... want) {
        LeanSets sets = Due.of(text);
        for (int what = 0; what < 4; what++) {
            due.same("count(" + what + ") of " + text, sets.count(what), want[what]);
        }
    }

    private static void noSuchWhat() {
        due.about("IllegalArgumentException when there is no such what");
        LeanSets sets = Due.of("size 2;weight 0=1");
        for (int what : FAR) {
            due.refused("count(" + what + ")", Due.ARGUMENT, () -> sets.count(what));
            due.refused("least(" + what + ", 0, 0)", Due.ARGUMENT, () -> sets.least(what, 0, 0));
        }
        due.refused("count(4)", Due.ARGUMENT, () -> sets.count(4));
        due.refused("least(3, 0, 0)", Due.ARGUMENT, () -> sets.least(3, 0, 0));
    }

    private static void noElementInValue() {
        due.about("f of a set. IllegalArgumentException when it has what is no element");
        for (int size = 1; size <= 10; size++) {
            LeanSets sets = Due.of("size " + size + ";weight 0=4");
            int all = (1 << size) - 1;
            due.same("all of " + size, sets.value(all), 4);
            due.refused("one more of " + size, Due.ARGUMENT, () -> sets.value(all + 1));
            due.refused("some and one more of " + size, Due.ARGUMENT, () -> sets.value(all + 2));
            due.refused("bit 31 of " + size, Due.ARGUMENT, () -> sets.value(Integer.MIN_VALUE | all));
            for (int set : FAR) {
                due.refused(set + " of " + size, Due.ARGUMENT, () -> sets.value(set));
            }
        }
    }

    private static void leastOfBound() {
        due.about("Of all sets that have all elements of one set, and none of another one");
        LeanSets sets = Due.of("size 3;weight 0=-1;weight 1=1;weight 2=0");
        leastIs(sets, 0, 0, -1, 1, 5);
        leastIs(sets, 7, 0, 0, 7, 7);
        leastIs(sets, 0, 7, 0, 0, 0);
        leastIs(sets, 2, 5, 1, 2, 2);
        leastIs(sets, 5, 2, -1, 5, 5);
        leastIs(sets, 1, 0, -1, 1, 5);
        leastIs(sets, 0, 1, 0, 0, 4);
        leastIs(sets, 0, 4, -1, 1, 1);
        leastIs(sets, 4, 0, -1, 5, 5);
        leastIs(Due.of("size 10"), 0, 0, 0, 0, 1023);
        leastIs(Due.of("size 10"), 512, 1, 0, 512, 1022);
        leastIs(Due.of("size 10"), 1023, 0, 0, 1023, 1023);
        leastIs(Due.of("size 10"), 0, 1023, 0, 0, 0);
        leastIs(Due.of("size 1;weight 0=-3"), 0, 0, -3, 1, 1);
        leastIs(Due.of("size 1;weight 0=3"), 0, 0, 0, 0, 0);
        leastIs(Due.of("size 1;weight 0=3"), 1, 0, 3, 1, 1);
        leastIs(Due.of("size 1;weight 0=-3"), 0, 1, 0, 0, 0);
        leastIs(Due.of("size 2;arc 0>1=4;arc 1>0=4"), 0, 0, 0, 0, 3);
    }

    private static void leastIs(LeanSets sets, int in, int out, int... want) {
        for (int what = 0; what < 3; what++) {
            due.same("least(" + what + ", " + in + ", " + out + ")", sets.least(what, in, out), want[what]);
        }
    }

    private static void leastRefused() {
        due.about("or both sets have what is no element");
        LeanSets sets = Due.of("size 3;weight 0=-1");
        for (int far : FAR) {
            due.refused("in " + far, Due.ARGUMENT, () -> sets.least(0, far, 0));
            due.refused("out " + far, Due.ARGUMENT, () -> sets.least(0, 0, far));
            due.refused("both " + far, Due.ARGUMENT, () -> sets.least(0, far, far));
        }
        due.refused("in 8", Due.ARGUMENT, () -> sets.least(2, 8, 0));
        due.refused("out 8", Due.ARGUMENT, () -> sets.least(2, 0, 8));
        due.refused("in 8, out 16", Due.ARGUMENT, () -> sets.least(2, 8, 16));
        due.refused("in 1 and 8", Due.ARGUMENT, () -> sets.least(2, 9, 0));
        due.about("or share one");
        for (int x = 0; x < 3; x++) {
            int one = 1 << x;
            due.refused("both have " + x, Due.ARGUMENT, () -> sets.least(1, one, one));
            due.refused("both have " + x, Due.ARGUMENT, () -> sets.least(1, 7, one));
            due.refused("both have " + x, Due.ARGUMENT, () -> sets.least(1, one, 7));
        }
        due.refused("both are all", Due.ARGUMENT, () -> sets.least(0, 7, 7));
        due.same("they share none", sets.least(0, 5, 2), -1);
        due.same("both are empty", sets.least(0, 0, 0), -1);
    }

    private static void extremeOrders() {
        due.about("what f is more, when it comes to all that stand before it");
        LeanSets sets = Due.of("size 3;curve{0 1 2}=9 15 16;arc 0>1=2;weight 2=-4");
        extremeIs(sets, 0x210, 11, 4, -3);
        extremeIs(sets, 0x120, 11, -1, 2);
        extremeIs(sets, 0x201, 6, 9, -3);
        extremeIs(sets, 0x021, 1, 9, 2);
        extremeIs(sets, 0x102, 8, -1, 5);
        extremeIs(sets, 0x012, 1, 6, 5);
        due.about("the order's elements are the lowest n groups of four bits of a number, the first one lowest");
        extremeIs(sets, 0x7ffffffffffff102L, 8, -1, 5);
        extremeIs(sets, Long.MIN_VALUE | 0x102, 8, -1, 5);
        extremeIs(sets, -1L << 12 | 0x102, 8, -1, 5);
        extremeIs(sets, 0x3102, 8, -1, 5);
        due.same("one element", Due.of("size 1;weight 0=8").extreme(0, 0), 8);
        due.same("one element", Due.of("size 1;weight 0=8").extreme(-16, 0), 8);
        LeanSets ten = Due.of("size 10;curve{0 1 2 3 4 5 6 7 8 9}=10 19 27 34 40 45 49 52 54 55");
        for (int x = 0; x < 10; x++) {
            due.same("of ten " + x, ten.extreme(0x9876543210L, x), 10 - x);
            due.same("of ten " + x, ten.extreme(-1L << 40 | 0x0123456789L, x), x + 1);
        }
    }

    private static void extremeIs(LeanSets sets, long order, int... want) {
        for (int x = 0; x < want.length; x++) {
            due.same("extreme(" + Long.toHexString(order) + ", " + x + ")", sets.extreme(order, x), want[x]);
        }
    }

    private static void extremeElement() {
        due.about("IndexOutOfBoundsException when x is no element");
        for (int size = 1; size <= 10; size++) {
            LeanSets sets = Due.of("size " + size);
            int over = size;
            long order = 0x9876543210L;
            due.same("the last of " + size, sets.extreme(order, size - 1), 0);
            due.refused("the size " + size, Due.INDEX, () -> sets.extreme(order, over));
            due.refused("32 more", Due.INDEX, () -> sets.extreme(order, 32));
            due.refused("the order is none, too", Due.INDEX, () -> sets.extreme(-1, over));
            for (int x : FAR) {
                due.refused("x " + x, Due.INDEX, () -> sets.extreme(order, x));
            }
        }
    }

    private static void extremeRefused() {
        due.about("IllegalArgumentException when the groups are not all elements, each once");
        LeanSets sets = Due.of("size 3;weight 0=1");
        for (long order : new long[] {0, 1, 0x22, 0x211, 0x110, 0x010, 0x222, 0x310, 0x213, 0x230, 0xf10, 0x2f0, 0x21f,
            0x2100, 0x1200, -1, Long.MAX_VALUE, Long.MIN_VALUE, 0x210L << 12, 0x210L << 32, 0x210L << 52}) {
            for (int x = 0; x < 3; x++) {
                int element = x;
                due.refused(Long.toHexString(order) + ", " + x, Due.ARGUMENT, () -> sets.extreme(order, element));
            }
        }
        LeanSets ten = Due.of("size 10");
        for (long order : new long[] {0xa876543210L, 0x987654321aL, 0x9876543211L, 0x0876543210L, 0x976543210L}) {
            due.refused(Long.toHexString(order), Due.ARGUMENT, () -> ten.extreme(order, 3));
        }
        LeanSets one = Due.of("size 1");
        for (long order = 1; order < 16; order++) {
            long other = order;
            due.refused(Long.toHexString(order), Due.ARGUMENT, () -> one.extreme(other, 0));
        }
    }

    private static void valuesAre(String text, int... want) {
        LeanSets sets = Due.of(text);
        for (int set = 0; set < want.length; set++) {
            due.same("value(" + set + ") of " + text, sets.value(set), want[set]);
        }
    }
}
