/** The boundary cases of the chain and of the point: promises 13 to 16. */
public final class BoundaryChainTest {
    private static final Due due = new Due();
    private static final int[] FAR = {-1, -2, Integer.MIN_VALUE, Integer.MIN_VALUE + 1, Integer.MAX_VALUE, 10, 32, 1 << 30};

    public static void main(String[] args) {
        fewestTurns();
        mostTurns();
        sameNumberComesTogether();
        setOfATurn();
        leastTerms();
        largest();
        turnRefused();
        pointOfEach();
        pointRefused();
        checks();
        newChain();
        due.end();
    }

    private static void fewestTurns() {
        due.about("How many turns there are");
        for (int size = 1; size <= 10; size++) {
            LeanSets sets = Due.of("size " + size);
            due.same("turns", sets.turns(), 1);
            turnIs(sets, 0, 0, 1, (1 << size) - 1);
        }
        LeanSets one = Due.of("size 1;weight 0=-7");
        due.same("turns", one.turns(), 1);
        turnIs(one, 0, -7, 1, 1);
        LeanSets bound = Due.of("size 3;weight 0=-9;arc 0>1=99;arc 1>2=99");
        due.same("turns", bound.turns(), 1);
        turnIs(bound, 0, -3, 1, 7);
    }

    private static void mostTurns() {
        due.about("As t grows from far below, L(t) grows from nothing to all elements, at TURNS t1 < t2 < ..");
        StringBuilder text = new StringBuilder("size 10");
        for (int x = 0; x < 10; x++) {
            text.append(";weight ").append(x).append("=").append(7 - 3 * x);
        }
        LeanSets sets = Due.of(text.toString());
        due.same("turns", sets.turns(), 10);
        for (int i = 0; i < 10; i++) {
            turnIs(sets, i, 7 - 3 * (9 - i), 1, 1023 & ~(1023 >> (i + 1)));
            due.same("point", sets.point(i, 0), 7 - 3 * i);
        }
    }

    private static void sameNumberComesTogether() {
        due.about("L(t) is the union of all cheapest sets");
        LeanSets sets = Due.of("size 4;weight 0=5;weight 1=-2;weight 2=5;weight 3=-2");
        due.same("turns", sets.turns(), 2);
        turnIs(sets, 0, -2, 1, 10);
        turnIs(sets, 1, 5, 1, 15);
        LeanSets line = Due.of("size 3;curve{0 1 2}=4 8 12");
        due.same("turns", line.turns(), 1);
        turnIs(line, 0, 4, 1, 7);
        LeanSets near = Due.of("size 2;weight 0=99999;weight 1=99998");
        due.same("turns", near.turns(), 2);
        turnIs(near, 0, 99998, 1, 2);
        LeanSets fractions = Due.of("size 10;curve{0 1 2 3 4}=9 9 9 9 9;curve{5 6 7 8}=7 7 7 7;curve{9}=2");
        due.same("turns", fractions.turns(), 3);
        turnIs(fractions, 0, 7, 4, 0b0111100000);
        turnIs(fractions, 1, 9, 5, 0b0111111111);
        turnIs(fractions, 2, 2, 1, 1023);
        LeanSets equal = Due.of("size 6;curve{0 1 2 3}=6 6 6 6;curve{4 5}=3 3");
        due.same("3/2 is 6/4", equal.turns(), 1);
        turnIs(equal, 0, 3, 2, 63);
    }

    private static void setOfATurn() {
        due.about("the SET of a turn is L(t) there");
        LeanSets sets = Due.of("size 3;weight 0=1;arc 0>1=5;weight 1=2;weight 2=9");
        due.same("turns", sets.turns(), 2);
        turnIs(sets, 0, 3, 2, 3);
        turnIs(sets, 1, 9, 1, 7);
        LeanSets last = Due.of("size 3;weight 0=1;arc 1>0=5;weight 1=2;weight 2=9");
        due.same("turns", last.turns(), 3);
        turnIs(last, 0, 1, 1, 1);
        turnIs(last, 1, 2, 1, 3);
        turnIs(last, 2, 9, 1, 7);
    }

    private static void leastTerms() {
        due.about("the number above (what 0), below (1), in least terms");
        curveOfAll(2, 5, 5, 2);
        curveOfAll(2, 6, 3, 1);
        curveOfAll(4, 6, 3, 2);
        curveOfAll(6, 4, 2, 3);
        curveOfAll(6, 9, 3, 2);
        curveOfAll(8, 12, 3, 2);
        curveOfAll(9, 6, 2, 3);
        curveOfAll(10, 4, 2, 5);
        curveOfAll(10, 1, 1, 10);
        curveOfAll(10, 99999, 99999, 10);
        curveOfAll(10, 99990, 9999, 1);
        curveOfAll(7, 0, 0, 1);
        LeanSets below = Due.of("size 4;arc 0>1=99;arc 1>2=99;arc 2>3=99;weight 0=-6");
        turnIs(below, 0, -3, 2, 15);
        LeanSets tenth = Due.of("size 2;arc 0>1=9;weight 0=-1");
        turnIs(tenth, 0, -1, 2, 3);
    }

    /** A curve that is worth the same for any of its elements comes in at once. */
    private static void curveOfAll(int size, int value, int above, int below) {
        StringBuilder elements = new StringBuilder();
        StringBuilder values = new StringBuilder();
        for (int x = 0; x < size; x++) {
            elements.append(x).append(' ');
            values.append(value).append(' ');
        }
        LeanSets sets = Due.of("size " + size + ";curve{" + elements + "}=" + values);
        turnIs(sets, 0, above, below, (1 << size) - 1);
        due.same("point", sets.point(size - 1, 0), above);
        due.same("point", sets.point(size - 1, 1), below);
        due.same("check", sets.check(), 1);
    }

    private static void largest() {
        due.about("a turn's number may be as large as 30 terms make it");
        LeanSets most = Due.of("size 10" + ";weight 3=99999".repeat(30));
        turnIs(most, 1, 2999970, 1, 1023);
        due.same("check", most.check(), 1);
        LeanSets least = Due.of("size 10" + ";weight 3=-99999".repeat(30));
        turnIs(least, 0, -2999970, 1, 8);
        due.same("check", least.check(), 1);
        LeanSets spread = Due.of("size 7" + ";curve{0 1 2 3 4 5 6}=1 1 1 1 1 1 -99999".repeat(12));
        turnIs(spread, 0, -12 * 99999, 7, 127);
        due.same("check", spread.check(), 1);
        LeanSets torn = Due.of("size 2" + ";arc 0>1=99999".repeat(15) + ";weight 0=-99999".repeat(15));
        due.same("turns", torn.turns(), 1);
        turnIs(torn, 0, -1499985, 2, 3);
        due.same("check", torn.check(), 1);
    }

    private static void turnRefused() {
        due.about("IndexOutOfBoundsException when there is no such turn");
        LeanSets one = Due.of("size 10");
        LeanSets ten = Due.of("size 10;weight 0=1;weight 1=2;weight 2=3;weight 3=4;weight 4=5;weight 5=6;"
                + "weight 6=7;weight 7=8;weight 8=9");
        due.same("turns", ten.turns(), 10);
        due.same("the last one", ten.turn(9, 0), 9);
        due.refused("turn 1 of 1", Due.INDEX, () -> one.turn(1, 0));
        due.refused("turn 1 of 1, no such what", Due.INDEX, () -> one.turn(1, 3));
        for (int i : FAR) {
            for (int what = -1; what <= 3; what++) {
                int which = what;
                due.refused("turn(" + i + ", " + what + ")", Due.INDEX, () -> one.turn(i, which));
                due.refused("turn(" + i + ", " + what + ")", Due.INDEX, () -> ten.turn(i, which));
            }
        }
        due.about("turn: IllegalArgumentException when there is no such what");
        due.refused("turn(0, 3)", Due.ARGUMENT, () -> one.turn(0, 3));
        due.refused("turn(9, 3)", Due.ARGUMENT, () -> ten.turn(9, 3));
        for (int what : FAR) {
            due.refused("turn(0, " + what + ")", Due.ARGUMENT, () -> one.turn(0, what));
        }
    }

    private static void pointOfEach() {
        due.about("THE POINT has for each element the turn at which it comes into L(t)");
        LeanSets sets = Due.of("size 5;curve{1 3 4}=4 4 4;weight 2=-6;weight 0=-6");
        int[] above = {-6, 4, -6, 4, 4};
        int[] below = {1, 3, 1, 3, 3};
        for (int x = 0; x < 5; x++) {
            due.same("point(" + x + ", 0)", sets.point(x, 0), above[x]);
            due.same("point(" + x + ", 1)", sets.point(x, 1), below[x]);
        }
        LeanSets one = Due.of("size 1;weight 0=12");
        due.same("one element", one.point(0, 0), 12);
        due.same("one element", one.point(0, 1), 1);
    }

    private static void pointRefused() {
        due.about("point: IndexOutOfBoundsException when there is no such element");
        for (int size = 1; size <= 10; size++) {
            LeanSets sets = Due.of("size " + size);
            int over = size;
            due.same("the last one", sets.point(size - 1, 1), 1);
            due.refused("the size", Due.INDEX, () -> sets.point(over, 0));
            due.refused("the size, no such what", Due.INDEX, () -> sets.point(over, 2));
            for (int x : FAR) {
                due.refused("point(" + x + ", 0)", Due.INDEX, () -> sets.point(x, 0));
                due.refused("point(" + x + ", 2)", Due.INDEX, () -> sets.point(x, 2));
            }
        }
        due.about("point: IllegalArgumentException when there is no such what");
        LeanSets sets = Due.of("size 3");
        due.refused("point(0, 2)", Due.ARGUMENT, () -> sets.point(0, 2));
        for (int what : FAR) {
            due.refused("point(2, " + what + ")", Due.ARGUMENT, () -> sets.point(2, what));
        }
    }

    private static void checks() {
        due.about("check: 1");
        String[] texts = {"size 1", "size 10", "size 2;arc 0>1=3", "size 3;curve{0 1 2}=5 5 5;arc 2>0=1",
            "size 10;curve{0 1 2 3 4}=9 9 9 9 8;curve{5 6 7}=2 2 2;curve{8 9}=1 1",
            "size 10;curve{9 8 7 6 5}=9 9 9 9 8;curve{4 3 2}=2 2 1;curve{1 0}=1 0;arc 0>9=4;arc 9>3=7",
            "size 4;weight 3=-1;weight 0=-1;arc 3>0=2;arc 0>3=2"};
        for (String text : texts) {
            LeanSets sets = Due.of(text);
            due.same("check of " + text, sets.check(), 1);
            sets.tell(0, 1000000);
            due.same("the vector is not asked", sets.check(), 1);
            due.same("check changes nothing", sets.surplus(), Math.toIntExact(sets.value(sets.worst(0)) - 1000000));
        }
    }

    private static void newChain() {
        due.about("read: the chain is that of the latest function");
        LeanSets sets = Due.of("size 3;weight 0=1;weight 1=2;weight 2=3");
        due.same("turns", sets.turns(), 3);
        Due.typeAll(sets, "size 2;weight 0=8");
        due.same("read", sets.read(), 0);
        due.same("turns", sets.turns(), 2);
        turnIs(sets, 0, 0, 1, 2);
        turnIs(sets, 1, 8, 1, 3);
        due.refused("the third turn is gone", Due.INDEX, () -> sets.turn(2, 0));
        due.refused("the third element is gone", Due.INDEX, () -> sets.point(2, 0));
    }

    private static void turnIs(LeanSets sets, int i, int above, int below, int set) {
        due.same("turn(" + i + ", 0)", sets.turn(i, 0), above);
        due.same("turn(" + i + ", 1)", sets.turn(i, 1), below);
        due.same("turn(" + i + ", 2)", sets.turn(i, 2), set);
    }
}
