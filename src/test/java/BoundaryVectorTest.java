/** The boundary cases of vectors: promises 9 to 12. */
public final class BoundaryVectorTest {
    private static final Due due = new Due();
    private static final int[] FAR = {-1, -2, Integer.MIN_VALUE, Integer.MIN_VALUE + 1, Integer.MAX_VALUE, 10, 31, 32, 33,
        64, 1 << 30};

    public static void main(String[] args) {
        toldElements();
        toldNumbers();
        toldAgain();
        surplusOfAll();
        worstSets();
        worstRefused();
        tightSets();
        noTightSet();
        notBelow();
        tightRefused();
        due.end();
    }

    private static void toldElements() {
        due.about("tell: IndexOutOfBoundsException when there is no such element");
        for (int size = 1; size <= 10; size++) {
            LeanSets sets = Due.of("size " + size);
            int over = size;
            due.refused("the size " + size, Due.INDEX, () -> sets.tell(over, 1));
            due.refused("the size " + size + " and no number", Due.INDEX, () -> sets.tell(over, 1000001));
            for (int x : FAR) {
                due.refused("element " + x, Due.INDEX, () -> sets.tell(x, 1));
                due.refused("element " + x, Due.INDEX, () -> sets.tell(x, Integer.MIN_VALUE));
            }
            due.same("nothing is told", sets.surplus(), 0);
            due.same("nothing is told", sets.worst(0), 0);
            sets.tell(size - 1, 1);
            due.same("the last one is", sets.worst(0), 1 << (size - 1));
        }
    }

    private static void toldNumbers() {
        due.about("IllegalArgumentException when it is not -1000000 .. 1000000");
        LeanSets sets = Due.of("size 2");
        sets.tell(1, 3);
        for (int v : new int[] {1000001, -1000001, 1000002, 2000000, -2000000, Integer.MAX_VALUE, Integer.MIN_VALUE,
            Integer.MIN_VALUE + 1}) {
            due.refused("number " + v, Due.ARGUMENT, () -> sets.tell(1, v));
            due.same("the number there was stays", sets.surplus(), -3);
        }
        sets.tell(1, 1000000);
        due.same("the most", sets.surplus(), -1000000);
        sets.tell(1, 999999);
        due.same("one less", sets.surplus(), -999999);
        sets.tell(1, -1000000);
        sets.tell(0, 1);
        due.same("the least", sets.least(0, 0, 0), 0);
        due.same("the least", sets.surplus(), -1);
        due.same("the least", sets.worst(1), 1);
        sets.tell(0, 0);
        sets.tell(1, 0);
        due.same("0 may be told", sets.worst(1), 3);
    }

    private static void toldAgain() {
        due.about("The vector's number for an element");
        LeanSets sets = Due.of("size 2;weight 0=10;weight 1=-20");
        sets.tell(0, 1000000);
        sets.tell(0, -1000000);
        sets.tell(0, 13);
        due.same("the latest counts", sets.surplus(), -23);
        sets.tell(0, 13);
        due.same("the same again", sets.surplus(), -23);
        sets.tell(0, 10);
        due.same("it goes back", sets.surplus(), -20);
        due.same("f is not changed", sets.value(1), 10);
        due.same("the chain is not changed", sets.turn(1, 0), 10);
        due.same("the extreme vectors are not changed", sets.extreme(0x10, 0), 10);
    }

    private static void surplusOfAll() {
        due.about("its SURPLUS is the least of f(S) - v(S) over all S (the empty one, too)");
        LeanSets above = Due.of("size 2;weight 0=5;weight 1=5");
        due.same("all others are more than 0", above.surplus(), 0);
        due.same("only the empty one is", above.worst(1), 0);
        above.tell(0, 5);
        due.same("one more is 0", above.surplus(), 0);
        due.same("one more is 0", above.worst(1), 1);
        above.tell(0, 6);
        due.same("one is below 0", above.surplus(), -1);
        LeanSets least = Due.of("size 10" + ";weight 0=-99999".repeat(30));
        LeanSets most = Due.of("size 10" + ";weight 0=99999".repeat(30));
        for (int x = 0; x < 10; x++) {
            least.tell(x, 1000000);
            most.tell(x, -1000000);
        }
        due.same("the least of all", least.surplus(), -12999970);
        due.same("the least of all is that of all elements", least.worst(0), 1023);
        due.same("the most of all", most.surplus(), 0);
        due.same("the most of all", most.tight(0), -1);
        due.same("one element", Due.of("size 1;weight 0=-1").surplus(), -1);
        due.same("one element", Due.of("size 1;weight 0=1").surplus(), 0);
    }

    private static void worstSets() {
        due.about("Of the sets for which f(S) - v(S) is the surplus: the intersection (way 0), the union (1)");
        worstIs(Due.of("size 1"), 0, 1);
        worstIs(Due.of("size 1;weight 0=1"), 0, 0);
        worstIs(Due.of("size 1;weight 0=-1"), 1, 1);
        worstIs(Due.of("size 10"), 0, 1023);
        worstIs(Due.of("size 10;weight 9=-1;weight 0=1"), 512, 1022);
        worstIs(Due.of("size 3;arc 0>1=3;arc 1>2=3;arc 2>0=3"), 0, 7);
        LeanSets sets = Due.of("size 3;arc 0>1=3;arc 1>2=3;arc 2>0=3");
        sets.tell(1, 3);
        worstIs(sets, 7, 7);
        sets.tell(1, 0);
        sets.tell(0, -1);
        worstIs(sets, 0, 0);
    }

    private static void worstIs(LeanSets sets, int meet, int join) {
        due.same("worst(0)", sets.worst(0), meet);
        due.same("worst(1)", sets.worst(1), join);
    }

    private static void worstRefused() {
        due.about("IllegalArgumentException when there is no such way");
        LeanSets sets = Due.of("size 3");
        due.refused("worst(2)", Due.ARGUMENT, () -> sets.worst(2));
        for (int way : FAR) {
            due.refused("worst(" + way + ")", Due.ARGUMENT, () -> sets.worst(way));
        }
    }

    private static void tightSets() {
        due.about("The intersection of all tight sets that have an element x");
        LeanSets sets = Due.of("size 3;curve{0 1 2}=4 6 7");
        sets.tell(2, 4);
        sets.tell(0, 2);
        sets.tell(1, 1);
        tightIs(sets, 5, 7, 4);
        LeanSets nothing = Due.of("size 3");
        tightIs(nothing, 1, 2, 4);
        LeanSets cycle = Due.of("size 3;arc 0>1=1;arc 1>2=1;arc 2>0=1");
        tightIs(cycle, 7, 7, 7);
        LeanSets path = Due.of("size 3;arc 0>1=1;arc 1>2=1");
        tightIs(path, 7, 6, 4);
        LeanSets ten = Due.of("size 10;weight 9=5");
        ten.tell(9, 5);
        due.same("the last of ten", ten.tight(9), 512);
        ten.tell(9, 4);
        due.same("the last of ten", ten.tight(9), -1);
        due.same("the first of ten", ten.tight(0), 1);
    }

    private static void noTightSet() {
        due.about("NONE when there is none");
        LeanSets sets = Due.of("size 2;weight 0=1");
        tightIs(sets, -1, 2);
        sets.tell(0, 1);
        tightIs(sets, 1, 2);
        sets.tell(1, -1);
        tightIs(sets, 1, -1);
        sets.tell(0, 0);
        tightIs(sets, -1, -1);
        due.about("the empty set is tight, but has no element");
        due.same("it is", sets.surplus(), 0);
        due.same("it is alone", sets.worst(1), 0);
    }

    private static void notBelow() {
        due.about("NONE when the vector does not lie below f");
        LeanSets sets = Due.of("size 3;weight 0=1;weight 1=2;weight 2=3");
        sets.tell(0, 1);
        sets.tell(1, 2);
        sets.tell(2, 3);
        tightIs(sets, 1, 2, 4);
        for (int x = 0; x < 3; x++) {
            sets.tell(x, x + 2);
            tightIs(sets, -1, -1, -1);
            sets.tell(x, x + 1);
        }
        due.about("It lies BELOW f if v(S) is at most f(S) for all S");
        tightIs(sets, 1, 2, 4);
        due.same("at most, not less", sets.surplus(), 0);
    }

    private static void tightRefused() {
        due.about("tight: IndexOutOfBoundsException when there is no such element");
        for (int size = 1; size <= 10; size++) {
            LeanSets sets = Due.of("size " + size);
            int over = size;
            due.same("the last one", sets.tight(size - 1), 1 << (size - 1));
            due.refused("the size " + size, Due.INDEX, () -> sets.tight(over));
            for (int x : FAR) {
                due.refused("tight(" + x + ")", Due.INDEX, () -> sets.tight(x));
            }
            sets.tell(0, 1);
            due.refused("not below, too", Due.INDEX, () -> sets.tight(over));
        }
    }

    private static void tightIs(LeanSets sets, int... want) {
        for (int x = 0; x < want.length; x++) {
            due.same("tight(" + x + ")", sets.tight(x), want[x]);
        }
    }
}
