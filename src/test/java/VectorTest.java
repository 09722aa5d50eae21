/** Promises 9, 10, 11 and 12. */
public final class VectorTest {
    private static final Due due = new Due();

    public static void main(String[] args) {
        telling();
        worstSets();
        tightSets();
        due.end();
    }

    private static void telling() {
        LeanSets sets = Due.of("size 2;weight 0=5;weight 1=6");
        due.same("the vector is 0", sets.surplus(), 0);
        sets.tell(0, 1000000);
        due.same("surplus", sets.surplus(), -999995);
        sets.tell(0, 7);
        due.same("the latest number counts", sets.surplus(), -2);
        sets.tell(1, 10);
        due.same("both", sets.surplus(), -6);
        due.refused("no element 2", Due.INDEX, () -> sets.tell(2, 0));
        due.refused("no element -1", Due.INDEX, () -> sets.tell(-1, 0));
        due.refused("no element, no number", Due.INDEX, () -> sets.tell(10, 1000001));
        for (int v : new int[] {1000001, -1000001, Integer.MAX_VALUE, Integer.MIN_VALUE}) {
            due.refused("number " + v, Due.ARGUMENT, () -> sets.tell(0, v));
        }
        due.same("nothing has changed", sets.surplus(), -6);
        sets.tell(0, -1000000);
        sets.tell(1, -1000000);
        due.same("the empty set", sets.surplus(), 0);
        LeanSets large = Due.of("size 10" + ";weight 0=-99999".repeat(30));
        for (int x = 0; x < 10; x++) {
            large.tell(x, 1000000);
        }
        due.same("the least surplus", large.surplus(), -12999970);
        due.same("f is the same", large.value(1023), -2999970);
    }

    private static void worstSets() {
        LeanSets sets = Due.of("size 3;weight 0=1;weight 1=2;weight 2=3");
        due.same("worst(0) of 0", sets.worst(0), 0);
        due.same("worst(1) of 0", sets.worst(1), 0);
        sets.tell(0, 1);
        sets.tell(1, 5);
        due.same("worst(0)", sets.worst(0), 2);
        due.same("worst(1)", sets.worst(1), 3);
        due.refused("worst(2)", Due.ARGUMENT, () -> sets.worst(2));
        due.refused("worst(-1)", Due.ARGUMENT, () -> sets.worst(-1));
    }

    private static void tightSets() {
        LeanSets sets = Due.of("size 3;curve{0 1 2}=4 6 7");
        sets.tell(0, 4);
        sets.tell(1, 2);
        due.same("tight alone", sets.tight(0), 1);
        due.same("tight with 0", sets.tight(1), 3);
        due.same("not tight", sets.tight(2), -1);
        sets.tell(2, 1);
        due.same("tight with all", sets.tight(2), 7);
        sets.tell(2, 2);
        due.same("not below", sets.tight(0), -1);
        due.same("not below", sets.tight(2), -1);
        for (int x : new int[] {3, -1, 32, Integer.MIN_VALUE}) {
            due.refused("tight(" + x + ")", Due.INDEX, () -> sets.tight(x));
        }
        notBelowElsewhere();
        LeanSets cut = Due.of("size 2;arc 0>1=5;arc 1>0=5");
        due.same("both or none", cut.tight(0), 3);
        due.same("both or none", cut.tight(1), 3);
    }

    /** A set is tight, but another one, without its element or without the other one, has less than the vector. */
    private static void notBelowElsewhere() {
        LeanSets sets = Due.of("size 2;curve{0 1}=4 6");
        sets.tell(0, 1);
        sets.tell(1, 5);
        due.same("not below without 0", sets.tight(0), -1);
        sets.tell(0, 5);
        sets.tell(1, 1);
        due.same("not below without 1", sets.tight(1), -1);
        sets.tell(0, 3);
        sets.tell(1, 3);
        due.same("below", sets.tight(1), 3);
    }
}
