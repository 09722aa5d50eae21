/** Promises 13, 14, 15 and 16. */
public final class ChainTest {
    private static final Due due = new Due();

    public static void main(String[] args) {
        oneTurn();
        manyTurns();
        fractions();
        wrongInputs();
        theLargest();
        due.end();
    }

    private static void oneTurn() {
        LeanSets sets = Due.of("size 4");
        due.same("turns", sets.turns(), 1);
        turnIs(sets, 0, 0, 1, 15);
        pointIs(sets, 3, 0, 1);
        due.same("check", sets.check(), 1);
    }

    private static void manyTurns() {
        LeanSets sets = Due.of("size 10;weight 0=9;weight 1=8;weight 2=7;weight 3=6;weight 4=5;"
                + "weight 5=4;weight 6=3;weight 7=2;weight 8=1;weight 9=-5");
        due.same("turns", sets.turns(), 10);
        turnIs(sets, 0, -5, 1, 512);
        turnIs(sets, 1, 1, 1, 768);
        turnIs(sets, 9, 9, 1, 1023);
        for (int x = 0; x < 9; x++) {
            pointIs(sets, x, 9 - x, 1);
        }
        pointIs(sets, 9, -5, 1);
        due.same("check", sets.check(), 1);
        sets.tell(0, 77);
        due.same("the vector changes no turn", sets.turn(9, 0), 9);
    }

    private static void fractions() {
        LeanSets sets = Due.of("size 10;curve{0 1}=1 1;curve{2 3 4}=-2 -4 -7;curve{5 6 7 8 9}=30 30 30 30 6");
        due.same("turns", sets.turns(), 3);
        turnIs(sets, 0, -7, 3, 4 + 8 + 16);
        turnIs(sets, 1, 1, 2, 31);
        turnIs(sets, 2, 6, 5, 1023);
        pointIs(sets, 0, 1, 2);
        pointIs(sets, 4, -7, 3);
        pointIs(sets, 9, 6, 5);
        due.same("check", sets.check(), 1);
        LeanSets least = Due.of("size 4;curve{0 1 2 3}=6 6 6 6");
        turnIs(least, 0, 3, 2, 15);
        pointIs(least, 2, 3, 2);
        LeanSets below = Due.of("size 2;arc 0>1=9;arc 1>0=9;weight 1=-6");
        turnIs(below, 0, -3, 1, 3);
    }

    private static void wrongInputs() {
        LeanSets sets = Due.of("size 3;weight 0=1;weight 1=2;weight 2=2");
        due.same("turns", sets.turns(), 2);
        for (int i : new int[] {2, 3, -1, 10, Integer.MAX_VALUE, Integer.MIN_VALUE}) {
            due.refused("turn(" + i + ", 0)", Due.INDEX, () -> sets.turn(i, 0));
            due.refused("turn(" + i + ", 3)", Due.INDEX, () -> sets.turn(i, 3));
        }
        for (int x : new int[] {3, -1, 10, Integer.MAX_VALUE, Integer.MIN_VALUE}) {
            due.refused("point(" + x + ", 0)", Due.INDEX, () -> sets.point(x, 0));
            due.refused("point(" + x + ", 2)", Due.INDEX, () -> sets.point(x, 2));
        }
        for (int what : new int[] {3, -1, Integer.MIN_VALUE}) {
            due.refused("turn(0, " + what + ")", Due.ARGUMENT, () -> sets.turn(0, what));
        }
        for (int what : new int[] {2, 3, -1, Integer.MIN_VALUE}) {
            due.refused("point(0, " + what + ")", Due.ARGUMENT, () -> sets.point(0, what));
        }
    }

    private static void theLargest() {
        LeanSets sets = Due.of("size 10" + ";weight 0=99999".repeat(15) + ";weight 9=-99999".repeat(15));
        due.same("turns", sets.turns(), 3);
        turnIs(sets, 0, -1499985, 1, 512);
        turnIs(sets, 1, 0, 1, 1022);
        turnIs(sets, 2, 1499985, 1, 1023);
        due.same("check", sets.check(), 1);
    }

    private static void turnIs(LeanSets sets, int i, int above, int below, int set) {
        due.same("turn(" + i + ", 0)", sets.turn(i, 0), above);
        due.same("turn(" + i + ", 1)", sets.turn(i, 1), below);
        due.same("turn(" + i + ", 2)", sets.turn(i, 2), set);
    }

    private static void pointIs(LeanSets sets, int x, int above, int below) {
        due.same("point(" + x + ", 0)", sets.point(x, 0), above);
        due.same("point(" + x + ", 1)", sets.point(x, 1), below);
    }
}
