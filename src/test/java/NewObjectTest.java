/** Promise 1, and that calls without a function throw before they look at their arguments. */
public final class NewObjectTest {
    public static void main(String[] args) {
        Due due = new Due();
        LeanSets sets = new LeanSets();
        due.same("NONE", LeanSets.NONE, -1);
        due.same("place()", sets.place(), -1);
        allRefused(due, sets, "new");
        due.same("read() of no text", sets.read(), 1);
        due.same("place() of no text", sets.place(), 0);
        allRefused(due, sets, "after a fault");
        due.same("type: there was no text", sets.type('s', 1), 1);
        due.end();
    }

    private static void allRefused(Due due, LeanSets sets, String when) {
        for (int a : new int[] {0, 1, -1, 99, Integer.MIN_VALUE, Integer.MAX_VALUE}) {
            due.refused(when + " count", Due.STATE, () -> sets.count(a));
            due.refused(when + " value", Due.STATE, () -> sets.value(a));
            due.refused(when + " least", Due.STATE, () -> sets.least(a, a, a));
            due.refused(when + " extreme", Due.STATE, () -> sets.extreme(a, a));
            due.refused(when + " tell", Due.STATE, () -> sets.tell(a, a));
            due.refused(when + " surplus", Due.STATE, () -> sets.surplus());
            due.refused(when + " worst", Due.STATE, () -> sets.worst(a));
            due.refused(when + " tight", Due.STATE, () -> sets.tight(a));
            due.refused(when + " turns", Due.STATE, () -> sets.turns());
            due.refused(when + " turn", Due.STATE, () -> sets.turn(a, a));
            due.refused(when + " point", Due.STATE, () -> sets.point(a, a));
            due.refused(when + " check", Due.STATE, () -> sets.check());
        }
    }
}
