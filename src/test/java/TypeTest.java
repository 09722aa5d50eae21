/** Promise 2. */
public final class TypeTest {
    public static void main(String[] args) {
        Due due = new Due();
        lengthsAndOrder(due);
        wrongInputs(due);
        mostCharacters(due);
        due.end();
    }

    private static void lengthsAndOrder(Due due) {
        LeanSets sets = new LeanSets();
        due.same("type si", sets.type(Due.packed("si"), 2), 2);
        due.same("type ze 1", sets.type(Due.packed("ze 1"), 4), 6);
        due.same("bytes above the lowest n stand for nothing",
                sets.type(0xffffffffffff0000L | Due.packed("0;"), 1), 7);
        due.same("a fault shows that ; came alone, with no 0 before it", sets.read(), 1);
        due.same("place", sets.place(), 7);
        due.same("the text is empty then", sets.type(Due.packed("size 10 "), 8), 8);
        due.same("read", sets.read(), 0);
        due.same("count(0)", sets.count(0), 10);
    }

    private static void wrongInputs(Due due) {
        LeanSets sets = new LeanSets();
        due.same("n 0", sets.type('a', 0), -1);
        due.same("n 9", sets.type(Due.packed("aaaaaaaa"), 9), -1);
        due.same("n -1", sets.type('a', -1), -1);
        due.same("n least", sets.type('a', Integer.MIN_VALUE), -1);
        due.same("n most", sets.type('a', Integer.MAX_VALUE), -1);
        due.same("31", sets.type(31, 1), -1);
        due.same("127", sets.type(127, 1), -1);
        due.same("0", sets.type(0, 1), -1);
        due.same("255", sets.type(-1L, 8), -1);
        due.same("128 + 32 is no blank", sets.type(160, 1), -1);
        due.same("the last of eight", sets.type(Due.packed("size 10") << 8 | 10, 8), -1);
        due.same("the first of eight", sets.type(7L << 56 | Due.packed("size 10"), 8), -1);
        due.same("too few characters for n", sets.type('a', 2), -1);
        due.same("32", sets.type(32, 1), 1);
        due.same("126", sets.type(126, 1), 2);
        due.same("nothing else was put", sets.read(), 1);
        due.same("place", sets.place(), 1);
    }

    private static void mostCharacters(Due due) {
        LeanSets sets = new LeanSets();
        Due.typeAll(sets, "size 2; " + " ".repeat(588));
        due.same("596 and 5", sets.type(Due.packed("     "), 5), -1);
        due.same("596 and 3", sets.type(Due.packed("arc"), 3), 599);
        due.same("599 and 2", sets.type(Due.packed("  "), 2), -1);
        due.same("599 and 1", sets.type(' ', 1), 600);
        due.same("600 and 1", sets.type(' ', 1), -1);
        due.same("600 and 8", sets.type(Due.packed("        "), 8), -1);
        due.same("read of 600", sets.read(), 1);
        due.same("place", sets.place(), 600);
        Due.typeAll(sets, ";".repeat(600));
        due.same("read of 600 words", sets.read(), 1);
        due.same("place", sets.place(), 0);
    }
}
