/** Counts and prints the calls whose answers are not the ones that are due. */
final class Due {
    static final Class<IllegalStateException> STATE = IllegalStateException.class;
    static final Class<IllegalArgumentException> ARGUMENT = IllegalArgumentException.class;
    static final Class<IndexOutOfBoundsException> INDEX = IndexOutOfBoundsException.class;

    private int wrong = 0;
    private String sentence = "";

    /** The sentence of the document that the calls from here on are about. */
    void about(String newSentence) {
        sentence = newSentence + ": ";
    }

    void same(String call, long got, long want) {
        if (got != want) {
            fail(call + " answered " + got + ", due is " + want);
        }
    }

    /** The call must throw just this class, none that extends it. */
    void refused(String call, Class<? extends RuntimeException> want, Runnable run) {
        try {
            run.run();
            fail(call + " threw nothing, due is " + want.getSimpleName());
        } catch (RuntimeException e) {
            if (e.getClass() != want) {
                fail(call + " threw " + e + ", due is " + want.getSimpleName());
            }
        }
    }

    void fail(String text) {
        wrong++;
        System.out.println(sentence + text);
    }

    void end() {
        if (wrong != 0) {
            System.out.println(wrong + " answers are not as due");
            System.exit(1);
        }
    }

    /** Reads a text on a new object. */
    void reads(String text, int fault, int place) {
        LeanSets sets = new LeanSets();
        typeAll(sets, text);
        same("read of <" + text + ">", sets.read(), fault);
        same("place of <" + text + ">", sets.place(), place);
        same("length of the text behind <" + text + ">", sets.type(' ', 1), 1);
    }

    /** What can be seen of a function of at most 3 elements and of its vector, in some 60 calls. */
    static String seen(LeanSets sets) {
        StringBuilder all = new StringBuilder();
        int size = sets.count(0);
        long order = 0;
        for (int x = 0; x < size; x++) {
            order |= (long) x << 4 * x;
        }
        for (int what = 0; what < 4; what++) {
            all.append(" count ").append(sets.count(what));
        }
        for (int set = 0; set < 1 << size; set++) {
            all.append(" value ").append(sets.value(set));
        }
        for (int x = 0; x < size; x++) {
            all.append(" extreme ").append(sets.extreme(order, x)).append(" tight ").append(sets.tight(x));
            all.append(" point ").append(sets.point(x, 0)).append('/').append(sets.point(x, 1));
        }
        all.append(" surplus ").append(sets.surplus());
        all.append(" worst ").append(sets.worst(0)).append(' ').append(sets.worst(1));
        for (int i = 0; i < sets.turns(); i++) {
            all.append(" turn ").append(sets.turn(i, 0)).append('/').append(sets.turn(i, 1));
            all.append(' ').append(sets.turn(i, 2));
        }
        return all.append(" check ").append(sets.check()).toString();
    }

    void sameSeen(String when, LeanSets sets, String before) {
        String now = seen(sets);
        if (!now.equals(before)) {
            fail(when + ": seen is" + now + ", due is" + before);
        }
    }

    static void typeAll(LeanSets sets, String text) {
        for (int from = 0; from < text.length(); from += 8) {
            String part = text.substring(from, Math.min(from + 8, text.length()));
            sets.type(packed(part), part.length());
        }
    }

    static long packed(String part) {
        long number = 0;
        for (char c : part.toCharArray()) {
            number = number << 8 | c;
        }
        return number;
    }

    /** A new object that has read a text without fault. */
    static LeanSets of(String text) {
        LeanSets sets = new LeanSets();
        typeAll(sets, text);
        int fault = sets.read();
        if (fault != 0) {
            throw new AssertionError(text + ": fault " + fault + " at " + sets.place());
        }
        return sets;
    }
}
