/** Counts and prints the calls whose answers are not the ones that are due. */
final class Due {
    static final Class<IllegalStateException> STATE = IllegalStateException.class;
    static final Class<IllegalArgumentException> ARGUMENT = IllegalArgumentException.class;
    static final Class<IndexOutOfBoundsException> INDEX = IndexOutOfBoundsException.class;

    private int wrong = 0;

    void same(String call, long got, long want) {
        if (got != want) {
            fail(call + " answered " + got + ", due is " + want);
        }
    }

    /** The call must throw just this class, none that extends it. */
    void refused(String call, Class<? extends RuntimeException> want, Runnable run) {
        try {
            run.run();
            fail(call + " threw nothing, due is " + want.getSimpleName());
        } catch (RuntimeException e) {
            if (e.getClass() != want) {
                fail(call + " threw " + e + ", due is " + want.getSimpleName());
            }
        }
    }

    void fail(String text) {
        wrong++;
        System.out.println(text);
    }

    void end() {
        if (wrong != 0) {
            System.out.println(wrong + " answers are not as due");
            System.exit(1);
        }
    }

    static void typeAll(LeanSets sets, String text) {
        for (int from = 0; from < text.length(); from += 8) {
            String part = text.substring(from, Math.min(from + 8, text.length()));
            sets.type(packed(part), part.length());
        }
    }

    static long packed(String part) {
        long number = 0;
        for (char c : part.toCharArray()) {
            number = number << 8 | c;
        }
        return number;
    }

    /** A new object that has read a text without fault. */
    static LeanSets of(String text) {
        LeanSets sets = new LeanSets();
        typeAll(sets, text);
        int fault = sets.read();
        if (fault != 0) {
            throw new AssertionError(text + ": fault " + fault + " at " + sets.place());
        }
        return sets;
    }
}
