/** Set functions told by a text of weights, arcs and curves; README.md says how to use it. */
public final class LeanSets {
    public static final int NONE = -1;

    private static final int MOST_CHARACTERS = 600;
    private static final int MOST_TYPED_AT_ONCE = 8;
    private static final int LOWEST_CHARACTER = 32;
    private static final int HIGHEST_CHARACTER = 126;
    private static final int MOST_DIGITS = 5;
    private static final int MOST_ELEMENTS = 10;
    private static final int MOST_TERMS = 30;
    private static final int LARGEST_TOLD = 1000000;

    private static final int NONE_OF_IT = 1;
    private static final int BAD_SIZE = 2;
    private static final int BAD_ELEMENT = 3;
    private static final int BAD_VALUE = 4;
    private static final int TOO_MANY = 5;

    // The kinds of terms are also the numbers that count() knows them by.
    private static final int SIZE = 0;
    private static final int WEIGHT = 1;
    private static final int ARC = 2;
    private static final int CURVE = 3;
    private static final int KINDS_COUNTED = 4;
    private static final int NUMBER = 4;
    private static final int SEMICOLON = 5;
    private static final int EQUALS = 6;
    private static final int GREATER = 7;
    private static final int MINUS = 8;
    private static final int OPEN = 9;
    private static final int CLOSE = 10;
    private static final int END = 11;
    private static final int NO_WORD = 12;

    private final TextReader reader;
    private final SetTable function;
    private final SetTable gaps;
    private final Chain chain;
    private final ChainCheck chainCheck;
    private final long[] vector;
    private final int[] counts;
    private int size;

    public LeanSets() {
        reader = new TextReader();
        function = new SetTable();
        gaps = new SetTable();
        chain = new Chain();
        chainCheck = new ChainCheck();
        vector = new long[MOST_ELEMENTS];
        counts = new int[KINDS_COUNTED];
        size = 0;
    }

    public int type(long characters, int n) {
        Words words = reader.words;
        if (n < 1 || n > MOST_TYPED_AT_ONCE || words.length + n > MOST_CHARACTERS) {
            return NONE;
        }
        for (int i = 0; i < n; i++) {
            int character = byteOf(characters, i);
            if (character < LOWEST_CHARACTER || character > HIGHEST_CHARACTER) {
                return NONE;
            }
        }
        for (int i = n - 1; i >= 0; i--) {
            words.append((char) byteOf(characters, i));
        }
        return words.length;
    }

    public int read() {
        reader.words.split();
        reader.begin();
        if (!reader.readText()) {
            reader.refuseWord();
        }
        reader.words.length = 0;
        if (reader.fault == 0) {
            takeOver(reader.terms);
        }
        return reader.fault;
    }

    public int place() {
        return reader.faultPlace;
    }

    public int count(int what) throws IllegalStateException, IllegalArgumentException {
        needFunction();
        needBelow(what, KINDS_COUNTED);
        return counts[what];
    }

    public int value(int set) throws IllegalStateException, IllegalArgumentException {
        needFunction();
        needSet(set);
        return (int) function.values[set];
    }

    public int least(int what, int in, int out) throws IllegalStateException, IllegalArgumentException {
        needFunction();
        needBelow(what, 3);
        needSet(in);
        needSet(out);
        if ((in & out) != 0) {
            throw new IllegalArgumentException();
        }
        function.findLowest(in, out);
        if (what == 0) {
            return (int) function.lowest;
        }
        return what == 1 ? function.meet : function.join;
    }

    public int extreme(long order, int x)
            throws IllegalStateException, IndexOutOfBoundsException, IllegalArgumentException {
        needFunction();
        needElement(x);
        int seen = 0;
        int before = 0;
        for (int i = 0; i < size; i++) {
            int element = (int) (order >>> (4 * i)) & 15;
            if (element >= size || (seen & (1 << element)) != 0) {
                throw new IllegalArgumentException();
            }
            if (element == x) {
                before = seen;
            }
            seen |= 1 << element;
        }
        return (int) function.gain(before, x);
    }

    public void tell(int x, int v)
            throws IllegalStateException, IndexOutOfBoundsException, IllegalArgumentException {
        needFunction();
        needElement(x);
        if (v < -LARGEST_TOLD || v > LARGEST_TOLD) {
            throw new IllegalArgumentException();
        }
        gaps.add(1 << x, 0, vector[x] - v);
        vector[x] = v;
    }

    public int surplus() throws IllegalStateException {
        needFunction();
        gaps.findLowest(0, 0);
        return (int) gaps.lowest;
    }

    public int worst(int way) throws IllegalStateException, IllegalArgumentException {
        needFunction();
        needBelow(way, 2);
        gaps.findLowest(0, 0);
        return way == 0 ? gaps.meet : gaps.join;
    }

    public int tight(int x) throws IllegalStateException, IndexOutOfBoundsException {
        needFunction();
        needElement(x);
        gaps.findLowest(0, 0);
        if (gaps.lowest < 0) {
            return NONE;
        }
        // No gap is below 0 here: if any set with x is tight, those with the lowest gap are the tight ones.
        gaps.findLowest(1 << x, 0);
        return gaps.lowest == 0 ? gaps.meet : NONE;
    }

    public int turns() throws IllegalStateException {
        needFunction();
        return chain.length;
    }

    public int turn(int i, int what)
            throws IllegalStateException, IndexOutOfBoundsException, IllegalArgumentException {
        needFunction();
        if (i < 0 || i >= chain.length) {
            throw new IndexOutOfBoundsException();
        }
        needBelow(what, 3);
        if (what == 2) {
            return chain.sets[i];
        }
        return (int) (what == 0 ? chain.above[i] : chain.below[i]);
    }

    public int point(int x, int what)
            throws IllegalStateException, IndexOutOfBoundsException, IllegalArgumentException {
        needFunction();
        needElement(x);
        needBelow(what, 2);
        int i = chain.turnOf[x];
        return (int) (what == 0 ? chain.above[i] : chain.below[i]);
    }

    public int check() throws IllegalStateException {
        needFunction();
        return chainCheck.holds(function, chain) ? 1 : 0;
    }

    private static int byteOf(long characters, int i) {
        return (int) (characters >>> (8 * i)) & 255;
    }

    private void needFunction() {
        if (size == 0) {
            throw new IllegalStateException();
        }
    }

    private void needElement(int x) {
        if (x < 0 || x >= size) {
            throw new IndexOutOfBoundsException();
        }
    }

    private void needSet(int set) {
        if (set < 0 || set >= 1 << size) {
            throw new IllegalArgumentException();
        }
    }

    private static void needBelow(int what, int bound) {
        if (what < 0 || what >= bound) {
            throw new IllegalArgumentException();
        }
    }

    private void takeOver(Terms terms) {
        size = terms.size;
        for (int kind = 0; kind < KINDS_COUNTED; kind++) {
            counts[kind] = 0;
        }
        counts[SIZE] = size;
        for (int i = 0; i < terms.length; i++) {
            counts[terms.kinds[i]]++;
        }
        terms.tellTo(function);
        gaps.copy(function, 1);
        for (int x = 0; x < MOST_ELEMENTS; x++) {
            vector[x] = 0;
        }
        chain.follow(function);
    }

    /** The text and its words. */
    private static final class Words {
        final char[] text = new char[MOST_CHARACTERS];
        int length;
        // One more than there can be characters, for the word that stands for the end.
        final int[] kinds = new int[MOST_CHARACTERS + 1];
        final int[] places = new int[MOST_CHARACTERS + 1];
        final int[] numbers = new int[MOST_CHARACTERS + 1];
        int words;

        void append(char character) {
            if (length < MOST_CHARACTERS) {
                text[length] = character;
                length++;
            }
        }

        void split() {
            words = 0;
            int from = firstBehindBlanks(0);
            for (int i = 0; i < MOST_CHARACTERS && from < length; i++) {
                int to = endOfWord(from);
                keep(kindOf(from, to), from, to);
                from = firstBehindBlanks(to);
            }
            keep(END, length, length);
        }

        private void keep(int kind, int from, int to) {
            kinds[words] = kind;
            places[words] = from;
            numbers[words] = kind == NUMBER ? numberOf(from, to) : 0;
            words++;
        }

        private int firstBehindBlanks(int from) {
            int at = from;
            while (at < length && text[at] == ' ') {
                at++;
            }
            return at;
        }

        private int endOfWord(int from) {
            int at = from + 1;
            if (isLetter(text[from])) {
                while (at < length && isLetter(text[at])) {
                    at++;
                }
            } else if (isDigit(text[from])) {
                while (at < length && isDigit(text[at])) {
                    at++;
                }
            }
            return at;
        }

        private int kindOf(int from, int to) {
            if (isLetter(text[from])) {
                return kindOfName(from, to);
            }
            if (isDigit(text[from])) {
                return to - from <= MOST_DIGITS ? NUMBER : NO_WORD;
            }
            switch (text[from]) {
                case ';':
                    return SEMICOLON;
                case '=':
                    return EQUALS;
                case '>':
                    return GREATER;
                case '-':
                    return MINUS;
                case '{':
                    return OPEN;
                case '}':
                    return CLOSE;
                default:
                    return NO_WORD;
            }
        }

        // A name that stands nowhere in the grammar is refused just like what is no word.
        private int kindOfName(int from, int to) {
            if (spells("size", from, to)) {
                return SIZE;
            }
            if (spells("weight", from, to)) {
                return WEIGHT;
            }
            if (spells("arc", from, to)) {
                return ARC;
            }
            return spells("curve", from, to) ? CURVE : NO_WORD;
        }

        private boolean spells(String name, int from, int to) {
            if (name.length() != to - from) {
                return false;
            }
            for (int i = 0; i < name.length(); i++) {
                if (text[from + i] != name.charAt(i)) {
                    return false;
                }
            }
            return true;
        }

        private int numberOf(int from, int to) {
            int number = 0;
            for (int at = from; at < to; at++) {
                number = 10 * number + (text[at] - '0');
            }
            return number;
        }

        private static boolean isLetter(char character) {
            return character >= 'a' && character <= 'z';
        }

        private static boolean isDigit(char character) {
            return character >= '0' && character <= '9';
        }
    }

    /** The terms of a text, apart from the function in use until the whole text is known to be good. */
    private static final class Terms {
        int size;
        int length;
        final int[] kinds = new int[MOST_TERMS];
        // The sets of a term: the element of a weight, the first of an arc, all elements of a curve.
        final int[] ins = new int[MOST_TERMS];
        // The second element of an arc, as a set.
        final int[] outs = new int[MOST_TERMS];
        final int[] values = new int[MOST_TERMS * MOST_ELEMENTS];

        void open(int kind, int in, int out) {
            if (length < MOST_TERMS) {
                kinds[length] = kind;
                ins[length] = in;
                outs[length] = out;
                length++;
            }
        }

        /** Gives the latest term its value at a place, from 0. */
        void put(int at, int value) {
            if (length > 0 && at < MOST_ELEMENTS) {
                values[(length - 1) * MOST_ELEMENTS + at] = value;
            }
        }

        void tellTo(SetTable table) {
            table.clear(size);
            for (int i = 0; i < length; i++) {
                int from = i * MOST_ELEMENTS;
                if (kinds[i] == CURVE) {
                    table.addCurve(ins[i], values, from);
                } else {
                    table.add(ins[i], outs[i], values[from]);
                }
            }
        }
    }

    /** Reads the words as the grammar has them; faults of meaning count only if all words can stand. */
    private static final class TextReader {
        final Words words = new Words();
        final Terms terms = new Terms();
        private int next;
        private int takenPlace;
        private int takenNumber;
        int fault;
        int faultPlace = NONE;

        void begin() {
            next = 0;
            fault = 0;
            faultPlace = NONE;
            terms.length = 0;
        }

        /** A word that can't stand outdoes every fault noted before it. */
        void refuseWord() {
            fault = NONE_OF_IT;
            faultPlace = words.places[next];
        }

        /** Whether all words can stand. */
        boolean readText() {
            if (!take(SIZE) || !take(NUMBER)) {
                return false;
            }
            terms.size = takenNumber;
            if (takenNumber < 1 || takenNumber > MOST_ELEMENTS) {
                note(BAD_SIZE, takenPlace);
            }
            for (int i = 0; i < MOST_CHARACTERS && take(SEMICOLON); i++) {
                if (i == MOST_TERMS) {
                    note(TOO_MANY, words.places[next]);
                }
                if (!readTerm()) {
                    return false;
                }
            }
            return words.kinds[next] == END;
        }

        private boolean readTerm() {
            if (take(WEIGHT)) {
                return readWeight();
            }
            if (take(ARC)) {
                return readArc();
            }
            return take(CURVE) && readCurve();
        }

        private boolean readWeight() {
            if (!take(NUMBER)) {
                return false;
            }
            int in = takenElement();
            if (!take(EQUALS) || !takeValue()) {
                return false;
            }
            keepTerm(WEIGHT, in, 0);
            keepValue(0);
            return true;
        }

        private boolean readArc() {
            if (!take(NUMBER)) {
                return false;
            }
            int in = takenElement();
            if (!take(GREATER) || !take(NUMBER)) {
                return false;
            }
            int out = takenElement();
            noteIf(in == out, BAD_ELEMENT);
            if (!take(EQUALS) || !takeValue()) {
                return false;
            }
            noteIf(takenNumber < 0, BAD_VALUE);
            keepTerm(ARC, in, out);
            keepValue(0);
            return true;
        }

        private boolean readCurve() {
            if (!take(OPEN) || !take(NUMBER)) {
                return false;
            }
            int in = takenElement();
            for (int i = 0; i < MOST_CHARACTERS && take(NUMBER); i++) {
                int element = takenElement();
                noteIf((in & element) != 0, BAD_ELEMENT);
                in |= element;
            }
            if (!take(CLOSE) || !take(EQUALS)) {
                return false;
            }
            keepTerm(CURVE, in, 0);
            return readCurveValues(Integer.bitCount(in));
        }

        private boolean readCurveValues(int most) {
            if (!takeValue()) {
                return false;
            }
            keepValue(0);
            int last = takenNumber;
            int rise = last;
            int values = 1;
            for (int i = 0; i < MOST_CHARACTERS && aValueStands(); i++) {
                if (!takeValue()) {
                    return false;
                }
                noteIf(values >= most || takenNumber - last > rise, BAD_VALUE);
                keepValue(values);
                rise = takenNumber - last;
                last = takenNumber;
                values++;
            }
            if (values < most) {
                note(BAD_VALUE, words.places[next]);
            }
            return true;
        }

        private boolean aValueStands() {
            return words.kinds[next] == NUMBER || words.kinds[next] == MINUS;
        }

        private boolean take(int kind) {
            if (words.kinds[next] != kind) {
                return false;
            }
            takenPlace = words.places[next];
            takenNumber = words.numbers[next];
            // The end is never taken, so there is always a word behind what is.
            next++;
            return true;
        }

        private boolean takeValue() {
            int first = words.places[next];
            boolean negative = take(MINUS);
            if (!take(NUMBER)) {
                return false;
            }
            takenPlace = first;
            takenNumber = negative ? -takenNumber : takenNumber;
            return true;
        }

        /** The element just taken, as a set; the empty one, and a fault, if it is not there. */
        private int takenElement() {
            boolean there = takenNumber < terms.size && takenNumber < MOST_ELEMENTS;
            noteIf(!there, BAD_ELEMENT);
            return there ? 1 << takenNumber : 0;
        }

        private void keepTerm(int kind, int in, int out) {
            if (fault == 0) {
                terms.open(kind, in, out);
            }
        }

        private void keepValue(int at) {
            if (fault == 0) {
                terms.put(at, takenNumber);
            }
        }

        private void noteIf(boolean wrong, int number) {
            if (wrong) {
                note(number, takenPlace);
            }
        }

        // The words are read in their order, so the first fault noted is the first one of the text.
        private void note(int number, int at) {
            if (fault == 0) {
                fault = number;
                faultPlace = at;
            }
        }
    }

    /** A number for each set. */
    private static final class SetTable {
        final long[] values = new long[1 << MOST_ELEMENTS];
        int size;
        int sets;
        long lowest;
        int meet;
        int join;

        void clear(int newSize) {
            size = newSize;
            sets = 1 << newSize;
            for (int set = 0; set < sets; set++) {
                values[set] = 0;
            }
        }

        void copy(SetTable other, long times) {
            size = other.size;
            sets = other.sets;
            for (int set = 0; set < sets; set++) {
                values[set] = times * other.values[set];
            }
        }

        /** Adds to the sets that have all of one set and none of another one. */
        void add(int in, int out, long amount) {
            int bound = in | out;
            for (int set = 0; set < sets; set++) {
                if ((set & bound) == in) {
                    values[set] += amount;
                }
            }
        }

        void addCurve(int elements, int[] curve, int from) {
            for (int set = 0; set < sets; set++) {
                int many = Integer.bitCount(set & elements);
                if (many > 0) {
                    values[set] += curve[from + many - 1];
                }
            }
        }

        /** What the number grows by when x comes to a set that does not have it. */
        long gain(int set, int x) {
            return values[set | (1 << x)] - values[set];
        }

        /** The lowest number of the sets that have all of one set and none of another, and who has it. */
        void findLowest(int in, int out) {
            int bound = in | out;
            lowest = values[in];
            meet = in;
            join = in;
            for (int set = in + 1; set < sets; set++) {
                if ((set & bound) != in || values[set] > lowest) {
                    continue;
                }
                if (values[set] < lowest) {
                    lowest = values[set];
                    meet = set;
                    join = set;
                } else {
                    meet &= set;
                    join |= set;
                }
            }
        }
    }

    /** The turns, in their order, and the turn at which each element comes in. */
    private static final class Chain {
        int length;
        final long[] above = new long[MOST_ELEMENTS];
        final long[] below = new long[MOST_ELEMENTS];
        final int[] sets = new int[MOST_ELEMENTS];
        final int[] turnOf = new int[MOST_ELEMENTS];
        private final long[] lowestOf = new long[MOST_ELEMENTS + 1];
        private final int[] setOf = new int[MOST_ELEMENTS + 1];

        void follow(SetTable function) {
            findLowestOfEachSize(function);
            length = 0;
            int many = 0;
            for (int i = 0; i < function.size && many < function.size; i++) {
                int more = nextSize(many, function.size);
                keepTurn(many, more);
                many = more;
            }
        }

        // A size that the chain stops at has one lowest set alone: the union of two would be cheaper or larger.
        private void findLowestOfEachSize(SetTable function) {
            for (int many = 0; many <= function.size; many++) {
                setOf[many] = NONE;
            }
            for (int set = 0; set < function.sets; set++) {
                int many = Integer.bitCount(set);
                if (setOf[many] == NONE || function.values[set] < lowestOf[many]) {
                    setOf[many] = set;
                    lowestOf[many] = function.values[set];
                }
            }
        }

        /** The size to which the price of each further element is least; the largest such size. */
        private int nextSize(int many, int size) {
            int best = many + 1;
            for (int more = many + 2; more <= size; more++) {
                long price = (lowestOf[more] - lowestOf[many]) * (best - many);
                if (price <= (lowestOf[best] - lowestOf[many]) * (more - many)) {
                    best = more;
                }
            }
            return best;
        }

        private void keepTurn(int many, int more) {
            long price = lowestOf[more] - lowestOf[many];
            long elements = more - many;
            long common = commonDivisor(price, elements);
            above[length] = price / common;
            below[length] = elements / common;
            sets[length] = setOf[more];
            for (int x = 0; x < MOST_ELEMENTS; x++) {
                if ((setOf[more] & ~setOf[many] & (1 << x)) != 0) {
                    turnOf[x] = length;
                }
            }
            length++;
        }

        /** The elements that come in at a turn. */
        int comeIn(int i) {
            return i == 0 ? sets[0] : sets[i] & ~sets[i - 1];
        }
    }

    /** Whether the point and the extreme vector by its numbers are what they must be. */
    private static final class ChainCheck {
        private final SetTable gaps = new SetTable();
        private final long[] whole = new long[MOST_ELEMENTS];
        private final long[] extremes = new long[MOST_ELEMENTS];
        private final int[] order = new int[MOST_ELEMENTS];
        private long times;

        boolean holds(SetTable function, Chain chain) {
            makeWhole(chain, function.size);
            makeExtremes(function);
            return liesBelow(function) && hasSameSums(chain, function.size);
        }

        private void makeWhole(Chain chain, int size) {
            times = 1;
            for (int i = 0; i < chain.length; i++) {
                times *= chain.below[i] / commonDivisor(times, chain.below[i]);
            }
            for (int x = 0; x < size; x++) {
                int i = chain.turnOf[x];
                whole[x] = chain.above[i] * (times / Math.max(1, chain.below[i]));
            }
        }

        private boolean liesBelow(SetTable function) {
            gaps.copy(function, times);
            for (int x = 0; x < function.size; x++) {
                gaps.add(1 << x, 0, -whole[x]);
            }
            gaps.findLowest(0, 0);
            return gaps.lowest >= 0 && gaps.values[gaps.sets - 1] == 0;
        }

        private void makeExtremes(SetTable function) {
            sortByPoint(function.size);
            int before = 0;
            for (int i = 0; i < function.size; i++) {
                int x = order[i];
                extremes[x] = function.gain(before, x);
                before |= 1 << x;
            }
        }

        private void sortByPoint(int size) {
            for (int x = 0; x < size; x++) {
                int at = x;
                while (at > 0 && whole[order[at - 1]] > whole[x]) {
                    order[at] = order[at - 1];
                    at--;
                }
                order[at] = x;
            }
        }

        private boolean hasSameSums(Chain chain, int size) {
            for (int i = 0; i < chain.length; i++) {
                int came = chain.comeIn(i);
                long difference = 0;
                for (int x = 0; x < size; x++) {
                    if ((came & (1 << x)) != 0) {
                        difference += times * extremes[x] - whole[x];
                    }
                }
                if (difference != 0) {
                    return false;
                }
            }
            return true;
        }
    }

    /** At least 1, so that it can always divide. */
    private static long commonDivisor(long a, long b) {
        long divisor = Math.abs(a);
        long rest = Math.abs(b);
        for (int i = 0; i < 100 && rest != 0; i++) {
            long left = divisor % rest;
            divisor = rest;
            rest = left;
        }
        return Math.max(1, divisor);
    }
}
