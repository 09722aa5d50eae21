import java.util.ArrayList;
import java.util.List;
import java.util.TreeSet;
import java.util.regex.Matcher;
import java.util.regex.Pattern;

/** The document's words taken as they stand, with no thought for speed; built otherwise than the program. */
final class Model {
    private static final Pattern WORD = Pattern.compile(" *([a-z]+|[0-9]+|[^ ])");
    private static final Pattern GRAMMAR =
            Pattern.compile("sn(;(wn=-?n|an>n=-?n|c\\{n+\\}=(-?n)+))*");

    final int fault;
    final int place;
    int size;
    final int[] counts = new int[4];
    long[] f;
    final List<long[]> turns = new ArrayList<>();

    private final List<String> words = new ArrayList<>();
    private final List<Integer> places = new ArrayList<>();
    private final List<long[]> terms = new ArrayList<>();
    private String letters = "";

    Model(String text) {
        Matcher matcher = WORD.matcher(text);
        while (matcher.find()) {
            words.add(matcher.group(1));
            places.add(matcher.start(1));
            letters += letterOf(matcher.group(1));
        }
        places.add(text.length());
        int none = firstThatCannotStand();
        int[] found = none >= 0 ? new int[] {1, places.get(none)} : firstOfMeaning();
        fault = found[0];
        place = found[1];
        if (fault == 0) {
            tabulate();
            followChain();
        }
    }

    private static String letterOf(String word) {
        if (word.matches("size|weight|arc|curve")) {
            return word.substring(0, 1);
        }
        if (word.matches("[0-9]+")) {
            return word.length() > 5 ? "x" : "n";
        }
        return word.matches("[;=>{}-]") ? word : "x";
    }

    private int firstThatCannotStand() {
        for (int k = 1; k <= letters.length(); k++) {
            Matcher matcher = GRAMMAR.matcher(letters.substring(0, k));
            if (!matcher.matches() && !matcher.hitEnd()) {
                return k - 1;
            }
        }
        return GRAMMAR.matcher(letters).matches() ? -1 : letters.length();
    }

    private int[] firstOfMeaning() {
        TreeSet<Integer> faults = new TreeSet<>();
        size = Integer.parseInt(words.get(1));
        counts[0] = size;
        if (size < 1 || size > 10) {
            faults.add(places.get(1) * 10 + 2);
        }
        int from = 3;
        for (int term = 1; from <= words.size(); term++) {
            int to = letters.indexOf(';', from);
            to = to < 0 ? words.size() : to;
            if (term == 31) {
                faults.add(places.get(from) * 10 + 5);
            }
            lookAtTerm(from, to, faults);
            from = to + 1;
        }
        return faults.isEmpty() ? new int[] {0, -1} : new int[] {faults.first() % 10, faults.first() / 10};
    }

    /** A term is kept as its kind, its elements as sets, and its values. */
    private void lookAtTerm(int from, int to, TreeSet<Integer> faults) {
        int equals = letters.indexOf('=', from);
        char kind = letters.charAt(from);
        List<Long> elements = new ArrayList<>();
        for (int k = from; k < equals; k++) {
            if (letters.charAt(k) == 'n') {
                long element = Long.parseLong(words.get(k));
                if (element >= size || kind != 'w' && elements.contains(element)) {
                    faults.add(places.get(k) * 10 + 3);
                }
                elements.add(element);
            }
        }
        List<Long> values = new ArrayList<>();
        values.add(0L);
        for (int k = equals + 1; k < to; k++) {
            int first = k;
            boolean minus = letters.charAt(k) == '-';
            k += minus ? 1 : 0;
            values.add(minus ? -Long.parseLong(words.get(k)) : Long.parseLong(words.get(k)));
            int many = values.size() - 1;
            boolean bends = many >= 2
                    && values.get(many) - values.get(many - 1) > values.get(many - 1) - values.get(many - 2);
            if (kind == 'a' && values.get(many) < 0 || kind == 'c' && (many > elements.size() || bends)) {
                faults.add(places.get(first) * 10 + 4);
            }
        }
        if (kind == 'c' && values.size() - 1 < elements.size()) {
            faults.add(places.get(to) * 10 + 4);
        }
        if (faults.isEmpty()) {
            keep(kind, elements, values);
        }
    }

    private void keep(char kind, List<Long> elements, List<Long> values) {
        counts["swac".indexOf(kind)]++;
        long[] term = new long[3 + 11];
        term[0] = kind;
        for (long element : elements) {
            term[1] |= 1L << element;
        }
        term[2] = 1L << elements.get(0);
        for (int k = 0; k < values.size(); k++) {
            term[3 + k] = values.get(k);
        }
        terms.add(term);
    }

    private void tabulate() {
        f = new long[1 << size];
        for (int set = 0; set < f.length; set++) {
            for (long[] term : terms) {
                long has = set & term[1];
                if (term[0] == 'a') {
                    f[set] += has == term[2] ? term[4] : 0;
                } else {
                    f[set] += term[3 + Long.bitCount(has)];
                }
            }
        }
    }

    /** The union of all cheapest sets, for t = above / below. */
    private int cheapest(long above, long below) {
        long least = Long.MAX_VALUE;
        int union = 0;
        for (int set = 0; set < f.length; set++) {
            long cost = f[set] * below - above * Integer.bitCount(set);
            if (cost < least) {
                least = cost;
                union = 0;
            }
            if (cost == least) {
                union |= set;
            }
        }
        return union;
    }

    private void followChain() {
        TreeSet<long[]> times = new TreeSet<>((s, t) -> Long.compare(s[0] * t[1], t[0] * s[1]));
        long[] least = new long[size + 1];
        for (int many = 0; many <= size; many++) {
            least[many] = Long.MAX_VALUE;
            for (int set = 0; set < f.length; set++) {
                if (Integer.bitCount(set) == many) {
                    least[many] = Math.min(least[many], f[set]);
                }
            }
            for (int fewer = 0; fewer < many; fewer++) {
                times.add(new long[] {least[many] - least[fewer], many - fewer});
            }
        }
        int before = 0;
        for (long[] t : times) {
            int set = cheapest(t[0], t[1]);
            if (set != before) {
                long common = java.math.BigInteger.valueOf(t[0])
                        .gcd(java.math.BigInteger.valueOf(t[1])).longValue();
                turns.add(new long[] {t[0] / common, t[1] / common, set});
                before = set;
            }
        }
    }

    /** The least of f - v, the intersection and the union of those that have it, among the sets allowed. */
    long[] least(int in, int out, long[] v) {
        long[] answer = {Long.MAX_VALUE, 0, 0};
        for (int set = 0; set < f.length; set++) {
            if ((set & in) == in && (set & out) == 0) {
                long gap = gap(set, v);
                if (gap < answer[0]) {
                    answer = new long[] {gap, set, set};
                } else if (gap == answer[0]) {
                    answer[1] &= set;
                    answer[2] |= set;
                }
            }
        }
        return answer;
    }

    long gap(int set, long[] v) {
        return f[set] - sum(v, set);
    }

    long tight(int x, long[] v) {
        long meet = -1;
        for (int set = 0; set < f.length; set++) {
            long gap = gap(set, v);
            if (gap < 0) {
                return -1;
            }
            if (gap == 0 && (set >> x & 1) == 1) {
                meet = meet == -1 ? set : meet & set;
            }
        }
        return meet;
    }

    /** The point's number for an element, as above and below. */
    long[] point(int x) {
        for (long[] turn : turns) {
            if ((turn[2] >> x & 1) == 1) {
                return turn;
            }
        }
        throw new AssertionError("the chain ends before all elements are in");
    }

    long check() {
        long times = 1;
        while (!makesWhole(times)) {
            times++;
        }
        long[] whole = new long[size];
        List<Integer> order = new ArrayList<>();
        for (int x = 0; x < size; x++) {
            whole[x] = point(x)[0] * times / point(x)[1];
            order.add(x);
        }
        order.sort((x, y) -> whole[x] != whole[y] ? Long.compare(whole[x], whole[y]) : x - y);
        boolean holds = true;
        for (int set = 0; set < f.length; set++) {
            holds &= sum(whole, set) <= times * f[set];
        }
        holds &= sum(whole, f.length - 1) == times * f[f.length - 1];
        long[] extreme = new long[size];
        int before = 0;
        for (int x : order) {
            extreme[x] = f[before | 1 << x] - f[before];
            before |= 1 << x;
        }
        long there = 0;
        for (long[] turn : turns) {
            int came = (int) (turn[2] & ~there);
            holds &= sum(whole, came) == times * sum(extreme, came);
            there = turn[2];
        }
        return holds ? 1 : 0;
    }

    private boolean makesWhole(long times) {
        for (long[] turn : turns) {
            if (turn[0] * times % turn[1] != 0) {
                return false;
            }
        }
        return true;
    }

    private static long sum(long[] v, int set) {
        long sum = 0;
        for (int x = 0; x < v.length; x++) {
            sum += (set >> x & 1) * v[x];
        }
        return sum;
    }
}
