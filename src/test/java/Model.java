import java.util.ArrayList;
import java.util.HashMap;
import java.util.LinkedHashMap;
import java.util.List;
import java.util.Map;
import java.util.TreeMap;
import java.util.TreeSet;

/**
 * The document's words, taken one by one and with no thought of speed: texts of ISO 8859-1 characters are rows of
 * signs, whose own order is that of the terms. It shares no method with the class that it judges.
 */
final class Model {
    static final int NONE = -1, BAD = -2, FULL = -3, OPEN = -4, ORDER = -5, LONG = -6, SHAPE = -7;
    static final long MOST_OUT = 1_000_000_000_000L;

    private static final class Walk {
        List<Integer> left = new ArrayList<>();
        int dictionary;
    }

    private final List<TreeMap<String, Long>> terms = new ArrayList<>();
    private final boolean[] open = new boolean[4];
    private final Walk[] walks = new Walk[4];
    private final List<Integer> row = new ArrayList<>();
    private String collected = "";
    private String told = "";
    private int fault = NONE;

    Model() {
        for (int d = 0; d < 4; d++) {
            terms.add(new TreeMap<>());
        }
    }

    private static boolean none(int d) {
        return d < 0 || d > 3;
    }

    private String take() {
        String word = collected;
        collected = "";
        return word;
    }

    private void forgetWalks(int d) {
        for (int w = 0; w < 4; w++) {
            if (walks[w] != null && walks[w].dictionary == d) {
                walks[w] = null;
            }
        }
    }

    private List<String> inOrder(int d) {
        return new ArrayList<>(terms.get(d).keySet());
    }

    int collect(long w, int n) {
        if (n < 1 || n > 8) {
            return BAD;
        }
        if (collected.length() + n > 4000) {
            return FULL;
        }
        for (int i = 0; i < n; i++) {
            collected += (char) ((w >> (8 * i)) & 255);
        }
        return collected.length();
    }

    int forget() {
        return take().length();
    }

    int begin(int d) {
        if (none(d)) {
            return BAD;
        }
        int had = terms.get(d).size();
        terms.get(d).clear();
        open[d] = true;
        forgetWalks(d);
        return had;
    }

    int add(int d, long out) {
        if (none(d) || out < 0 || out > MOST_OUT) {
            return BAD;
        }
        String word = take();
        if (!open[d]) {
            return OPEN;
        }
        if (word.length() > 12) {
            return LONG;
        }
        TreeMap<String, Long> all = terms.get(d);
        if (!all.isEmpty() && all.lastKey().compareTo(word) >= 0) {
            return ORDER;
        }
        if (all.size() == 200) {
            return FULL;
        }
        all.put(word, out);
        return all.size();
    }

    int done(int d) {
        if (none(d)) {
            return BAD;
        }
        if (!open[d]) {
            return OPEN;
        }
        open[d] = false;
        return rests(d).size();
    }

    long find(int d) {
        if (none(d)) {
            return BAD;
        }
        String word = take();
        return open[d] ? OPEN : terms.get(d).getOrDefault(word, (long) NONE);
    }

    // ---- machines, from the definitions of BEGINNING, LEAST, REST and STATE

    private TreeSet<String> beginnings(int d) {
        TreeSet<String> all = new TreeSet<>();
        all.add("");
        for (String term : terms.get(d).keySet()) {
            for (int i = 0; i <= term.length(); i++) {
                all.add(term.substring(0, i));
            }
        }
        return all;
    }

    private Map<String, Long> beginningWith(int d, String beginning) {
        Map<String, Long> all = new TreeMap<>();
        for (Map.Entry<String, Long> term : terms.get(d).entrySet()) {
            if (term.getKey().startsWith(beginning)) {
                all.put(term.getKey().substring(beginning.length()), term.getValue());
            }
        }
        return all;
    }

    private long least(int d, String beginning) {
        return beginningWith(d, beginning).values().stream().mapToLong(Long::longValue).min().orElse(0);
    }

    private Map<String, Long> rest(int d, String beginning) {
        Map<String, Long> all = beginningWith(d, beginning);
        long least = least(d, beginning);
        all.replaceAll((signs, out) -> out - least);
        return all;
    }

    /** For each REST, in the order in which they come up, the first BEGINNING that has it. */
    private Map<Map<String, Long>, String> rests(int d) {
        Map<Map<String, Long>, String> all = new LinkedHashMap<>();
        for (String beginning : beginnings(d)) {
            all.putIfAbsent(rest(d, beginning), beginning);
        }
        return all;
    }

    private static int placeOf(Map<Map<String, Long>, String> rests, Map<String, Long> rest) {
        return new ArrayList<>(rests.keySet()).indexOf(rest);
    }

    /** Of each STATE: its last OUTPUT or NONE, how many rows, then sign, STATE and OUTPUT of each ARC. */
    private List<long[]> machine(int d) {
        List<long[]> all = new ArrayList<>();
        Map<Map<String, Long>, String> rests = rests(d);
        Map<Map<String, Long>, Integer> numbers = new HashMap<>();
        for (Map<String, Long> rest : rests.keySet()) {
            numbers.put(rest, numbers.size());
        }
        for (Map.Entry<Map<String, Long>, String> state : rests.entrySet()) {
            List<Long> told = new ArrayList<>();
            told.add(state.getKey().getOrDefault("", (long) NONE));
            told.add((long) state.getKey().size());
            TreeSet<Character> signs = new TreeSet<>();
            for (String behind : state.getKey().keySet()) {
                if (!behind.isEmpty()) {
                    signs.add(behind.charAt(0));
                }
            }
            for (char sign : signs) {
                String further = state.getValue() + sign;
                told.add((long) sign);
                told.add((long) numbers.get(rest(d, further)));
                told.add(least(d, further) - least(d, state.getValue()));
            }
            all.add(told.stream().mapToLong(Long::longValue).toArray());
        }
        return all;
    }

    int state(int d) {
        if (none(d)) {
            return BAD;
        }
        String word = take();
        if (open[d]) {
            return OPEN;
        }
        return beginnings(d).contains(word) ? placeOf(rests(d), rest(d, word)) : NONE;
    }

    int count(int d, int what) {
        if (none(d) || what < 0 || what > 6) {
            return BAD;
        }
        if (what == 0) {
            return terms.get(d).size();
        }
        if (what == 1) {
            return open[d] ? 1 : 0;
        }
        if (open[d]) {
            return OPEN;
        }
        switch (what) {
            case 2:
                return rests(d).size();
            case 3:
                return machine(d).stream().mapToInt(state -> (state.length - 2) / 3).sum();
            case 4:
                return (int) rests(d).keySet().stream().filter(rest -> rest.containsKey("")).count();
            case 5:
                return terms.get(d).keySet().stream().mapToInt(String::length).max().orElse(0);
            default:
                return beginnings(d).size();
        }
    }

    long arc(int d, int state, int i, int what) {
        if (none(d) || what < 0 || what > 3 || what == 3 && i != -1) {
            return BAD;
        }
        if (open[d]) {
            return OPEN;
        }
        List<long[]> machine = machine(d);
        if (state < 0 || state >= machine.size()) {
            return NONE;
        }
        long[] told = machine.get(state);
        int arcs = (told.length - 2) / 3;
        if (i == -1) {
            return what == 0 ? arcs : what == 1 ? (told[0] == NONE ? 0 : 1) : what == 2 ? told[0] : told[1];
        }
        return i < 0 || i >= arcs ? NONE : told[2 + 3 * i + what];
    }

    int number(int d) {
        if (none(d)) {
            return BAD;
        }
        String word = take();
        return open[d] ? OPEN : inOrder(d).indexOf(word);
    }

    int term(int d, int number, int i) {
        if (none(d)) {
            return BAD;
        }
        if (open[d]) {
            return OPEN;
        }
        if (number < 0 || number >= terms.get(d).size()) {
            return NONE;
        }
        String term = inOrder(d).get(number);
        return i == -1 ? term.length() : i < 0 || i >= term.length() ? NONE : term.charAt(i);
    }

    long out(int d, int number) {
        if (none(d)) {
            return BAD;
        }
        if (open[d]) {
            return OPEN;
        }
        return number < 0 || number >= terms.get(d).size() ? NONE : terms.get(d).get(inOrder(d).get(number));
    }

    int ceiling(int d) {
        if (none(d)) {
            return BAD;
        }
        String word = take();
        if (open[d]) {
            return OPEN;
        }
        String least = terms.get(d).ceilingKey(word);
        return least == null ? NONE : inOrder(d).indexOf(least);
    }

    int prefix(int d) {
        if (none(d)) {
            return BAD;
        }
        String word = take();
        if (open[d]) {
            return OPEN;
        }
        row.clear();
        List<String> all = inOrder(d);
        for (int n = 0; n < all.size(); n++) {
            if (all.get(n).startsWith(word)) {
                row.add(n);
            }
        }
        return row.size();
    }

    int cheapest(int d, int n) {
        if (none(d) || n < 1 || n > 200) {
            return BAD;
        }
        if (prefix(d) == OPEN) {
            return OPEN;
        }
        row.sort((a, b) -> Long.compare(out(d, a), out(d, b)));
        while (row.size() > n) {
            row.remove(row.size() - 1);
        }
        return row.size();
    }

    // ---- words that accept

    int meet(int d, int kind) {
        if (none(d) || kind < 0 || kind > 4) {
            return BAD;
        }
        String word = take();
        if (open[d]) {
            return OPEN;
        }
        if (word.length() > (kind < 2 ? 24 : 12)) {
            return LONG;
        }
        ModelPattern pattern = null;
        if (kind == 1) {
            pattern = new ModelPattern(word);
            fault = pattern.fault;
            if (fault != NONE) {
                return SHAPE;
            }
        }
        row.clear();
        List<String> all = inOrder(d);
        for (int n = 0; n < all.size(); n++) {
            String term = all.get(n);
            boolean accepted = kind == 0 ? wild(word, term) : kind == 1 ? pattern.accepts(term) : near(word, term, kind - 2);
            if (accepted) {
                row.add(n);
            }
        }
        return row.size();
    }

    private static boolean wild(String word, String term) {
        if (word.isEmpty()) {
            return term.isEmpty();
        }
        char sign = word.charAt(0);
        if (sign == '*') {
            return wild(word.substring(1), term) || !term.isEmpty() && wild(word, term.substring(1));
        }
        return !term.isEmpty() && (sign == '?' || sign == term.charAt(0)) && wild(word.substring(1), term.substring(1));
    }

    /** Tries all the ways to spend the steps, from the front on; what a step has touched is behind it. */
    private static boolean near(String word, String term, int steps) {
        if (word.isEmpty() || term.isEmpty()) {
            return word.length() + term.length() <= steps;
        }
        if (word.charAt(0) == term.charAt(0) && near(word.substring(1), term.substring(1), steps)) {
            return true;
        }
        if (steps == 0) {
            return false;
        }
        boolean swapped = word.length() > 1 && term.length() > 1
            && word.charAt(0) == term.charAt(1) && word.charAt(1) == term.charAt(0)
            && near(word.substring(2), term.substring(2), steps - 1);
        return swapped || near(word.substring(1), term, steps - 1) || near(word, term.substring(1), steps - 1)
            || near(word.substring(1), term.substring(1), steps - 1);
    }

    int fault() {
        return fault;
    }

    int row(int i) {
        return i < 0 || i >= row.size() ? NONE : row.get(i);
    }

    // ---- joined, packed, walked

    int join(int a, int b, int c, int how) {
        if (none(a) || none(b) || none(c) || how < 0 || how > 3) {
            return BAD;
        }
        if (open[a] || open[b]) {
            return OPEN;
        }
        TreeMap<String, Long> left = terms.get(a);
        TreeMap<String, Long> right = terms.get(b);
        TreeSet<String> all = new TreeSet<>(left.keySet());
        all.addAll(right.keySet());
        TreeMap<String, Long> joined = new TreeMap<>();
        for (String term : all) {
            Long x = left.get(term);
            Long y = right.get(term);
            if (how == 0) {
                joined.put(term, x == null ? y : y == null ? x : Long.valueOf(Math.min(x, y)));
            } else if (how == 1 && x != null && y != null) {
                joined.put(term, x + y);
            } else if (how == 2 && x != null && y == null) {
                joined.put(term, x);
            } else if (how == 3 && (x == null || y == null)) {
                joined.put(term, x == null ? y : x);
            }
        }
        if (joined.size() > 200) {
            return FULL;
        }
        if (joined.values().stream().anyMatch(out -> out > MOST_OUT)) {
            return LONG;
        }
        become(c, joined);
        return joined.size();
    }

    private void become(int d, TreeMap<String, Long> all) {
        terms.set(d, all);
        open[d] = false;
        forgetWalks(d);
    }

    private String pack(int d) {
        StringBuilder text = new StringBuilder("TM");
        List<long[]> machine = machine(d);
        sevens(text, least(d, ""));
        sevens(text, machine.size());
        for (long[] state : machine) {
            if (state[0] == NONE) {
                text.append((char) 0);
            } else {
                text.append((char) 1);
                sevens(text, state[0]);
            }
            sevens(text, (state.length - 2) / 3);
            for (int i = 2; i < state.length; i += 3) {
                text.append((char) state[i]);
                sevens(text, state[i + 1]);
                sevens(text, state[i + 2]);
            }
        }
        return text.toString();
    }

    private static void sevens(StringBuilder text, long number) {
        String bits = Long.toBinaryString(number);
        while (bits.length() % 7 != 0) {
            bits = "0" + bits;
        }
        for (int to = bits.length(); to > 0; to -= 7) {
            text.append((char) (Integer.parseInt(bits.substring(to - 7, to), 2) + (to > 7 ? 128 : 0)));
        }
    }

    int packed(int d) {
        if (none(d)) {
            return BAD;
        }
        if (open[d]) {
            return OPEN;
        }
        told = pack(d);
        return told.length();
    }

    int sign(int i) {
        return i < 0 || i >= told.length() ? NONE : told.charAt(i);
    }

    int load(int d) {
        if (none(d)) {
            return BAD;
        }
        String word = take();
        TreeMap<String, Long> all = new ModelUnpacker(word).terms;
        if (all == null) {
            return SHAPE;
        }
        Model other = new Model();
        other.terms.set(0, all);
        if (!other.pack(0).equals(word)) {
            return SHAPE;
        }
        become(d, all);
        return all.size();
    }

    int walk(int w, int d, boolean back) {
        if (w < 0 || w > 3 || none(d)) {
            return BAD;
        }
        String word = take();
        if (open[d]) {
            return OPEN;
        }
        Walk walk = new Walk();
        walk.dictionary = d;
        List<String> all = inOrder(d);
        for (int n = 0; n < all.size(); n++) {
            int order = all.get(n).compareTo(word);
            if (back && order <= 0) {
                walk.left.add(0, n);
            } else if (!back && order >= 0) {
                walk.left.add(n);
            }
        }
        walks[w] = walk;
        return 0;
    }

    int next(int w) {
        if (w < 0 || w > 3) {
            return BAD;
        }
        return walks[w] == null || walks[w].left.isEmpty() ? NONE : walks[w].left.remove(0);
    }

    String packedText(int d) {
        return pack(d);
    }

    List<String> termsOf(int d) {
        return inOrder(d);
    }

    boolean isOpen(int d) {
        return open[d];
    }

    /** Reads leniently: what is read is packed again, and compared. */
    private static final class ModelUnpacker {
        TreeMap<String, Long> terms;
        private final String text;
        private int at;
        private boolean broken;

        ModelUnpacker(String text) {
            this.text = text;
            if (!text.startsWith("TM")) {
                return;
            }
            at = 2;
            long least = number();
            long count = number();
            long[][] states = new long[(int) Math.min(count, 4000)][];
            for (int s = 0; s < states.length && !broken; s++) {
                states[s] = state();
            }
            if (broken || at != text.length() || states.length == 0) {
                return;
            }
            terms = new TreeMap<>();
            if (!gather(states, 0, "", least)) {
                terms = null;
            }
        }

        private int sign() {
            if (at >= text.length()) {
                broken = true;
                return 0;
            }
            return text.charAt(at++);
        }

        private long number() {
            long value = 0;
            for (int shift = 0; shift < 56; shift += 7) {
                int piece = sign();
                value += (long) (piece % 128) << shift;
                if (piece < 128) {
                    return value;
                }
            }
            broken = true;
            return 0;
        }

        private long[] state() {
            int mark = sign();
            long last = mark == 0 ? NONE : number();
            int arcs = (int) Math.min(number(), 300);
            long[] told = new long[1 + 3 * arcs];
            told[0] = last;
            for (int i = 0; i < arcs && !broken; i++) {
                told[1 + 3 * i] = sign();
                told[2 + 3 * i] = number();
                told[3 + 3 * i] = number();
            }
            broken |= mark > 1;
            return told;
        }

        private boolean gather(long[][] states, long state, String path, long sum) {
            if (state >= states.length || path.length() > 12 || terms.size() > 200 || sum > MOST_OUT) {
                return false;
            }
            long[] told = states[(int) state];
            if (told[0] == NONE && told.length == 1 && !path.isEmpty()) {
                return false;
            }
            if (told[0] != NONE) {
                if (sum + told[0] > MOST_OUT || terms.put(path, sum + told[0]) != null || terms.size() > 200) {
                    return false;
                }
            }
            for (int i = 1; i < told.length; i += 3) {
                if (!gather(states, told[i + 1], path + (char) told[i], sum + told[i + 2])) {
                    return false;
                }
            }
            return true;
        }
    }
}
