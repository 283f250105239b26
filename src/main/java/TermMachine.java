import java.util.Arrays;

/**
 * Four dictionaries, each held as its terms in order and as the least machine that tells them.
 * Every row is made once, in a constructor: all calls of a run share one room, so no call makes any.
 */
public final class TermMachine {
    public static final int NONE = -1, BAD = -2, FULL = -3, OPEN = -4, ORDER = -5, LONG = -6, SHAPE = -7;

    private static final int DICTIONARIES = 4;
    private static final int WALKS = 4;
    private static final int SIGNS = 256;
    private static final int MOST_COLLECTED = 4000;
    private static final int MOST_TERMS = 200;
    private static final int MOST_IN_TERM = 12;
    private static final long MOST_OUT = 1_000_000_000_000L;
    private static final int MOST_STATES = 1 + MOST_TERMS * MOST_IN_TERM;
    private static final int MOST_ARCS = MOST_TERMS * MOST_IN_TERM;
    // A state takes 1 + 6 + 2 signs at most, an arc 1 + 2 + 6, the head 2 + 6 + 2.
    private static final int MOST_PACKED = 9 * MOST_STATES + 9 * MOST_ARCS + 10;

    private static final int KINDS = 5;
    private static final int KIND_PATTERN = 1;
    private static final int KIND_NEAR = 2;
    private static final int MOST_IN_PATTERN = 24;
    private static final int MOST_BRACKETS = 4;

    private static final int JOINS = 4;
    private static final int JOIN_ONE_OR_BOTH = 0;
    private static final int JOIN_BOTH = 1;
    private static final int JOIN_JUST_ONE = 3;

    private final Dictionary[] dictionaries = new Dictionary[DICTIONARIES];
    private final int[] changes = new int[DICTIONARIES];
    private final Walk[] walks = new Walk[WALKS];
    private final Trie trie = new Trie();
    private final Packing packing = new Packing();
    private final Pattern pattern = new Pattern();
    private final NearWord nearWord = new NearWord();
    private final Signs told = new Signs(MOST_PACKED);
    private final Signs trial = new Signs(MOST_COLLECTED);
    private final int[] found = new int[MOST_TERMS];
    private int foundSize;
    private int faultPlace = NONE;
    private Signs collected = new Signs(MOST_COLLECTED);
    private Signs usedUp = new Signs(MOST_COLLECTED);
    private Dictionary spare = new Dictionary();

    public TermMachine() {
        for (int d = 0; d < DICTIONARIES; d++) {
            dictionaries[d] = new Dictionary();
        }
        for (int w = 0; w < WALKS; w++) {
            walks[w] = new Walk();
        }
    }

    public int collect(long w, int n) {
        if (n < 1 || n > 8) {
            return BAD;
        }
        if (collected.size + n > MOST_COLLECTED) {
            return FULL;
        }
        for (int i = 0; i < n; i++) {
            collected.put((int) (w >>> (8 * i)));
        }
        return collected.size;
    }

    public int forget() {
        return takeCollected().size;
    }

    public int begin(int d) {
        if (!isDictionary(d)) {
            return BAD;
        }
        Dictionary dictionary = dictionaries[d];
        int before = dictionary.terms.size;
        dictionary.terms.clear();
        dictionary.open = true;
        changes[d]++;
        return before;
    }

    public int add(int d, long out) {
        if (!isDictionary(d) || out < 0 || out > MOST_OUT) {
            return BAD;
        }
        Signs word = takeCollected();
        if (!dictionaries[d].open) {
            return OPEN;
        }
        if (word.size > MOST_IN_TERM) {
            return LONG;
        }
        Terms terms = dictionaries[d].terms;
        if (terms.size > 0 && terms.compareWith(terms.size - 1, word) >= 0) {
            return ORDER;
        }
        return terms.append(word.held, 0, word.size, out) ? terms.size : FULL;
    }

    public int done(int d) {
        if (!isDictionary(d)) {
            return BAD;
        }
        Dictionary dictionary = dictionaries[d];
        if (!dictionary.open) {
            return OPEN;
        }
        trie.build(dictionary);
        dictionary.open = false;
        return dictionary.machine.states;
    }

    public long find(int d) {
        if (!isDictionary(d)) {
            return BAD;
        }
        Signs word = takeCollected();
        Dictionary dictionary = dictionaries[d];
        return dictionary.open ? OPEN : dictionary.terms.outAt(dictionary.terms.numberOf(word));
    }

    public int state(int d) {
        if (!isDictionary(d)) {
            return BAD;
        }
        Signs word = takeCollected();
        Dictionary dictionary = dictionaries[d];
        return dictionary.open ? OPEN : dictionary.machine.stateBehind(word);
    }

    public int count(int d, int what) {
        if (!isDictionary(d) || what < 0 || what > 6) {
            return BAD;
        }
        Dictionary dictionary = dictionaries[d];
        if (what == 0) {
            return dictionary.terms.size;
        }
        if (what == 1) {
            return dictionary.open ? 1 : 0;
        }
        if (dictionary.open) {
            return OPEN;
        }
        switch (what) {
            case 2:
                return dictionary.machine.states;
            case 3:
                return dictionary.machine.arcs;
            case 4:
                return dictionary.machine.finals;
            case 5:
                return dictionary.terms.longest();
            default:
                return dictionary.machine.beginnings;
        }
    }

    public long arc(int d, int state, int i, int what) {
        boolean ofState = i == -1;
        if (!isDictionary(d) || what < 0 || what > (ofState ? 3 : 2)) {
            return BAD;
        }
        if (dictionaries[d].open) {
            return OPEN;
        }
        Machine machine = dictionaries[d].machine;
        return ofState ? machine.tellState(state, what) : machine.tellArc(state, i, what);
    }

    public int number(int d) {
        if (!isDictionary(d)) {
            return BAD;
        }
        Signs word = takeCollected();
        Dictionary dictionary = dictionaries[d];
        return dictionary.open ? OPEN : dictionary.terms.numberOf(word);
    }

    public int term(int d, int number, int i) {
        if (!isDictionary(d)) {
            return BAD;
        }
        if (dictionaries[d].open) {
            return OPEN;
        }
        Terms terms = dictionaries[d].terms;
        return i == -1 ? terms.lengthAt(number) : terms.signAt(number, i);
    }

    public long out(int d, int number) {
        if (!isDictionary(d)) {
            return BAD;
        }
        return dictionaries[d].open ? OPEN : dictionaries[d].terms.outAt(number);
    }

    public int ceiling(int d) {
        if (!isDictionary(d)) {
            return BAD;
        }
        Signs word = takeCollected();
        if (dictionaries[d].open) {
            return OPEN;
        }
        Terms terms = dictionaries[d].terms;
        int number = terms.leastNotBelow(word);
        return number < terms.size ? number : NONE;
    }

    public int prefix(int d) {
        return isDictionary(d) ? keepBeginning(d, MOST_TERMS, false) : BAD;
    }

    public int cheapest(int d, int n) {
        return isDictionary(d) && n >= 1 && n <= MOST_TERMS ? keepBeginning(d, n, true) : BAD;
    }

    public int meet(int d, int kind) {
        if (!isDictionary(d) || kind < 0 || kind >= KINDS) {
            return BAD;
        }
        Signs word = takeCollected();
        if (dictionaries[d].open) {
            return OPEN;
        }
        if (word.size > (kind < KIND_NEAR ? MOST_IN_PATTERN : MOST_IN_TERM)) {
            return LONG;
        }
        if (kind == KIND_PATTERN) {
            faultPlace = pattern.readPattern(word);
            if (faultPlace != NONE) {
                return SHAPE;
            }
        } else if (kind < KIND_NEAR) {
            pattern.readWild(word);
        } else {
            nearWord.read(word, kind - KIND_NEAR);
        }
        return keepAccepted(dictionaries[d].terms, kind >= KIND_NEAR);
    }

    public int fault() {
        return faultPlace;
    }

    public int row(int i) {
        return i < 0 || i >= foundSize || i >= MOST_TERMS ? NONE : found[i];
    }

    public int join(int a, int b, int c, int how) {
        if (!isDictionary(a) || !isDictionary(b) || !isDictionary(c) || how < 0 || how >= JOINS) {
            return BAD;
        }
        if (dictionaries[a].open || dictionaries[b].open) {
            return OPEN;
        }
        int answer = spare.terms.gather(dictionaries[a].terms, dictionaries[b].terms, how);
        if (answer >= 0) {
            trie.build(spare);
            putSpareAt(c);
        }
        return answer;
    }

    public int packed(int d) {
        if (!isDictionary(d)) {
            return BAD;
        }
        if (dictionaries[d].open) {
            return OPEN;
        }
        packing.write(dictionaries[d].machine, told);
        return told.size;
    }

    public int sign(int i) {
        return told.at(i);
    }

    public int load(int d) {
        if (!isDictionary(d)) {
            return BAD;
        }
        Signs word = takeCollected();
        if (!packing.read(word, spare)) {
            return SHAPE;
        }
        // Whatever is not written as its own dictionary would be is that of none.
        trie.build(spare);
        packing.write(spare.machine, trial);
        if (!trial.sameAs(word)) {
            return SHAPE;
        }
        putSpareAt(d);
        return dictionaries[d].terms.size;
    }

    public int walk(int w, int d, boolean back) {
        if (!isWalk(w) || !isDictionary(d)) {
            return BAD;
        }
        Signs word = takeCollected();
        if (dictionaries[d].open) {
            return OPEN;
        }
        Terms terms = dictionaries[d].terms;
        int from = back ? terms.greatestNotAbove(word) : terms.leastNotBelow(word);
        walks[w].start(d, changes[d], from, back ? -1 : 1);
        return 0;
    }

    public int next(int w) {
        if (!isWalk(w)) {
            return BAD;
        }
        Walk walk = walks[w];
        int d = walk.dictionary;
        if (!isDictionary(d) || walk.change != changes[d]) {
            return NONE;
        }
        return walk.step(dictionaries[d].terms.size);
    }

    private static boolean isDictionary(int d) {
        return d >= 0 && d < DICTIONARIES;
    }

    private static boolean isWalk(int w) {
        return w >= 0 && w < WALKS;
    }

    /** Two rows change places, so that a call can still read what it has used up. */
    private Signs takeCollected() {
        Signs word = collected;
        collected = usedUp;
        usedUp = word;
        collected.clear();
        return word;
    }

    /** What begins with what was collected: in order, or the cheapest of it. */
    private int keepBeginning(int d, int most, boolean cheapestFirst) {
        Signs word = takeCollected();
        if (dictionaries[d].open) {
            return OPEN;
        }
        Terms terms = dictionaries[d].terms;
        foundSize = 0;
        int from = terms.leastNotBelow(word);
        for (int number = from; number < terms.size && terms.beginsWith(number, word); number++) {
            if (cheapestFirst) {
                rankFound(terms, number, most);
            } else {
                putFound(number);
            }
        }
        return foundSize;
    }

    private void putFound(int number) {
        if (foundSize < MOST_TERMS) {
            found[foundSize] = number;
            foundSize++;
        }
    }

    /** Numbers come in order, so a later one goes behind those with the same OUT. */
    private void rankFound(Terms terms, int number, int most) {
        long out = terms.outAt(number);
        int place = foundSize;
        for (int i = foundSize - 1; i >= 0 && terms.outAt(found[i]) > out; i--) {
            place = i;
        }
        if (place >= most || place >= MOST_TERMS) {
            return;
        }
        if (foundSize < most && foundSize < MOST_TERMS) {
            foundSize++;
        }
        for (int i = foundSize - 1; i > place; i--) {
            found[i] = found[i - 1];
        }
        found[place] = number;
    }

    private int keepAccepted(Terms terms, boolean near) {
        foundSize = 0;
        for (int number = 0; number < terms.size; number++) {
            if (near ? nearWord.accepts(terms, number) : pattern.accepts(terms, number)) {
                putFound(number);
            }
        }
        return foundSize;
    }

    /** The dictionary that was there becomes the next spare one, so that nothing is copied. */
    private void putSpareAt(int d) {
        Dictionary before = dictionaries[d];
        spare.open = false;
        dictionaries[d] = spare;
        spare = before;
        changes[d]++;
    }

    /** Signs in a row of fixed room; what goes beyond it is counted, but not kept. */
    private static final class Signs {
        private final int[] held;
        private int size;

        Signs(int room) {
            held = new int[Math.max(room, 0)];
        }

        void clear() {
            size = 0;
        }

        void put(int sign) {
            if (size < held.length) {
                held[size] = sign & (SIGNS - 1);
            }
            size++;
        }

        /** NONE behind the end: it is less than all signs, as the order of terms wants it. */
        int at(int i) {
            return i < 0 || i >= size || i >= held.length ? NONE : held[i];
        }

        boolean sameAs(Signs other) {
            if (size != other.size || size > held.length) {
                return false;
            }
            for (int i = 0; i < size; i++) {
                if (at(i) != other.at(i)) {
                    return false;
                }
            }
            return true;
        }
    }

    private static final class Dictionary {
        private final Terms terms = new Terms();
        private final Machine machine = new Machine();
        private boolean open;
    }

    /** A walk that was not begun has no dictionary. */
    private static final class Walk {
        private int dictionary = NONE;
        private int change;
        private int number;
        private int stride;

        void start(int dictionary, int change, int number, int stride) {
            this.dictionary = dictionary;
            this.change = change;
            this.number = number;
            this.stride = stride;
        }

        int step(int size) {
            if (number < 0 || number >= size) {
                return NONE;
            }
            int here = number;
            number += stride;
            return here;
        }
    }

    /** The terms of a dictionary, in order. */
    private static final class Terms {
        private final int[] lengths = new int[MOST_TERMS];
        private final int[] signs = new int[MOST_TERMS * MOST_IN_TERM];
        private final long[] outs = new long[MOST_TERMS];
        private int size;

        void clear() {
            size = 0;
        }

        boolean append(int[] row, int from, int length, long out) {
            boolean inRow = from >= 0 && length >= 0 && from <= row.length - length;
            if (size >= MOST_TERMS || length > MOST_IN_TERM || !inRow) {
                return false;
            }
            for (int i = 0; i < length; i++) {
                signs[size * MOST_IN_TERM + i] = row[from + i];
            }
            lengths[size] = length;
            outs[size] = out;
            size++;
            return true;
        }

        private boolean has(int number) {
            return number >= 0 && number < size && number < MOST_TERMS;
        }

        int lengthAt(int number) {
            return has(number) ? lengths[number] : NONE;
        }

        /** NONE behind the end: it is less than all signs, as the order of terms wants it. */
        int signAt(int number, int i) {
            return i < 0 || i >= lengthAt(number) ? NONE : signs[number * MOST_IN_TERM + i];
        }

        long outAt(int number) {
            return has(number) ? outs[number] : NONE;
        }

        int longest() {
            int most = 0;
            for (int number = 0; number < size; number++) {
                most = Math.max(most, lengthAt(number));
            }
            return most;
        }

        int compareWith(int number, Signs word) {
            for (int i = 0; i <= MOST_IN_TERM; i++) {
                int mine = signAt(number, i);
                int other = word.at(i);
                if (mine != other) {
                    return mine < other ? -1 : 1;
                }
                if (mine == NONE) {
                    return 0;
                }
            }
            return 0;
        }

        private static int compareTerms(Terms a, int i, Terms b, int j) {
            for (int k = 0; k < MOST_IN_TERM; k++) {
                int mine = a.signAt(i, k);
                int other = b.signAt(j, k);
                if (mine != other) {
                    return mine < other ? -1 : 1;
                }
            }
            return 0;
        }

        boolean beginsWith(int number, Signs word) {
            if (!has(number) || word.size > lengthAt(number)) {
                return false;
            }
            for (int i = 0; i < word.size; i++) {
                if (signAt(number, i) != word.at(i)) {
                    return false;
                }
            }
            return true;
        }

        /** The size, if all are below. */
        int leastNotBelow(Signs word) {
            int low = 0;
            int high = size;
            for (int step = 0; step <= MOST_TERMS && low < high; step++) {
                int middle = (low + high) >>> 1;
                if (compareWith(middle, word) < 0) {
                    low = middle + 1;
                } else {
                    high = middle;
                }
            }
            return low;
        }

        /** NONE, if all are above. */
        int greatestNotAbove(Signs word) {
            int number = leastNotBelow(word);
            return number < size && compareWith(number, word) == 0 ? number : number - 1;
        }

        int numberOf(Signs word) {
            int number = leastNotBelow(word);
            return number < size && compareWith(number, word) == 0 ? number : NONE;
        }

        /** Becomes the join of two others, neither of which is this: how many, or FULL, or LONG. */
        int gather(Terms a, Terms b, int how) {
            clear();
            int i = 0;
            int j = 0;
            int answer = 0;
            for (int step = 0; step < 2 * MOST_TERMS && answer >= 0 && (i < a.size || j < b.size); step++) {
                int order = i >= a.size ? 1 : j >= b.size ? -1 : compareTerms(a, i, b, j);
                if (order == 0) {
                    answer = gatherBoth(a, i, b.outAt(j), how);
                } else if (order < 0) {
                    answer = how == JOIN_BOTH ? size : gatherOne(a, i, a.outAt(i));
                } else {
                    answer = how == JOIN_ONE_OR_BOTH || how == JOIN_JUST_ONE ? gatherOne(b, j, b.outAt(j)) : size;
                }
                i += order <= 0 ? 1 : 0;
                j += order >= 0 ? 1 : 0;
            }
            return answer;
        }

        private int gatherBoth(Terms a, int i, long otherOut, int how) {
            long out = a.outAt(i);
            if (how == JOIN_ONE_OR_BOTH) {
                return gatherOne(a, i, Math.min(out, otherOut));
            }
            if (how != JOIN_BOTH) {
                return size;
            }
            return out + otherOut > MOST_OUT ? LONG : gatherOne(a, i, out + otherOut);
        }

        private int gatherOne(Terms from, int number, long out) {
            return append(from.signs, number * MOST_IN_TERM, from.lengthAt(number), out) ? size : FULL;
        }
    }

    /** The least machine of a dictionary; a state's arcs stand behind one another. */
    private static final class Machine {
        private final int[] firstArc = new int[MOST_STATES + 1];
        private final long[] lastOutput = new long[MOST_STATES];
        private final int[] restRows = new int[MOST_STATES];
        private final int[] arcSign = new int[MOST_ARCS];
        private final int[] arcState = new int[MOST_ARCS];
        private final long[] arcOutput = new long[MOST_ARCS];
        private long least;
        private int states;
        private int arcs;
        private int finals;
        private int beginnings;

        /** That of a dictionary without terms. */
        Machine() {
            clear(0, 1);
            putState(NONE, 0);
        }

        void clear(long least, int beginnings) {
            this.least = least;
            this.beginnings = beginnings;
            states = 0;
            arcs = 0;
            finals = 0;
            firstArc[0] = 0;
        }

        /** A state whose arcs are to come; last is NONE, if it is not final. */
        boolean putState(long last, int rows) {
            if (states >= MOST_STATES) {
                return false;
            }
            lastOutput[states] = last;
            restRows[states] = rows;
            finals += last == NONE ? 0 : 1;
            states++;
            firstArc[states] = arcs;
            return true;
        }

        /** An arc of the latest state. */
        boolean putArc(int sign, int state, long output) {
            if (arcs >= MOST_ARCS || states > MOST_STATES) {
                return false;
            }
            arcSign[arcs] = sign;
            arcState[arcs] = state;
            arcOutput[arcs] = output;
            arcs++;
            firstArc[states] = arcs;
            return true;
        }

        private boolean has(int state) {
            return state >= 0 && state < states && state < MOST_STATES;
        }

        long lastOf(int state) {
            return has(state) ? lastOutput[state] : NONE;
        }

        int arcsOf(int state) {
            return has(state) ? firstArc[state + 1] - firstArc[state] : 0;
        }

        /** Where ARC i of a STATE stands, or NONE. */
        int placeOfArc(int state, int i) {
            return i < 0 || i >= arcsOf(state) ? NONE : firstArc[state] + i;
        }

        long tellState(int state, int what) {
            if (!has(state)) {
                return NONE;
            }
            switch (what) {
                case 0:
                    return arcsOf(state);
                case 1:
                    return lastOutput[state] == NONE ? 0 : 1;
                case 2:
                    return lastOutput[state];
                default:
                    return restRows[state];
            }
        }

        long tellArc(int state, int i, int what) {
            int place = placeOfArc(state, i);
            if (place < 0 || place >= MOST_ARCS) {
                return NONE;
            }
            switch (what) {
                case 0:
                    return arcSign[place];
                case 1:
                    return arcState[place];
                default:
                    return arcOutput[place];
            }
        }

        int stateBehind(Signs word) {
            int state = 0;
            for (int i = 0; i < word.size && state != NONE; i++) {
                state = stateBehindSign(state, word.at(i));
            }
            return state;
        }

        private int stateBehindSign(int state, int sign) {
            for (int i = 0; i < arcsOf(state); i++) {
                if (tellArc(state, i, 0) == sign) {
                    return (int) tellArc(state, i, 1);
                }
            }
            return NONE;
        }
    }

    /**
     * All beginnings of a dictionary, in order, from which its least machine is drawn.
     * Terms come in order, so a beginning's number is less than those of all that begin with it.
     */
    private static final class Trie {
        private static final int BUCKETS = 4096;
        private static final long SPREAD = 0x9E3779B97F4A7C15L;

        private final int[] parent = new int[MOST_STATES];
        private final int[] sign = new int[MOST_STATES];
        private final int[] rows = new int[MOST_STATES];
        private final long[] least = new long[MOST_STATES];
        private final long[] ownOut = new long[MOST_STATES];
        private final int[] firstChild = new int[MOST_STATES];
        private final int[] nextChild = new int[MOST_STATES];
        private final int[] alike = new int[MOST_STATES];
        private final int[] chain = new int[MOST_STATES];
        private final int[] stateOf = new int[MOST_STATES];
        private final int[] shown = new int[MOST_STATES];
        private final int[] heads = new int[BUCKETS];
        private final int[] path = new int[MOST_IN_TERM + 1];
        private int size;
        private int states;

        void build(Dictionary dictionary) {
            plant(dictionary.terms);
            findAlike();
            numberStates();
            draw(dictionary.machine);
        }

        private void plant(Terms terms) {
            size = 0;
            path[0] = grow(NONE, NONE, terms.size == 0 ? 0 : MOST_OUT);
            for (int number = 0; number < terms.size; number++) {
                int length = Math.min(terms.lengthAt(number), MOST_IN_TERM);
                for (int i = sharedWithLast(terms, number, length); i < length; i++) {
                    path[i + 1] = grow(path[i], terms.signAt(number, i), MOST_OUT);
                }
                countAlongPath(length, terms.outAt(number));
            }
        }

        private static int sharedWithLast(Terms terms, int number, int length) {
            int i = 0;
            while (i < length && terms.signAt(number, i) == terms.signAt(number - 1, i)) {
                i++;
            }
            return i;
        }

        private int grow(int above, int behind, long most) {
            int node = Math.min(size, MOST_STATES - 1);
            parent[node] = above;
            sign[node] = behind;
            rows[node] = 0;
            least[node] = most;
            ownOut[node] = NONE;
            firstChild[node] = NONE;
            size = node + 1;
            return node;
        }

        private void countAlongPath(int length, long out) {
            for (int i = 0; i <= length; i++) {
                int node = path[i];
                rows[node]++;
                least[node] = Math.min(least[node], out);
            }
            ownOut[path[length]] = out;
        }

        /** From the last one back, so that what is behind a beginning is known before it. */
        private void findAlike() {
            int buckets = 1;
            while (buckets < size && buckets < BUCKETS) {
                buckets *= 2;
            }
            for (int i = 0; i < buckets; i++) {
                heads[i] = NONE;
            }
            for (int node = size - 1; node >= 0; node--) {
                alike[node] = firstAlike(node, mixed(node) & (buckets - 1));
                int above = parent[node];
                if (above >= 0) {
                    nextChild[node] = firstChild[above];
                    firstChild[above] = node;
                }
            }
        }

        private int firstAlike(int node, int bucket) {
            int other = heads[bucket];
            for (int step = 0; step < size && other != NONE; step++) {
                if (haveSameRest(node, other)) {
                    return other;
                }
                other = chain[other];
            }
            chain[node] = heads[bucket];
            heads[bucket] = node;
            return node;
        }

        private boolean haveSameRest(int x, int y) {
            if (rows[x] != rows[y] || lastOutput(x) != lastOutput(y)) {
                return false;
            }
            int a = firstChild[x];
            int b = firstChild[y];
            for (int step = 0; step < SIGNS && a != NONE && b != NONE; step++) {
                if (sign[a] != sign[b] || alike[a] != alike[b] || output(x, a) != output(y, b)) {
                    return false;
                }
                a = nextChild[a];
                b = nextChild[b];
            }
            return a == NONE && b == NONE;
        }

        private int mixed(int node) {
            long mix = lastOutput(node);
            int child = firstChild[node];
            for (int step = 0; step < SIGNS && child != NONE; step++) {
                mix = (mix + sign[child]) * SPREAD;
                mix = ((mix ^ (mix >>> 29)) + alike[child]) * SPREAD;
                mix = (mix ^ (mix >>> 29)) + output(node, child);
                child = nextChild[child];
            }
            return (int) ((mix * SPREAD) >>> 40);
        }

        private long lastOutput(int node) {
            return ownOut[node] == NONE ? NONE : ownOut[node] - least[node];
        }

        private long output(int node, int child) {
            return least[child] - least[node];
        }

        private void numberStates() {
            states = 0;
            for (int node = 0; node < size; node++) {
                stateOf[node] = NONE;
            }
            for (int node = 0; node < size; node++) {
                int same = alike[node];
                if (stateOf[same] == NONE) {
                    stateOf[same] = states;
                    shown[states] = same;
                    states++;
                }
            }
        }

        private void draw(Machine machine) {
            machine.clear(least[0], size);
            for (int state = 0; state < states; state++) {
                int node = shown[state];
                machine.putState(lastOutput(node), rows[node]);
                int child = firstChild[node];
                for (int step = 0; step < SIGNS && child != NONE; step++) {
                    machine.putArc(sign[child], stateOf[alike[child]], output(node, child));
                    child = nextChild[child];
                }
            }
        }
    }

    /** Machines as signs, and signs as the machine and the terms that they tell. */
    private static final class Packing {
        private static final int FIRST = 84;
        private static final int SECOND = 77;
        private static final int MOST_PIECES = 6;
        // Each step goes an arc down or up; 201 terms of 12 signs take far fewer.
        private static final int MOST_STEPS = 1_000_000;

        private final int[] path = new int[MOST_IN_TERM];
        private final int[] stateAt = new int[MOST_IN_TERM + 1];
        private final int[] arcAt = new int[MOST_IN_TERM + 1];
        private final long[] sumAt = new long[MOST_IN_TERM + 1];
        private int place;

        void write(Machine machine, Signs signs) {
            signs.clear();
            signs.put(FIRST);
            signs.put(SECOND);
            writeNumber(machine.least, signs);
            writeNumber(machine.states, signs);
            for (int state = 0; state < machine.states; state++) {
                writeState(machine, state, signs);
            }
        }

        private void writeState(Machine machine, int state, Signs signs) {
            long last = machine.lastOf(state);
            if (last == NONE) {
                signs.put(0);
            } else {
                signs.put(1);
                writeNumber(last, signs);
            }
            int arcs = machine.arcsOf(state);
            writeNumber(arcs, signs);
            for (int i = 0; i < arcs; i++) {
                signs.put((int) machine.tellArc(state, i, 0));
                writeNumber(machine.tellArc(state, i, 1), signs);
                writeNumber(machine.tellArc(state, i, 2), signs);
            }
        }

        private static void writeNumber(long number, Signs signs) {
            long left = number;
            for (int i = 1; i < MOST_PIECES && left > 127; i++) {
                signs.put((int) (left & 127) | 128);
                left >>>= 7;
            }
            signs.put((int) left);
        }

        /** Leaves what it has read in a dictionary that is thrown away, if it answers no. */
        boolean read(Signs signs, Dictionary dictionary) {
            return readMachine(signs, dictionary.machine) && listTerms(dictionary.machine, dictionary.terms);
        }

        private boolean readMachine(Signs signs, Machine machine) {
            place = 0;
            if (readSign(signs) != FIRST || readSign(signs) != SECOND) {
                return false;
            }
            long least = readNumber(signs);
            long states = readNumber(signs);
            if (least < 0 || states < 1 || states > MOST_STATES) {
                return false;
            }
            machine.clear(least, 0);
            for (int state = 0; state < states; state++) {
                if (!readState(signs, machine, (int) states)) {
                    return false;
                }
            }
            return place == signs.size;
        }

        private boolean readState(Signs signs, Machine machine, int states) {
            int mark = readSign(signs);
            long last = mark == 1 ? readNumber(signs) : NONE;
            long arcs = readNumber(signs);
            boolean right = mark == 0 || mark == 1 && last >= 0;
            if (!right || arcs < 0 || arcs > SIGNS || !machine.putState(last, 0)) {
                return false;
            }
            int before = NONE;
            for (int i = 0; i < arcs; i++) {
                int sign = readSign(signs);
                long state = readNumber(signs);
                long output = readNumber(signs);
                boolean inBounds = state >= 0 && state < states && output >= 0;
                if (sign <= before || !inBounds || !machine.putArc(sign, (int) state, output)) {
                    return false;
                }
                before = sign;
            }
            return true;
        }

        private int readSign(Signs signs) {
            int sign = signs.at(place);
            place++;
            return sign;
        }

        /** NONE, if it does not end, or is longer than any number that is wanted. */
        private long readNumber(Signs signs) {
            long number = 0;
            for (int i = 0; i < MOST_PIECES; i++) {
                int piece = readSign(signs);
                if (piece == NONE) {
                    return NONE;
                }
                number |= (long) (piece & 127) << (7 * i);
                if (piece < 128) {
                    return number;
                }
            }
            return NONE;
        }

        private boolean listTerms(Machine machine, Terms terms) {
            terms.clear();
            int depth = 0;
            boolean right = enter(machine, terms, 0, 0, machine.least);
            for (int step = 0; step < MOST_STEPS && right; step++) {
                long sign = machine.tellArc(stateAt[depth], arcAt[depth], 0);
                if (sign == NONE && depth == 0) {
                    return true;
                }
                if (sign == NONE) {
                    depth--;
                } else if (depth >= MOST_IN_TERM) {
                    return false;
                } else {
                    path[depth] = (int) sign;
                    right = follow(machine, terms, depth);
                    depth++;
                }
            }
            return false;
        }

        private boolean follow(Machine machine, Terms terms, int depth) {
            int state = stateAt[depth];
            int i = arcAt[depth];
            arcAt[depth] = i + 1;
            long sum = sumAt[depth] + machine.tellArc(state, i, 2);
            return enter(machine, terms, depth + 1, (int) machine.tellArc(state, i, 1), sum);
        }

        /** A state that leads to no term is refused, so that only terms, 200 at most, take time. */
        private boolean enter(Machine machine, Terms terms, int depth, int state, long sum) {
            if (depth < 0 || depth > MOST_IN_TERM) {
                return false;
            }
            stateAt[depth] = state;
            arcAt[depth] = 0;
            sumAt[depth] = sum;
            long last = machine.lastOf(state);
            if (last == NONE) {
                return depth == 0 || machine.arcsOf(state) > 0;
            }
            return sum + last <= MOST_OUT && terms.append(path, 0, depth, sum + last);
        }
    }

    /** A part of a pattern: the places that it may begin and end with, and whether it may be bare. */
    private static final class Part {
        private boolean bare;
        private int first;
        private int last;

        void become(boolean bare, int first, int last) {
            this.bare = bare;
            this.first = first;
            this.last = last;
        }
    }

    /**
     * A wild word or a pattern, read into places, one for each sign that it takes from a term.
     * A place is a bit, since there are 24 at most.
     */
    private static final class Pattern {
        private static final int BRACKET = 40, BRACKET_END = 41, MANY = 42, SOME = 43, RANGE = 45, ANY = 46;
        private static final int MAYBE = 63, SET = 91, ESCAPE = 92, SET_END = 93, NOT = 94, OR = 124;

        private final int[] takers = new int[SIGNS];
        private final int[] follow = new int[MOST_IN_PATTERN];
        private final int[] inSet = new int[SIGNS];
        private final Part[] choices = new Part[MOST_BRACKETS + 1];
        private final Part[] sequences = new Part[MOST_BRACKETS + 1];
        private final Part piece = new Part();
        private boolean pieceWaits;
        private int depth;
        private int places;
        private int wrong;

        Pattern() {
            for (int i = 0; i <= MOST_BRACKETS; i++) {
                choices[i] = new Part();
                sequences[i] = new Part();
            }
        }

        void readWild(Signs word) {
            start();
            for (int i = 0; i < word.size; i++) {
                int sign = word.at(i);
                if (sign == MANY || sign == MAYBE) {
                    putPlace(0, SIGNS - 1);
                } else {
                    putPlace(sign, sign);
                }
                if (sign == MANY) {
                    repeat(MANY);
                }
                settlePiece();
            }
            settleSequence();
        }

        /** The place of the fault, or NONE. */
        int readPattern(Signs word) {
            start();
            int at = 0;
            for (int step = 0; step < MOST_IN_PATTERN && at < word.size && wrong == NONE; step++) {
                at = readOne(word, at);
            }
            if (wrong == NONE && depth > 0) {
                wrong = word.size;
            }
            settlePiece();
            settleSequence();
            return wrong;
        }

        private void start() {
            Arrays.fill(takers, 0);
            Arrays.fill(follow, 0);
            places = 0;
            wrong = NONE;
            pieceWaits = false;
            depth = 0;
            startLevel();
        }

        private void startLevel() {
            choices[depth].become(false, 0, 0);
            sequences[depth].become(true, 0, 0);
        }

        /** Reads what begins at a sign: where the next begins. */
        private int readOne(Signs word, int at) {
            int sign = word.at(at);
            if (sign == MANY || sign == SOME || sign == MAYBE) {
                readRepeat(sign, at);
                return at + 1;
            }
            settlePiece();
            switch (sign) {
                case OR:
                    settleSequence();
                    return at + 1;
                case BRACKET:
                    openBracket(at);
                    return at + 1;
                case BRACKET_END:
                    closeBracket(at);
                    return at + 1;
                case SET:
                    return readSet(word, at + 1);
                case SET_END:
                    wrong = at;
                    return at + 1;
                case ANY:
                    putPlace(0, SIGNS - 1);
                    return at + 1;
                default:
                    return readPlain(word, at);
            }
        }

        private void readRepeat(int sign, int at) {
            if (pieceWaits) {
                repeat(sign);
                settlePiece();
            } else {
                wrong = at;
            }
        }

        private int readPlain(Signs word, int at) {
            int place = pastEscape(word, at);
            int sign = word.at(place);
            if (sign == NONE) {
                wrong = word.size;
            } else {
                putPlace(sign, sign);
            }
            return place + 1;
        }

        private static int pastEscape(Signs word, int at) {
            return word.at(at) == ESCAPE ? at + 1 : at;
        }

        private void openBracket(int at) {
            if (depth >= MOST_BRACKETS) {
                wrong = at;
                return;
            }
            depth++;
            startLevel();
        }

        private void closeBracket(int at) {
            if (depth <= 0) {
                wrong = at;
                return;
            }
            settleSequence();
            Part choice = choices[depth];
            depth--;
            piece.become(choice.bare, choice.first, choice.last);
            pieceWaits = true;
        }

        private int readSet(Signs word, int from) {
            Arrays.fill(inSet, 0);
            boolean others = word.at(from) == NOT;
            int first = others ? from + 1 : from;
            int at = first;
            for (int step = 0; step <= MOST_IN_PATTERN && wrong == NONE; step++) {
                if (at > first && word.at(at) == SET_END) {
                    putPlaceOfSet(others ? 0 : 1);
                    return at + 1;
                }
                at = readItem(word, at);
            }
            return at;
        }

        private int readItem(Signs word, int at) {
            int place = pastEscape(word, at);
            int low = word.at(place);
            int high = low;
            if (low == NONE) {
                wrong = word.size;
            } else if (low == SET_END && place == at) {
                wrong = at;
            } else if (word.at(place + 1) == RANGE && word.at(place + 2) != SET_END) {
                place = pastEscape(word, place + 2);
                high = word.at(place);
                if (high < low) {
                    wrong = high == NONE ? word.size : place;
                }
            }
            for (int sign = Math.max(low, 0); sign <= high && sign < SIGNS; sign++) {
                inSet[sign] = 1;
            }
            return place + 1;
        }

        private void putPlace(int low, int high) {
            int place = newPlace();
            for (int sign = Math.max(low, 0); sign <= high && sign < SIGNS; sign++) {
                takers[sign] |= place;
            }
        }

        private void putPlaceOfSet(int wanted) {
            int place = newPlace();
            for (int sign = 0; sign < SIGNS; sign++) {
                if (inSet[sign] == wanted) {
                    takers[sign] |= place;
                }
            }
        }

        /** The bit of a place that becomes the piece. */
        private int newPlace() {
            int place = places < MOST_IN_PATTERN ? 1 << places : 0;
            places = Math.min(places + 1, MOST_IN_PATTERN);
            piece.become(false, place, place);
            pieceWaits = true;
            return place;
        }

        private void repeat(int sign) {
            if (sign != MAYBE) {
                lead(piece.last, piece.first);
            }
            if (sign != SOME) {
                piece.bare = true;
            }
        }

        private void lead(int from, int to) {
            for (int i = 0; i < places && i < MOST_IN_PATTERN; i++) {
                if ((from >>> i & 1) != 0) {
                    follow[i] |= to;
                }
            }
        }

        /** The piece that waited for a repeat behind it goes behind its sequence. */
        private void settlePiece() {
            if (!pieceWaits) {
                return;
            }
            pieceWaits = false;
            Part sequence = sequences[depth];
            lead(sequence.last, piece.first);
            int first = sequence.bare ? sequence.first | piece.first : sequence.first;
            int last = piece.bare ? sequence.last | piece.last : piece.last;
            sequence.become(sequence.bare && piece.bare, first, last);
        }

        private void settleSequence() {
            Part choice = choices[depth];
            Part sequence = sequences[depth];
            choice.become(choice.bare || sequence.bare, choice.first | sequence.first, choice.last | sequence.last);
            sequence.become(true, 0, 0);
        }

        boolean accepts(Terms terms, int number) {
            Part whole = choices[0];
            int length = terms.lengthAt(number);
            if (length <= 0) {
                return length == 0 && whole.bare;
            }
            int standing = whole.first & takersOf(terms.signAt(number, 0));
            for (int i = 1; i < length && standing != 0; i++) {
                standing = reachedFrom(standing) & takersOf(terms.signAt(number, i));
            }
            return (standing & whole.last) != 0;
        }

        private int takersOf(int sign) {
            return sign < 0 || sign >= SIGNS ? 0 : takers[sign];
        }

        private int reachedFrom(int standing) {
            int reached = 0;
            for (int i = 0; i < places && i < MOST_IN_PATTERN; i++) {
                if ((standing >>> i & 1) != 0) {
                    reached |= follow[i];
                }
            }
            return reached;
        }
    }

    /** A word, and by how many steps at most a term may be away from it. */
    private static final class NearWord {
        private final int[][] steps = new int[MOST_IN_TERM + 1][MOST_IN_TERM + 1];
        private Signs word;
        private int most;

        void read(Signs word, int most) {
            this.word = word;
            this.most = most;
        }

        boolean accepts(Terms terms, int number) {
            int length = terms.lengthAt(number);
            if (word == null || word.size > MOST_IN_TERM || length < 0 || length > MOST_IN_TERM) {
                return false;
            }
            if (Math.abs(word.size - length) > most) {
                return false;
            }
            for (int i = 0; i <= word.size; i++) {
                for (int j = 0; j <= length; j++) {
                    steps[i][j] = i == 0 || j == 0 ? i + j : fewest(terms, number, i, j);
                }
            }
            return steps[word.size][length] <= most;
        }

        /** From the first i signs of the word to the first j of the term, both at least one. */
        private int fewest(Terms terms, int number, int i, int j) {
            int mine = word.at(i - 1);
            int other = terms.signAt(number, j - 1);
            int fewest = Math.min(steps[i - 1][j], steps[i][j - 1]) + 1;
            fewest = Math.min(fewest, steps[i - 1][j - 1] + (mine == other ? 0 : 1));
            boolean swapped = i > 1 && j > 1 && word.at(i - 2) == other && mine == terms.signAt(number, j - 2);
            return swapped ? Math.min(fewest, steps[i - 2][j - 2] + 1) : fewest;
        }
    }
}
