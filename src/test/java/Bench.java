/** What tests that are written by hand share: dictionaries made of words, and answers asked for in a row. */
class Bench extends Check {
    static final int NONE = -1, BAD = -2, FULL = -3, OPEN = -4, ORDER = -5, LONG = -6, SHAPE = -7;
    static final long MOST_OUT = 1_000_000_000_000L;
    static final int READERS = 10;
    static final int[] NO_DICTIONARIES = {-1, 4, Integer.MIN_VALUE, Integer.MAX_VALUE};

    /** Words and OUTS by turns. */
    static void build(TermMachine x, int d, Object... terms) {
        x.begin(d);
        for (int i = 0; i < terms.length; i += 2) {
            give(x, (String) terms[i]).add(d, ((Number) terms[i + 1]).longValue());
        }
        x.done(d);
    }

    static TermMachine with(Object... terms) {
        TermMachine x = new TermMachine();
        build(x, 0, terms);
        return x;
    }

    /** The OUT of each is its number. */
    static void words(TermMachine x, int d, String... words) {
        Object[] terms = new Object[2 * words.length];
        for (int i = 0; i < words.length; i++) {
            terms[2 * i] = words[i];
            terms[2 * i + 1] = i;
        }
        build(x, d, terms);
    }

    static TermMachine withWords(String... words) {
        TermMachine x = new TermMachine();
        words(x, 0, words);
        return x;
    }

    /** So many terms of one sign each, from a first sign on; the OUT of each is its sign. */
    static void fan(TermMachine x, int d, int first, int many) {
        x.begin(d);
        for (int sign = first; sign < first + many; sign++) {
            x.collect(sign, 1);
            x.add(d, sign);
        }
        x.done(d);
    }

    static TermMachine withFan(int many) {
        TermMachine x = new TermMachine();
        fan(x, 0, 0, many);
        return x;
    }

    static String sign(int sign) {
        return String.valueOf((char) sign);
    }

    void dueRow(String call, TermMachine x, long got, int... numbers) {
        due(call, got, numbers.length);
        for (int i = 0; i < numbers.length; i++) {
            due(call + " row(" + i + ")", x.row(i), numbers[i]);
        }
        due(call + " row behind", x.row(numbers.length), NONE);
        due(call + " row ahead", x.row(-1), NONE);
    }

    /** Words and OUTS by turns, as those of a DONE dictionary. */
    void dueTerms(String call, TermMachine x, int d, Object... terms) {
        due(call + " terms", x.count(d, 0), terms.length / 2);
        due(call + " is done", x.count(d, 1), 0);
        for (int i = 0; i < terms.length; i += 2) {
            String word = (String) terms[i];
            due(call + " length of " + word, x.term(d, i / 2, -1), word.length());
            for (int k = 0; k < word.length(); k++) {
                due(call + " sign " + k + " of " + word, x.term(d, i / 2, k), word.charAt(k));
            }
            due(call + " out of " + word, x.out(d, i / 2), ((Number) terms[i + 1]).longValue());
        }
    }

    void duePacked(TermMachine x, int d, int... signs) {
        due("packed", x.packed(d), signs.length);
        for (int i = 0; i < signs.length; i++) {
            due("packed sign " + i, x.sign(i), signs[i]);
        }
        due("packed sign behind", x.sign(signs.length), NONE);
        due("packed sign ahead", x.sign(-1), NONE);
    }

    void duePattern(TermMachine x, String pattern, int... numbers) {
        dueRow("pattern " + pattern, x, give(x, pattern).meet(0, 1), numbers);
        due("no fault of " + pattern, x.fault(), NONE);
    }

    void dueFault(TermMachine x, String pattern, int place) {
        due("meet " + pattern, give(x, pattern).meet(0, 1), SHAPE);
        due("fault of " + pattern, x.fault(), place);
    }

    void dueSteps(String call, TermMachine x, int w, int... numbers) {
        for (int number : numbers) {
            due(call, x.next(w), number);
        }
        due(call + " end", x.next(w), NONE);
        due(call + " past the end", x.next(w), NONE);
    }

    /** Each of the calls that read what is COLLECTED. */
    static long readCollected(TermMachine x, int call, int d) {
        switch (call) {
            case 0:
                return x.add(d, 1);
            case 1:
                return x.find(d);
            case 2:
                return x.state(d);
            case 3:
                return x.number(d);
            case 4:
                return x.ceiling(d);
            case 5:
                return x.prefix(d);
            case 6:
                return x.cheapest(d, 1);
            case 7:
                return x.meet(d, 1);
            case 8:
                return x.walk(0, d, false);
            default:
                return x.load(d);
        }
    }
}
