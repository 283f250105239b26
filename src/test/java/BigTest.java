import java.util.ArrayList;
import java.util.Arrays;
import java.util.List;
import java.util.Random;
import java.util.TreeSet;

/** The greatest dictionaries that can be: every state, arc, term and packed sign is that of the model. */
public final class BigTest {
    private static final long MOST_OUT = 1_000_000_000_000L;
    private static final Check check = new Check();

    public static void main(String[] args) {
        fill(1, 256, 12, MOST_OUT);
        fill(2, 2, 12, 3);
        fill(3, 2, 12, MOST_OUT);
        fill(4, 3, 7, 1);
        fill(5, 200, 1, MOST_OUT);
        fill(6, 16, 2, 2);
        greatestTrie();
        tooManyPaths();
        check.end("BigTest");
    }

    private static void fill(long seed, int signs, int most, long mostOut) {
        Random random = new Random(seed);
        TreeSet<String> words = new TreeSet<>();
        for (int tries = 0; words.size() < 200 && tries < 5000; tries++) {
            StringBuilder word = new StringBuilder();
            int length = most == 12 ? 12 - random.nextInt(2) : random.nextInt(most + 1);
            for (int i = 0; i < length; i++) {
                word.append((char) random.nextInt(signs));
            }
            words.add(word.toString());
        }
        TermMachine x = new TermMachine();
        Model model = new Model();
        x.begin(0);
        model.begin(0);
        for (String word : words) {
            long out = Math.floorMod(random.nextLong(), mostOut + 1);
            check.due("add", Check.give(x, word).add(0, out), give(model, word).add(0, out));
        }
        check.due("done", x.done(0), model.done(0));
        compare(x, model, new ArrayList<>(words));
    }

    /** As many beginnings as there can be: no two terms share a sign. */
    private static void greatestTrie() {
        TermMachine x = new TermMachine();
        x.begin(0);
        for (int i = 0; i < 200; i++) {
            int[] word = new int[12];
            Arrays.fill(word, i);
            check.due("add", Check.give(x, word).add(0, MOST_OUT - i), i + 1);
        }
        check.due("states", x.done(0), 2 + 200 * 11);
        check.due("arcs", x.count(0, 3), 200 * 12);
        check.due("beginnings", x.count(0, 6), 1 + 200 * 12);
        int[] last = new int[12];
        Arrays.fill(last, 199);
        check.due("find", Check.give(x, last).find(0), MOST_OUT - 199);
        check.due("state", Check.give(x, last).state(0), 12);
    }

    private static Model give(Model model, String word) {
        for (int i = 0; i < word.length(); i++) {
            model.collect(word.charAt(i), 1);
        }
        return model;
    }

    private static void compare(TermMachine x, Model model, List<String> words) {
        for (int what = 0; what <= 6; what++) {
            check.due("count " + what, x.count(0, what), model.count(0, what));
        }
        int size = model.packed(0);
        check.due("packed", x.packed(0), size);
        for (int i = -1; i <= size; i++) {
            check.due("sign " + i, x.sign(i), model.sign(i));
        }
        for (int n = 0; n < words.size(); n++) {
            String word = words.get(n);
            check.due("number", Check.give(x, word).number(0), n);
            check.due("find", Check.give(x, word).find(0), model.out(0, n));
            check.due("ceiling", Check.give(x, word + '\0').ceiling(0), n + 1 < words.size() ? n + 1 : -1);
        }
        check.due("cheapest", x.cheapest(0, 200), model.cheapest(0, 200));
        for (int i = 0; i <= words.size(); i++) {
            check.due("row " + i, x.row(i), model.row(i));
        }
        check.due("all meet", Check.give(x, "*").meet(0, 0), words.size());
        check.due("walk", x.walk(0, 0, false), 0);
        for (int n = 0; n < words.size(); n++) {
            check.due("next", x.next(0), n);
        }
        check.due("next", x.next(0), -1);
    }

    /** Machines with more paths than could ever be gone, in few signs. */
    private static void tooManyPaths() {
        TermMachine x = new TermMachine();
        check.due("load of many paths", Check.give(x, manyPaths(100, 1, 0, 0)).load(0), -7);
        check.due("load of many dead paths", Check.give(x, manyPaths(100, 0, 0)).load(0), -7);
        check.due("load of many rings", Check.give(x, manyPaths(100, 0, 1, 7, 0, 0)).load(0), -7);
        check.due("load of a single path", Check.give(x, manyPaths(1, 1, 0, 0)).load(0), 1);
    }

    /** Twelve states, each with so many arcs to the next one, and a last one. */
    private static int[] manyPaths(int arcs, int... last) {
        int[] signs = new int[4 + 12 * (2 + arcs * 3) + last.length];
        signs[0] = 84;
        signs[1] = 77;
        signs[3] = 13;
        int at = 4;
        for (int state = 0; state < 12; state++) {
            signs[at + 1] = arcs;
            at += 2;
            for (int i = 0; i < arcs; i++) {
                signs[at] = i;
                signs[at + 1] = state + 1;
                at += 3;
            }
        }
        System.arraycopy(last, 0, signs, at, last.length);
        return signs;
    }
}
