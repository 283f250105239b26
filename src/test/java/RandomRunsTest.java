import java.nio.charset.StandardCharsets;
import java.util.ArrayList;
import java.util.List;
import java.util.Random;
import java.util.TreeSet;

/** Runs of up to 512 calls, drawn from fixed seeds, whose answers are those of the model. */
public final class RandomRunsTest {
    private static final int RUNS = 600;
    private static final int CALLS = 512;
    private static final String[] ALPHABETS = {"ab", "abc", "abcd*?-", "a\u0000\u00ff", "()*+.?[]\\|^-ab", "\u007f\u0080\u0081"};
    private static final String PATTERN_SIGNS = "aaabbbcc.()()*+?|[]^-\\";

    private final Random random;
    private final String alphabet;
    private final TermMachine machine = new TermMachine();
    private final Model model = new Model();
    private final List<String> calls = new ArrayList<>();
    private boolean wrong;
    private int made;

    private RandomRunsTest(long seed) {
        random = new Random(seed);
        alphabet = ALPHABETS[(int) (seed % ALPHABETS.length)];
    }

    public static void main(String[] args) {
        int bad = 0;
        for (long seed = 0; seed < RUNS; seed++) {
            RandomRunsTest run = new RandomRunsTest(seed);
            run.go();
            if (run.wrong) {
                bad++;
                System.out.println("seed " + seed + ":");
                for (String call : run.calls) {
                    System.out.println("  " + call);
                }
                if (bad >= 3) {
                    break;
                }
            }
        }
        System.out.println("RandomRunsTest: " + RUNS + " runs, " + bad + " not as the model");
        if (bad != 0) {
            System.exit(1);
        }
    }

    private void go() {
        while (made < CALLS && !wrong) {
            act();
        }
    }

    private void same(String call, long got, long want) {
        made++;
        calls.add(call + " = " + got);
        if (got != want) {
            wrong = true;
            calls.add("^ due is " + want);
        }
    }

    private int below(int n) {
        return random.nextInt(n);
    }

    private boolean rarely() {
        return below(25) == 0;
    }

    private int anyDictionary() {
        return rarely() ? below(2) * 5 - 1 : below(3);
    }

    private String anyRow(String signs, int most) {
        StringBuilder text = new StringBuilder();
        int length = below(most + 1);
        for (int i = 0; i < length; i++) {
            text.append(signs.charAt(below(signs.length())));
        }
        return text.toString();
    }

    private long anyOut() {
        switch (below(6)) {
            case 0:
                return below(1000);
            case 1:
                return Math.floorMod(random.nextLong(), Model.MOST_OUT + 1);
            default:
                return below(4);
        }
    }

    private void collect(String text) {
        byte[] bytes = text.getBytes(StandardCharsets.ISO_8859_1);
        for (int from = 0; from < bytes.length; from += 8) {
            int n = Math.min(8, bytes.length - from);
            long w = n < 8 ? random.nextLong() << (8 * n) : 0;
            for (int i = 0; i < n; i++) {
                w |= (bytes[from + i] & 255L) << (8 * i);
            }
            same("collect(" + w + ", " + n + ")", machine.collect(w, n), model.collect(w, n));
        }
    }

    private void collectNearTerm(int d) {
        List<String> terms = d < 0 || d > 3 ? List.of() : model.termsOf(d);
        if (terms.isEmpty() || below(3) == 0) {
            collect(anyRow(alphabet, rarely() ? 14 : 5));
            return;
        }
        String term = terms.get(below(terms.size()));
        StringBuilder text = new StringBuilder(term);
        if (below(3) == 0) {
            text.setLength(below(text.length() + 1));
        }
        for (int changes = below(3); changes > 0; changes--) {
            int at = below(text.length() + 1);
            if (below(2) == 0 && at < text.length()) {
                text.deleteCharAt(at);
            } else {
                text.insert(at, alphabet.charAt(below(alphabet.length())));
            }
        }
        collect(text.toString());
    }

    private void buildDictionary(int d) {
        same("begin(" + d + ")", machine.begin(d), model.begin(d));
        TreeSet<String> words = new TreeSet<>();
        int many = rarely() ? 30 : 12;
        for (int i = below(many); i > 0; i--) {
            words.add(anyRow(alphabet, below(8) == 0 ? 13 : 4));
        }
        for (String word : words) {
            if (!rarely()) {
                collect(word);
            }
            addOne(d, rarely() ? Model.MOST_OUT + below(2) : anyOut());
        }
        if (!rarely()) {
            same("done(" + d + ")", machine.done(d), model.done(d));
        }
    }

    private void addOne(int d, long out) {
        same("add(" + d + ", " + out + ")", machine.add(d, out), model.add(d, out));
    }

    private void readRow() {
        for (int i = -1; i <= 8; i++) {
            same("row(" + i + ")", machine.row(i), model.row(i));
        }
    }

    private void meetOne(int d) {
        int kind = rarely() ? below(2) * 6 - 1 : below(5);
        if (kind == 1) {
            collect(anyPattern());
        } else if (kind == 0) {
            collect(anyRow(alphabet + "*?", rarely() ? 26 : 6));
        } else {
            collectNearTerm(d);
        }
        same("meet(" + d + ", " + kind + ")", machine.meet(d, kind), model.meet(d, kind));
        same("fault()", machine.fault(), model.fault());
        readRow();
    }

    private String anyPattern() {
        switch (below(5)) {
            case 0:
                return anyRow(PATTERN_SIGNS, rarely() ? 26 : 1 + below(12));
            case 1:
                StringBuilder text = new StringBuilder(anyChoice(0));
                text.setCharAt(below(text.length()), PATTERN_SIGNS.charAt(below(PATTERN_SIGNS.length())));
                return text.toString();
            default:
                return anyChoice(0);
        }
    }

    private String anyChoice(int depth) {
        StringBuilder text = new StringBuilder();
        for (int pieces = 1 + below(4); pieces > 0; pieces--) {
            text.append(anyAtom(depth)).append(below(2) == 0 ? "" : String.valueOf("*+?".charAt(below(3))));
            text.append(below(4) == 0 ? "|" : "");
        }
        return text.toString();
    }

    private String anyAtom(int depth) {
        switch (below(6)) {
            case 0:
                return ".";
            case 1:
                return depth < 5 ? "(" + anyChoice(depth + 1 + below(2)) + ")" : "a";
            case 2:
                return "[" + (below(3) == 0 ? "^" : "") + anyItem() + (below(2) == 0 ? anyItem() : "") + "]";
            case 3:
                return "\\" + alphabet.charAt(below(alphabet.length()));
            default:
                return String.valueOf(alphabet.charAt(below(alphabet.length())));
        }
    }

    private String anyItem() {
        String low = (rarely() ? "\\" : "") + alphabet.charAt(below(alphabet.length()));
        String high = (rarely() ? "\\" : "") + alphabet.charAt(below(alphabet.length()));
        return below(2) == 0 ? low : below(8) == 0 ? "-" : low + "-" + high;
    }

    private void packOne(int d) {
        same("packed(" + d + ")", machine.packed(d), model.packed(d));
        for (int i = -1; i < 12; i++) {
            int at = i < 0 ? -1 : i + below(5) * 4;
            same("sign(" + at + ")", machine.sign(at), model.sign(at));
        }
    }

    private void loadOne(int d) {
        int from = below(3);
        StringBuilder text = new StringBuilder(model.isOpen(from) ? "TM" : model.packedText(from));
        if (text.length() > 400) {
            return;
        }
        for (int changes = below(3); changes > 0; changes--) {
            int at = below(text.length());
            switch (below(4)) {
                case 0:
                    text.setCharAt(at, (char) below(256));
                    break;
                case 1:
                    text.setCharAt(at, (char) (text.charAt(at) ^ 1));
                    break;
                case 2:
                    text.deleteCharAt(at);
                    break;
                default:
                    text.insert(at, (char) below(4));
                    break;
            }
        }
        collect(text.toString());
        same("load(" + d + ")", machine.load(d), model.load(d));
        same("count(" + d + ", 0)", machine.count(d, 0), model.count(d, 0));
    }

    private void readMachine(int d) {
        for (int what = -1; what <= 7; what++) {
            same("count(" + d + ", " + what + ")", machine.count(d, what), model.count(d, what));
        }
        for (int step = 0; step < 12; step++) {
            int state = below(9) - 1;
            int i = below(5) - 2;
            int what = rarely() ? below(2) * 5 - 1 : below(4);
            String call = "arc(" + d + ", " + state + ", " + i + ", " + what + ")";
            same(call, machine.arc(d, state, i, what), model.arc(d, state, i, what));
        }
    }

    private void readTerms(int d) {
        for (int step = 0; step < 6; step++) {
            int number = below(14) - 1;
            int i = below(6) - 2;
            same("term(" + d + ", " + number + ", " + i + ")", machine.term(d, number, i), model.term(d, number, i));
            same("out(" + d + ", " + number + ")", machine.out(d, number), model.out(d, number));
        }
    }

    private void joinOne() {
        int a = anyDictionary();
        int b = anyDictionary();
        int c = anyDictionary();
        int how = rarely() ? below(2) * 5 - 1 : below(4);
        String call = "join(" + a + ", " + b + ", " + c + ", " + how + ")";
        same(call, machine.join(a, b, c, how), model.join(a, b, c, how));
        readTerms(c);
    }

    private void walkOne(int d) {
        int w = rarely() ? below(2) * 5 - 1 : below(4);
        boolean back = random.nextBoolean();
        collectNearTerm(d);
        same("walk(" + w + ", " + d + ", " + back + ")", machine.walk(w, d, back), model.walk(w, d, back));
    }

    private void stepWalks() {
        for (int step = 0; step < 6; step++) {
            int w = rarely() ? below(2) * 5 - 1 : below(4);
            same("next(" + w + ")", machine.next(w), model.next(w));
        }
    }

    private void lookUp(int d) {
        if (!rarely()) {
            collectNearTerm(d);
        }
        switch (below(6)) {
            case 0:
                same("find(" + d + ")", machine.find(d), model.find(d));
                break;
            case 1:
                same("state(" + d + ")", machine.state(d), model.state(d));
                break;
            case 2:
                same("number(" + d + ")", machine.number(d), model.number(d));
                break;
            case 3:
                same("ceiling(" + d + ")", machine.ceiling(d), model.ceiling(d));
                break;
            case 4:
                same("prefix(" + d + ")", machine.prefix(d), model.prefix(d));
                readRow();
                break;
            default:
                int n = rarely() ? below(2) * 201 : 1 + below(8);
                same("cheapest(" + d + ", " + n + ")", machine.cheapest(d, n), model.cheapest(d, n));
                readRow();
                break;
        }
    }

    private void act() {
        int d = anyDictionary();
        switch (below(16)) {
            case 0:
            case 1:
                buildDictionary(d);
                break;
            case 2:
                meetOne(d);
                meetOne(d);
                break;
            case 3:
                packOne(d);
                break;
            case 4:
            case 5:
                loadOne(d);
                break;
            case 6:
                readMachine(d);
                break;
            case 7:
                readTerms(d);
                break;
            case 8:
                joinOne();
                break;
            case 9:
                walkOne(d);
                stepWalks();
                break;
            case 10:
                stepWalks();
                break;
            case 11:
                int n = below(12) - 1;
                long w = random.nextLong();
                same("collect(" + w + ", " + n + ")", machine.collect(w, n), model.collect(w, n));
                same("forget()", machine.forget(), model.forget());
                break;
            default:
                lookUp(d);
                lookUp(d);
                break;
        }
    }
}
