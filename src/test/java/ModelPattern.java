import java.util.ArrayList;
import java.util.BitSet;
import java.util.List;
import java.util.TreeSet;

/** A PATTERN read by descent into a tree; what it accepts is tried out, end by end. */
final class ModelPattern {
    private static final String NEVER_ALONE = "()*+.?[\\]|";

    private static final class Fault extends RuntimeException {
        private static final long serialVersionUID = 1L;
        final int place;

        Fault(int place) {
            this.place = place;
        }
    }

    /** A node knows at which ends it may stop when it begins at a place of a term. */
    private interface Node {
        TreeSet<Integer> ends(String term, int from);
    }

    final int fault;
    private final String text;
    private int at;
    private Node whole;

    ModelPattern(String text) {
        this.text = text;
        int place = Model.NONE;
        try {
            whole = alt(0);
            if (at < text.length()) {
                throw new Fault(at);
            }
        } catch (Fault f) {
            place = f.place;
        }
        fault = place;
    }

    boolean accepts(String term) {
        return whole.ends(term, 0).contains(term.length());
    }

    private boolean sees(char sign) {
        return at < text.length() && text.charAt(at) == sign;
    }

    private char take() {
        if (at >= text.length()) {
            throw new Fault(text.length());
        }
        return text.charAt(at++);
    }

    private Node alt(int depth) {
        List<Node> ways = new ArrayList<>();
        ways.add(sequence(depth));
        while (sees('|')) {
            at++;
            ways.add(sequence(depth));
        }
        return (term, from) -> {
            TreeSet<Integer> ends = new TreeSet<>();
            for (Node way : ways) {
                ends.addAll(way.ends(term, from));
            }
            return ends;
        };
    }

    private Node sequence(int depth) {
        List<Node> pieces = new ArrayList<>();
        while (at < text.length() && !sees('|') && !sees(')')) {
            pieces.add(piece(depth));
        }
        return (term, from) -> {
            TreeSet<Integer> here = new TreeSet<>();
            here.add(from);
            for (Node piece : pieces) {
                TreeSet<Integer> further = new TreeSet<>();
                for (int place : here) {
                    further.addAll(piece.ends(term, place));
                }
                here = further;
            }
            return here;
        };
    }

    private Node piece(int depth) {
        Node atom = atom(depth);
        if (sees('*')) {
            at++;
            return (term, from) -> again(atom, term, from, true);
        }
        if (sees('+')) {
            at++;
            return (term, from) -> again(atom, term, from, false);
        }
        if (sees('?')) {
            at++;
            return (term, from) -> {
                TreeSet<Integer> ends = new TreeSet<>(atom.ends(term, from));
                ends.add(from);
                return ends;
            };
        }
        return atom;
    }

    private static TreeSet<Integer> again(Node atom, String term, int from, boolean none) {
        TreeSet<Integer> ends = none ? new TreeSet<>(List.of(from)) : new TreeSet<>(atom.ends(term, from));
        for (int round = 0; round <= term.length() + 1; round++) {
            for (int place : new TreeSet<>(ends)) {
                ends.addAll(atom.ends(term, place));
            }
        }
        return ends;
    }

    private Node atom(int depth) {
        int place = at;
        char sign = take();
        if (sign == '.') {
            return one(all());
        }
        if (sign == '(') {
            if (depth == 4) {
                throw new Fault(place);
            }
            Node inner = alt(depth + 1);
            if (take() != ')') {
                throw new Fault(at - 1);
            }
            return inner;
        }
        if (sign == '[') {
            return one(set());
        }
        if (sign == '\\') {
            return one(just(take()));
        }
        if (NEVER_ALONE.indexOf(sign) >= 0) {
            throw new Fault(place);
        }
        return one(just(sign));
    }

    private static BitSet all() {
        BitSet signs = new BitSet();
        signs.set(0, 256);
        return signs;
    }

    private static BitSet just(char sign) {
        BitSet signs = new BitSet();
        signs.set(sign);
        return signs;
    }

    private static Node one(BitSet signs) {
        return (term, from) -> {
            TreeSet<Integer> ends = new TreeSet<>();
            if (from < term.length() && signs.get(term.charAt(from))) {
                ends.add(from + 1);
            }
            return ends;
        };
    }

    private BitSet set() {
        BitSet signs = new BitSet();
        boolean not = sees('^');
        if (not) {
            at++;
        }
        if (sees(']')) {
            throw new Fault(at);
        }
        do {
            char low = signOfSet();
            boolean range = sees('-') && !(at + 1 < text.length() && text.charAt(at + 1) == ']');
            if (!range) {
                signs.set(low);
                continue;
            }
            at++;
            char high = signOfSet();
            if (high < low) {
                throw new Fault(at - 1);
            }
            signs.set(low, high + 1);
        } while (!sees(']'));
        at++;
        if (not) {
            signs.flip(0, 256);
        }
        return signs;
    }

    private char signOfSet() {
        char sign = take();
        return sign == '\\' ? take() : sign;
    }
}
