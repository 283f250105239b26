/** For each promise: ordinary inputs, the edges that the document names, and wrong inputs, with the answers due. */
public final class PromiseTest extends Bench {
    public static void main(String[] args) {
        new PromiseTest().run();
    }

    private void run() {
        constants();
        newObject();
        collect();
        forget();
        begin();
        add();
        done();
        find();
        state();
        count();
        arc();
        number();
        term();
        out();
        ceiling();
        prefix();
        cheapest();
        meetWild();
        meetPattern();
        meetSets();
        meetNear();
        meetRefused();
        fault();
        row();
        join();
        packed();
        sign();
        load();
        loadRefused();
        walk();
        next();
        end("PromiseTest");
    }

    private void constants() {
        due("NONE", TermMachine.NONE, NONE);
        due("BAD", TermMachine.BAD, BAD);
        due("FULL", TermMachine.FULL, FULL);
        due("OPEN", TermMachine.OPEN, OPEN);
        due("ORDER", TermMachine.ORDER, ORDER);
        due("LONG", TermMachine.LONG, LONG);
        due("SHAPE", TermMachine.SHAPE, SHAPE);
    }

    private void newObject() {
        TermMachine x = new TermMachine();
        for (int d = 0; d < 4; d++) {
            int[] counts = {0, 0, 1, 0, 0, 0, 1};
            for (int what = 0; what <= 6; what++) {
                due("new count " + what, x.count(d, what), counts[what]);
            }
            due("new done", x.done(d), OPEN);
            due("new find", x.find(d), NONE);
            due("new state of the empty beginning", x.state(d), 0);
            due("new arcs", x.arc(d, 0, -1, 0), 0);
            due("new final", x.arc(d, 0, -1, 1), 0);
            due("new last output", x.arc(d, 0, -1, 2), NONE);
            due("new rest", x.arc(d, 0, -1, 3), 0);
            due("new next", x.next(d), NONE);
        }
        due("new forget", x.forget(), 0);
        due("new fault", x.fault(), NONE);
        due("new row", x.row(0), NONE);
        due("new sign", x.sign(0), NONE);
    }

    private void collect() {
        TermMachine x = new TermMachine();
        due("collect 0", x.collect(97, 0), BAD);
        due("collect 9", x.collect(97, 9), BAD);
        due("collect -1", x.collect(97, -1), BAD);
        due("collect lowest", x.collect(Integer.MIN_VALUE, Integer.MIN_VALUE), BAD);
        due("collect after BAD", x.collect(0x636261L, 2), 2);
        due("collect behind", x.collect(-1L, 1), 3);
        x.begin(0);
        due("add collected", x.add(0, 5), 1);
        x.done(0);
        dueTerms("collect", x, 0, "ab\u00ff", 5);
        x.begin(1);
        due("collect 8", x.collect(0x8877665544332211L, 8), 8);
        x.add(1, 1);
        x.done(1);
        dueTerms("collect 8", x, 1, "\u0011\"3DUfw\u0088", 1);
        x = new TermMachine();
        for (int i = 1; i <= 499; i++) {
            due("collect much", x.collect(i, 8), 8 * i);
        }
        due("collect to 3999", x.collect(0, 7), 3999);
        due("collect beyond", x.collect(0, 2), FULL);
        due("collect last", x.collect(0, 1), 4000);
        due("collect full", x.collect(0, 1), FULL);
        due("collect BAD before FULL", x.collect(0, 9), BAD);
        due("forget all", x.forget(), 4000);
    }

    private void forget() {
        TermMachine x = new TermMachine();
        due("forget none", x.forget(), 0);
        give(x, "abcde");
        due("forget", x.forget(), 5);
        due("forget again", x.forget(), 0);
        due("collect after forget", x.collect(1, 1), 1);
    }

    private void begin() {
        TermMachine x = new TermMachine();
        for (int d : NO_DICTIONARIES) {
            due("begin BAD", x.begin(d), BAD);
        }
        due("begin", x.begin(3), 0);
        due("begin opens", x.count(3, 1), 1);
        give(x, "a").add(3, 1);
        give(x, "b").add(3, 1);
        due("begin again while open", x.begin(3), 2);
        due("begin empties", x.count(3, 0), 0);
        due("begin lets lesser terms in", give(x, "a").add(3, 2), 1);
        x.done(3);
        due("begin what is done", x.begin(3), 1);
        due("begin leaves others", x.count(2, 1), 0);
        give(x, "kept");
        x.begin(0);
        due("begin keeps what is collected", x.forget(), 4);
    }

    private void add() {
        TermMachine x = new TermMachine();
        due("add to a done one", give(x, "a").add(0, 1), OPEN);
        x.begin(0);
        give(x, "a");
        for (int d : NO_DICTIONARIES) {
            due("add BAD", x.add(d, 1), BAD);
        }
        due("add BAD out", x.add(0, -1), BAD);
        due("add BAD great out", x.add(0, MOST_OUT + 1), BAD);
        due("add BAD least out", x.add(0, Long.MIN_VALUE), BAD);
        due("add kept collected", x.collect('b', 1), 2);
        due("add greatest out", x.add(0, MOST_OUT), 1);
        due("add alike", give(x, "ab").add(0, 0), ORDER);
        due("add a beginning", give(x, "a").add(0, 0), ORDER);
        due("add nothing collected", x.add(0, 0), ORDER);
        due("add below", give(x, "aaz").add(0, 0), ORDER);
        due("add twelve", give(x, "abcdefghijkl").add(0, 0), 2);
        due("add thirteen", give(x, "abcdefghijklm").add(0, 0), LONG);
        due("add LONG before ORDER", give(x, "aaaaaaaaaaaaa").add(0, 0), LONG);
        due("add high sign", give(x, 200).add(0, 0), 3);
        due("add unsigned order", give(x, 127).add(0, 0), ORDER);
        due("add 255", give(x, 255).add(0, 0), 4);
        x.done(0);
        due("add OPEN before LONG", give(x, "abcdefghijklm").add(0, 0), OPEN);
        dueTerms("add", x, 0, "ab", MOST_OUT, "abcdefghijkl", 0, "\u00c8", 0, "\u00ff", 0);
        addEmptyFirst();
        addMany();
    }

    private void addEmptyFirst() {
        TermMachine x = new TermMachine();
        x.begin(0);
        due("add the empty term", x.add(0, 3), 1);
        due("add it again", x.add(0, 3), ORDER);
        due("add behind it", give(x, 0).add(0, 3), 2);
    }

    private void addMany() {
        TermMachine x = new TermMachine();
        x.begin(0);
        for (int i = 0; i < 200; i++) {
            due("add many", give(x, i).add(0, i), i + 1);
        }
        due("add ORDER before FULL", give(x, 7).add(0, 1), ORDER);
        due("add FULL", give(x, 201).add(0, 1), FULL);
        due("add FULL changed nothing", x.count(0, 0), 200);
        due("done with many", x.done(0), 2);
    }

    private void done() {
        TermMachine x = new TermMachine();
        for (int d : NO_DICTIONARIES) {
            due("done BAD", x.done(d), BAD);
        }
        due("done already", x.done(1), OPEN);
        x.begin(1);
        due("done without terms", x.done(1), 1);
        due("done again", x.done(1), OPEN);
        x.begin(1);
        x.add(1, 9);
        due("done with the empty term", x.done(1), 1);
        x.begin(1);
        give(x, "car").add(1, 1);
        give(x, "cat").add(1, 1);
        give(x, "kept");
        due("done", x.done(1), 4);
        due("done keeps what is collected", x.forget(), 4);
        x.begin(1);
        give(x, "abx").add(1, 5);
        give(x, "aby").add(1, 6);
        give(x, "cbx").add(1, 15);
        give(x, "cby").add(1, 16);
        due("done joins alike rests", x.done(1), 4);
        x.begin(1);
        give(x, "abx").add(1, 5);
        give(x, "aby").add(1, 6);
        give(x, "cbx").add(1, 15);
        give(x, "cby").add(1, 17);
        due("done parts unlike outputs", x.done(1), 6);
    }

    private void find() {
        TermMachine x = with("", 7, "a", MOST_OUT, "abc", 0);
        for (int d : NO_DICTIONARIES) {
            due("find BAD", x.find(d), BAD);
        }
        due("find the empty term", x.find(0), 7);
        due("find a", give(x, "a").find(0), MOST_OUT);
        due("find abc", give(x, "abc").find(0), 0);
        due("find a beginning", give(x, "ab").find(0), NONE);
        due("find beyond", give(x, "abcd").find(0), NONE);
        due("find above", give(x, "b").find(0), NONE);
        due("find very long", give(x, "abcabcabcabcabcabc").find(0), NONE);
        due("find in another", give(x, "a").find(1), NONE);
        x.begin(0);
        due("find OPEN", x.find(0), OPEN);
    }

    private void state() {
        TermMachine x = with("ab", 1, "cb", 5, "d", 2);
        for (int d : NO_DICTIONARIES) {
            due("state BAD", x.state(d), BAD);
        }
        due("state of the empty one", x.state(0), 0);
        due("state a", give(x, "a").state(0), 1);
        due("state ab", give(x, "ab").state(0), 2);
        due("state c", give(x, "c").state(0), 1);
        due("state cb", give(x, "cb").state(0), 2);
        due("state d", give(x, "d").state(0), 2);
        due("state of none", give(x, "b").state(0), NONE);
        due("state beyond", give(x, "abb").state(0), NONE);
        due("state of a long one", give(x, "abababababababababab").state(0), NONE);
        x.begin(0);
        due("state OPEN", give(x, "a").state(0), OPEN);
    }

    private void count() {
        TermMachine x = with("", 4, "ab", 1, "abc", 9, "cb", 5, "d", 2);
        for (int d : NO_DICTIONARIES) {
            due("count BAD", x.count(d, 0), BAD);
        }
        due("count BAD what -1", x.count(0, -1), BAD);
        due("count BAD what 7", x.count(0, 7), BAD);
        int[] counts = {5, 0, 5, 6, 3, 3, 7};
        for (int what = 0; what <= 6; what++) {
            due("count " + what, x.count(0, what), counts[what]);
        }
        x.begin(0);
        give(x, "abcd").add(0, 1);
        due("count of an open one", x.count(0, 0), 1);
        due("count whether open", x.count(0, 1), 1);
        for (int what = 2; what <= 6; what++) {
            due("count OPEN " + what, x.count(0, what), OPEN);
        }
        due("count BAD before OPEN", x.count(0, 7), BAD);
    }

    private void arc() {
        TermMachine x = with("", 14, "ab", 11, "abc", 19, "cb", 15, "d", 12);
        for (int d : NO_DICTIONARIES) {
            due("arc BAD", x.arc(d, 0, 0, 0), BAD);
        }
        due("arc BAD what -1", x.arc(0, 0, 0, -1), BAD);
        due("arc BAD what 4", x.arc(0, 0, -1, 4), BAD);
        due("arc BAD what 3 of an arc", x.arc(0, 0, 0, 3), BAD);
        long[][] states = {
            {3, 1, 3, 5, 97, 1, 0, 99, 4, 4, 100, 3, 1},
            {1, 0, NONE, 2, 98, 2, 0},
            {1, 1, 0, 2, 99, 3, 8},
            {0, 1, 0, 1},
            {1, 0, NONE, 1, 98, 3, 0},
        };
        for (int state = 0; state < states.length; state++) {
            long[] told = states[state];
            for (int what = 0; what <= 3; what++) {
                due("state " + state + " what " + what, x.arc(0, state, -1, what), told[what]);
            }
            for (int k = 4; k < told.length; k++) {
                int i = (k - 4) / 3;
                int what = (k - 4) % 3;
                due("state " + state + " arc " + i + " what " + what, x.arc(0, state, i, what), told[k]);
            }
            due("no arc behind", x.arc(0, state, (int) told[0], 0), NONE);
            due("no arc ahead", x.arc(0, state, -2, 0), NONE);
        }
        due("no state behind", x.arc(0, 5, -1, 0), NONE);
        due("no state ahead", x.arc(0, -1, -1, 0), NONE);
        due("no state far", x.arc(0, Integer.MAX_VALUE, Integer.MAX_VALUE, 0), NONE);
        due("no state far ahead", x.arc(0, Integer.MIN_VALUE, Integer.MIN_VALUE, 2), NONE);
        x.begin(0);
        due("arc OPEN", x.arc(0, 9, 9, 0), OPEN);
        due("arc BAD before OPEN", x.arc(0, 0, 0, 5), BAD);
    }

    private void number() {
        TermMachine x = with("", 7, "a", 5, "abc", 0);
        for (int d : NO_DICTIONARIES) {
            due("number BAD", x.number(d), BAD);
        }
        due("number of the empty term", x.number(0), 0);
        due("number of a", give(x, "a").number(0), 1);
        due("number of abc", give(x, "abc").number(0), 2);
        due("number of a beginning", give(x, "ab").number(0), NONE);
        due("number of none", give(x, "abcd").number(0), NONE);
        due("number in an empty one", x.number(1), NONE);
        x.begin(0);
        due("number OPEN", x.number(0), OPEN);
    }

    private void term() {
        TermMachine x = with("", 7, "a\u0000\u00ff", 5);
        for (int d : NO_DICTIONARIES) {
            due("term BAD", x.term(d, 0, 0), BAD);
        }
        due("term length 0", x.term(0, 0, -1), 0);
        due("term no sign", x.term(0, 0, 0), NONE);
        due("term length 3", x.term(0, 1, -1), 3);
        due("term sign 0", x.term(0, 1, 0), 97);
        due("term sign 1", x.term(0, 1, 1), 0);
        due("term sign 2", x.term(0, 1, 2), 255);
        due("term sign 3", x.term(0, 1, 3), NONE);
        due("term sign -2", x.term(0, 1, -2), NONE);
        due("term 2", x.term(0, 2, -1), NONE);
        due("term -1", x.term(0, -1, -1), NONE);
        due("term far", x.term(0, Integer.MAX_VALUE, Integer.MAX_VALUE), NONE);
        due("term far ahead", x.term(0, Integer.MIN_VALUE, Integer.MIN_VALUE), NONE);
        x.begin(0);
        due("term OPEN", x.term(0, 9, 9), OPEN);
    }

    private void out() {
        TermMachine x = with("", 7, "a", MOST_OUT);
        for (int d : NO_DICTIONARIES) {
            due("out BAD", x.out(d, 0), BAD);
        }
        due("out 0", x.out(0, 0), 7);
        due("out 1", x.out(0, 1), MOST_OUT);
        due("out 2", x.out(0, 2), NONE);
        due("out -1", x.out(0, -1), NONE);
        due("out far", x.out(0, Integer.MAX_VALUE), NONE);
        x.begin(0);
        due("out OPEN", x.out(0, 9), OPEN);
    }

    private void ceiling() {
        TermMachine x = with("ab", 1, "abc", 1, "b\u0080", 1);
        for (int d : NO_DICTIONARIES) {
            due("ceiling BAD", x.ceiling(d), BAD);
        }
        due("ceiling of nothing", x.ceiling(0), 0);
        due("ceiling of a", give(x, "a").ceiling(0), 0);
        due("ceiling of ab", give(x, "ab").ceiling(0), 0);
        due("ceiling of aba", give(x, "aba").ceiling(0), 1);
        due("ceiling of abcd", give(x, "abcd").ceiling(0), 2);
        due("ceiling of long", give(x, "abcabcabcabcabc").ceiling(0), 2);
        due("ceiling of b7f", give(x, "b\u007f").ceiling(0), 2);
        due("ceiling of b80", give(x, "b\u0080").ceiling(0), 2);
        due("ceiling of b81", give(x, "b\u0081").ceiling(0), NONE);
        due("ceiling of b80 and more", give(x, "b\u0080\u0000").ceiling(0), NONE);
        due("ceiling in an empty one", x.ceiling(1), NONE);
        x.begin(0);
        due("ceiling OPEN", x.ceiling(0), OPEN);
    }

    private void prefix() {
        TermMachine x = with("", 1, "ab", 1, "abc", 1, "abd", 1, "b", 1);
        for (int d : NO_DICTIONARIES) {
            due("prefix BAD", x.prefix(d), BAD);
        }
        dueRow("prefix of nothing", x, x.prefix(0), 0, 1, 2, 3, 4);
        dueRow("prefix a", x, give(x, "a").prefix(0), 1, 2, 3);
        dueRow("prefix ab", x, give(x, "ab").prefix(0), 1, 2, 3);
        dueRow("prefix abc", x, give(x, "abc").prefix(0), 2);
        dueRow("prefix abcd", x, give(x, "abcd").prefix(0));
        dueRow("prefix of a long one", x, give(x, "abcabcabcabcabc").prefix(0));
        dueRow("prefix b", x, give(x, "b").prefix(0), 4);
        x.begin(0);
        due("prefix OPEN", give(x, "a").prefix(0), OPEN);
        due("prefix OPEN kept the row", x.row(0), 4);
        dueRow("prefix in an empty one", x, x.prefix(1));
    }

    private void cheapest() {
        TermMachine x = with("", 9, "ab", 5, "abc", 7, "abd", 5, "abe", 1, "b", 0);
        for (int d : NO_DICTIONARIES) {
            due("cheapest BAD", x.cheapest(d, 1), BAD);
        }
        due("cheapest BAD n 0", x.cheapest(0, 0), BAD);
        due("cheapest BAD n 201", x.cheapest(0, 201), BAD);
        dueRow("cheapest of all", x, x.cheapest(0, 200), 5, 4, 1, 3, 2, 0);
        dueRow("cheapest three a", x, give(x, "a").cheapest(0, 3), 4, 1, 3);
        dueRow("cheapest two a", x, give(x, "a").cheapest(0, 2), 4, 1);
        dueRow("cheapest one", x, x.cheapest(0, 1), 5);
        dueRow("cheapest of none", x, give(x, "c").cheapest(0, 1));
        x.prefix(0);
        x.begin(0);
        due("cheapest OPEN", x.cheapest(0, 1), OPEN);
        due("cheapest OPEN kept the row", x.row(5), 5);
        due("cheapest BAD before OPEN", x.cheapest(0, 0), BAD);
    }

    private void meetWild() {
        TermMachine x = new TermMachine();
        words(x, 0, "", "*", "a", "ab", "abc", "acb", "b?b", "bab");
        dueRow("wild nothing", x, x.meet(0, 0), 0);
        dueRow("wild *", x, give(x, "*").meet(0, 0), 0, 1, 2, 3, 4, 5, 6, 7);
        dueRow("wild **", x, give(x, "**").meet(0, 0), 0, 1, 2, 3, 4, 5, 6, 7);
        dueRow("wild ?", x, give(x, "?").meet(0, 0), 1, 2);
        dueRow("wild a*", x, give(x, "a*").meet(0, 0), 2, 3, 4, 5);
        dueRow("wild *b", x, give(x, "*b").meet(0, 0), 3, 5, 6, 7);
        dueRow("wild ?*?", x, give(x, "?*?").meet(0, 0), 3, 4, 5, 6, 7);
        dueRow("wild b?b", x, give(x, "b?b").meet(0, 0), 6, 7);
        dueRow("wild a*b*", x, give(x, "a*b*").meet(0, 0), 3, 4, 5);
        dueRow("wild abc", x, give(x, "abc").meet(0, 0), 4);
        dueRow("wild 24", x, give(x, "************************").meet(0, 0), 0, 1, 2, 3, 4, 5, 6, 7);
        dueRow("wild 24 with a last sign", x, give(x, "***********************b").meet(0, 0), 3, 5, 6, 7);
        due("wild 25", give(x, "*************************").meet(0, 0), LONG);
        words(x, 0, "(", "[", "\\a", "a+", "aa");
        dueRow("wild (", x, give(x, "(").meet(0, 0), 0);
        dueRow("wild [", x, give(x, "[").meet(0, 0), 1);
        dueRow("wild \\a", x, give(x, "\\a").meet(0, 0), 2);
        dueRow("wild a+", x, give(x, "a+").meet(0, 0), 3);
    }

    private void meetPattern() {
        TermMachine x = new TermMachine();
        words(x, 0, "", "*", "a", "aa", "aaa", "ab", "abab", "abc", "b", "ba");
        duePattern(x, "", 0);
        duePattern(x, "a", 2);
        duePattern(x, "a*", 0, 2, 3, 4);
        duePattern(x, "a+", 2, 3, 4);
        duePattern(x, "a?", 0, 2);
        duePattern(x, "a|b", 2, 8);
        duePattern(x, "a||b", 0, 2, 8);
        duePattern(x, "|", 0);
        duePattern(x, "()", 0);
        duePattern(x, "()*", 0);
        duePattern(x, "(a|)+", 0, 2, 3, 4);
        duePattern(x, "(ab)*", 0, 5, 6);
        duePattern(x, "(ab)+", 5, 6);
        duePattern(x, "(ab)?c?", 0, 5, 7);
        duePattern(x, "(a|b)*", 0, 2, 3, 4, 5, 6, 8, 9);
        duePattern(x, "((((a))))b", 5);
        duePattern(x, "(((())))()a", 2);
        duePattern(x, ".", 1, 2, 8);
        duePattern(x, "..", 3, 5, 9);
        duePattern(x, ".*b.*", 5, 6, 7, 8, 9);
        duePattern(x, "\\*", 1);
        duePattern(x, "\\a\\b", 5);
        duePattern(x, "a(b|a)", 3, 5);
        duePattern(x, "ab|ba", 5, 9);
        duePattern(x, "a?a?a", 2, 3, 4);
        duePattern(x, "(a+b?)+", 2, 3, 4, 5, 6);
        duePattern(x, "a*b*a*b*c?", 0, 2, 3, 4, 5, 6, 7, 8, 9);
        duePattern(x, "........................");
        duePattern(x, "a?a?a?a?a?a?a?a?a?a?a?a?", 0, 2, 3, 4);
        words(x, 0, "-", "^", "a\u0000", "a-b", "a\u00ff");
        duePattern(x, "-", 0);
        duePattern(x, "^", 1);
        duePattern(x, "a-b", 3);
        duePattern(x, "a.", 2, 4);
    }

    private void meetSets() {
        TermMachine x = new TermMachine();
        words(x, 0, "", "-", "[", "\\", "]", "^", "a", "b", "c", "z", "\u00ff");
        duePattern(x, "[a]", 6);
        duePattern(x, "[ac]", 6, 8);
        duePattern(x, "[a-c]", 6, 7, 8);
        duePattern(x, "[a-a]", 6);
        duePattern(x, "[^a-c]", 1, 2, 3, 4, 5, 9, 10);
        duePattern(x, "[^^]", 1, 2, 3, 4, 6, 7, 8, 9, 10);
        duePattern(x, "[a^]", 5, 6);
        duePattern(x, "[-a]", 1, 6);
        duePattern(x, "[a-]", 1, 6);
        duePattern(x, "[-]", 1);
        duePattern(x, "[--]", 1);
        duePattern(x, "[^-]", 2, 3, 4, 5, 6, 7, 8, 9, 10);
        duePattern(x, "[a-b-z]", 1, 6, 7, 9);
        duePattern(x, "[a-b-]", 1, 6, 7);
        duePattern(x, "[--^]", 1, 2, 3, 4, 5);
        duePattern(x, "[a-b--^]", 1, 2, 3, 4, 5, 6, 7);
        duePattern(x, "[\\]]", 4);
        duePattern(x, "[\\\\]", 3);
        duePattern(x, "[[]", 2);
        duePattern(x, "[\\^]", 5);
        duePattern(x, "[[-\\]]", 2, 3, 4);
        duePattern(x, "[\\a-c]", 6, 7, 8);
        duePattern(x, "[a\\-c]", 1, 6, 8);
        duePattern(x, "[b-\\c]", 7, 8);
        duePattern(x, "[^a]*", 0, 1, 2, 3, 4, 5, 7, 8, 9, 10);
        duePattern(x, "[a-\u00ff]", 6, 7, 8, 9, 10);
        duePattern(x, "[.*+?()|]");
        duePattern(x, "[^^-a]", 1, 2, 3, 4, 7, 8, 9, 10);
        words(x, 0, "\u0000", "\u0000\u0000", "aa", "ab", "abb", "ba", "bc");
        duePattern(x, "[^a]", 0);
        duePattern(x, "[\u0000-\u0001]", 0);
        duePattern(x, "[\u0000]+", 0, 1);
        duePattern(x, "[ab][ab]", 2, 3, 5);
        duePattern(x, "a[ab]", 2, 3);
        duePattern(x, "[^c][^a]", 1, 3, 6);
        duePattern(x, "a[b]*", 3, 4);
        duePattern(x, "([a-b][b-c])?b?", 3, 4, 6);
    }

    private void meetNear() {
        TermMachine x = new TermMachine();
        words(x, 0, "", "a", "ab", "abc", "abcd", "abdc", "acb", "b", "ba", "bac", "bca", "xyz");
        dueRow("near 0 nothing", x, x.meet(0, 2), 0);
        dueRow("near 0 abc", x, give(x, "abc").meet(0, 2), 3);
        dueRow("near 0 none", x, give(x, "abx").meet(0, 2));
        dueRow("near 1 nothing", x, x.meet(0, 3), 0, 1, 7);
        dueRow("near 1 ab", x, give(x, "ab").meet(0, 3), 1, 2, 3, 6, 7, 8);
        dueRow("near 1 abc", x, give(x, "abc").meet(0, 3), 2, 3, 4, 5, 6, 9);
        dueRow("near 2 nothing", x, x.meet(0, 4), 0, 1, 2, 7, 8);
        dueRow("near 2 ca", x, give(x, "ca").meet(0, 4), 0, 1, 2, 6, 7, 8, 9, 10);
        dueRow("near 2 abcd", x, give(x, "abcd").meet(0, 4), 2, 3, 4, 5, 6, 9, 10);
        dueRow("near 1 xzy", x, give(x, "xzy").meet(0, 3), 11);
        dueRow("near 1 wild signs are themselves", x, give(x, "*").meet(0, 3), 0, 1, 7);
        words(x, 0, "abcdefghijkl", "abcdefghijlk", "badcefghijkl", "badcfeghijkl");
        dueRow("near 1 twelve", x, give(x, "abcdefghijkl").meet(0, 3), 0, 1);
        dueRow("near 2 twelve", x, give(x, "abcdefghijkl").meet(0, 4), 0, 1, 2);
        due("near thirteen", give(x, "abcdefghijklm").meet(0, 4), LONG);
    }

    private void meetRefused() {
        TermMachine x = new TermMachine();
        words(x, 0, "a", "b");
        x.prefix(0);
        for (int d : NO_DICTIONARIES) {
            due("meet BAD", x.meet(d, 0), BAD);
        }
        due("meet BAD kind -1", x.meet(0, -1), BAD);
        due("meet BAD kind 5", x.meet(0, 5), BAD);
        x.begin(1);
        due("meet OPEN", give(x, "*").meet(1, 0), OPEN);
        due("meet OPEN before LONG", give(x, "aaaaaaaaaaaaaaaaaaaaaaaaa").meet(1, 0), OPEN);
        due("meet LONG pattern", give(x, "aaaaaaaaaaaaaaaaaaaaaaaaa").meet(0, 1), LONG);
        due("meet LONG before SHAPE", give(x, "(aaaaaaaaaaaaaaaaaaaaaaaa").meet(0, 1), LONG);
        due("meet LONG near", give(x, "aaaaaaaaaaaaa").meet(0, 2), LONG);
        due("meet SHAPE", give(x, "(").meet(0, 1), SHAPE);
        due("refused meets kept the row", x.row(1), 1);
        due("refused meets kept its length", x.row(2), NONE);
    }

    private void fault() {
        TermMachine x = new TermMachine();
        dueFault(x, "(", 1);
        dueFault(x, ")", 0);
        dueFault(x, "a)", 1);
        dueFault(x, "(a))", 3);
        dueFault(x, "*", 0);
        dueFault(x, "+a", 0);
        dueFault(x, "a|?", 2);
        dueFault(x, "(*a)", 1);
        dueFault(x, "a**", 2);
        dueFault(x, "a+?", 2);
        dueFault(x, "a?+", 2);
        dueFault(x, "(a)*+", 4);
        dueFault(x, "]", 0);
        dueFault(x, "a]", 1);
        dueFault(x, "[]", 1);
        dueFault(x, "[]a]", 1);
        dueFault(x, "[^]", 2);
        dueFault(x, "[^]a]", 2);
        dueFault(x, "[", 1);
        dueFault(x, "[^", 2);
        dueFault(x, "[a", 2);
        dueFault(x, "[a-", 3);
        dueFault(x, "[a-b", 4);
        dueFault(x, "[a-\\", 4);
        dueFault(x, "[\\", 2);
        dueFault(x, "[\\]", 3);
        dueFault(x, "[b-a]", 3);
        dueFault(x, "[b-a", 3);
        dueFault(x, "[b-\\a]", 4);
        dueFault(x, "[\\b-\\a]", 5);
        dueFault(x, "[a--]", 3);
        dueFault(x, "x[ab-", 5);
        dueFault(x, "\\", 1);
        dueFault(x, "a\\", 2);
        dueFault(x, "(((((a)))))", 4);
        dueFault(x, "((((a))))(((((", 13);
        dueFault(x, "((((", 4);
        dueFault(x, "(a|b", 4);
        dueFault(x, "aaaaaaaaaaaaaaaaaaaaaaa(", 24);
        faultThatStays(x);
    }

    private void faultThatStays(TermMachine x) {
        dueFault(x, "a)", 1);
        due("meet wild", give(x, "a)").meet(0, 0), 0);
        due("fault after another kind", x.fault(), 1);
        due("meet near", give(x, "a)").meet(0, 3), 0);
        due("fault after another kind", x.fault(), 1);
        due("meet BAD", x.meet(4, 1), BAD);
        x.begin(1);
        due("meet OPEN", x.meet(1, 1), OPEN);
        due("meet LONG", give(x, "aaaaaaaaaaaaaaaaaaaaaaaaa").meet(0, 1), LONG);
        due("fault after refused ones", x.fault(), 1);
        due("meet without fault", give(x, "a").meet(0, 1), 0);
        due("no fault any more", x.fault(), NONE);
    }

    private void row() {
        TermMachine x = new TermMachine();
        due("row before", x.row(0), NONE);
        words(x, 0, "a", "b", "c");
        dueRow("row", x, x.prefix(0), 0, 1, 2);
        due("row far", x.row(Integer.MAX_VALUE), NONE);
        due("row far ahead", x.row(Integer.MIN_VALUE), NONE);
        x.begin(0);
        due("row outlives its dictionary", x.row(2), 2);
        x.done(0);
        x.prefix(0);
        due("row is made anew", x.row(0), NONE);
    }

    private void join() {
        TermMachine x = new TermMachine();
        build(x, 0, "", 3, "a", 5, "abc", 7, "b", 9);
        build(x, 1, "a", 4, "ab", 6, "b", 10, "c", 1);
        for (int d : NO_DICTIONARIES) {
            due("join BAD a", x.join(d, 1, 2, 0), BAD);
            due("join BAD b", x.join(0, d, 2, 0), BAD);
            due("join BAD c", x.join(0, 1, d, 0), BAD);
        }
        due("join BAD how -1", x.join(0, 1, 2, -1), BAD);
        due("join BAD how 4", x.join(0, 1, 2, 4), BAD);
        due("join 0", x.join(0, 1, 2, 0), 6);
        dueTerms("join 0", x, 2, "", 3, "a", 4, "ab", 6, "abc", 7, "b", 9, "c", 1);
        due("join made the machine", x.count(2, 6), 6);
        due("join 1", x.join(0, 1, 2, 1), 2);
        dueTerms("join 1", x, 2, "a", 9, "b", 19);
        due("join 2", x.join(0, 1, 2, 2), 2);
        dueTerms("join 2", x, 2, "", 3, "abc", 7);
        due("join 2 turned", x.join(1, 0, 2, 2), 2);
        dueTerms("join 2 turned", x, 2, "ab", 6, "c", 1);
        due("join 3", x.join(0, 1, 2, 3), 4);
        dueTerms("join 3", x, 2, "", 3, "ab", 6, "abc", 7, "c", 1);
        due("join with an empty one", x.join(3, 1, 2, 0), 4);
        due("join two empty ones", x.join(3, 3, 2, 1), 0);
        due("join empty states", x.count(2, 2), 1);
        due("join kept a", x.count(0, 0), 4);
        due("join into a", x.join(0, 1, 0, 1), 2);
        dueTerms("join into a", x, 0, "a", 9, "b", 19);
        due("join into b", x.join(0, 1, 1, 3), 2);
        dueTerms("join into b", x, 1, "ab", 6, "c", 1);
        due("join with itself", x.join(1, 1, 1, 1), 2);
        dueTerms("join with itself", x, 1, "ab", 12, "c", 2);
        due("join itself away", x.join(1, 1, 1, 2), 0);
        joinRefused();
    }

    private void joinRefused() {
        TermMachine x = new TermMachine();
        build(x, 0, "a", MOST_OUT, "b", 600_000_000_000L);
        build(x, 1, "a", 0, "b", 400_000_000_000L);
        due("join greatest sums", x.join(0, 1, 2, 1), 2);
        dueTerms("join greatest sums", x, 2, "a", MOST_OUT, "b", MOST_OUT);
        build(x, 1, "b", 400_000_000_001L);
        due("join LONG", x.join(0, 1, 2, 1), LONG);
        due("join LONG changed nothing", x.count(2, 0), 2);
        due("join 0 takes the lesser", x.join(0, 1, 3, 0), 2);
        x.begin(3);
        due("join OPEN a", x.join(3, 0, 2, 0), OPEN);
        due("join OPEN b", x.join(0, 3, 2, 0), OPEN);
        due("join OPEN into itself", x.join(3, 0, 3, 0), OPEN);
        due("join BAD before OPEN", x.join(3, 0, 2, 4), BAD);
        give(x, "kept");
        due("join into an open one", x.join(0, 1, 3, 0), 2);
        dueTerms("join into an open one", x, 3, "a", MOST_OUT, "b", 400_000_000_001L);
        due("join keeps what is collected", x.forget(), 4);
        x = new TermMachine();
        x.begin(0);
        x.begin(1);
        for (int i = 0; i < 120; i++) {
            give(x, 2 * i).add(0, i);
        }
        for (int i = 0; i < 81; i++) {
            give(x, 2 * i + 1).add(1, i);
        }
        x.done(0);
        x.done(1);
        due("join FULL", x.join(0, 1, 0, 0), FULL);
        due("join FULL of just one", x.join(0, 1, 0, 3), FULL);
        due("join FULL changed nothing", x.count(0, 0), 120);
        due("join less", x.join(0, 1, 2, 2), 120);
    }

    private void packed() {
        TermMachine x = new TermMachine();
        for (int d : NO_DICTIONARIES) {
            due("packed BAD", x.packed(d), BAD);
        }
        duePacked(x, 0, 84, 77, 0, 1, 0, 0);
        build(x, 0, "", 5);
        duePacked(x, 0, 84, 77, 5, 1, 1, 0, 0);
        build(x, 0, "", 127, "a", 128, "\u00ff", 127);
        duePacked(x, 0, 84, 77, 127, 2, 1, 0, 2, 97, 1, 1, 255, 1, 0, 1, 0, 0);
        build(x, 0, "a", 128, "ab", 128 + 16384);
        duePacked(x, 0, 84, 77, 128, 1, 3, 0, 1, 97, 1, 0, 1, 0, 1, 98, 2, 128, 128, 1, 1, 0, 0);
        build(x, 0, "", MOST_OUT);
        duePacked(x, 0, 84, 77, 128, 160, 148, 165, 141, 29, 1, 1, 0, 0);
        build(x, 0, "", 300, "b", 0);
        duePacked(x, 0, 84, 77, 0, 2, 1, 172, 2, 1, 98, 1, 0, 1, 0, 0);
        x.begin(1);
        due("packed OPEN", x.packed(1), OPEN);
        due("packed OPEN changed nothing", x.sign(5), 172);
        due("packed BAD changed nothing", x.packed(4), BAD);
        due("packed kept", x.sign(6), 2);
    }

    private void sign() {
        TermMachine x = new TermMachine();
        due("sign before", x.sign(0), NONE);
        build(x, 0, "a", 1);
        due("packed", x.packed(0), 12);
        x.begin(0);
        due("sign outlives its dictionary", x.sign(0), 84);
        due("sign of the term", x.sign(6), 97);
        due("sign far", x.sign(Integer.MAX_VALUE), NONE);
        due("sign far ahead", x.sign(Integer.MIN_VALUE), NONE);
        give(x, 84, 77, 0, 1, 0, 0);
        due("load", x.load(1), 0);
        due("sign after load", x.sign(6), 97);
    }

    private void load() {
        TermMachine x = new TermMachine();
        give(x, 84, 77, 127, 2, 1, 0, 2, 97, 1, 1, 255, 1, 0, 1, 0, 0);
        for (int d : NO_DICTIONARIES) {
            due("load BAD", x.load(d), BAD);
        }
        due("load", x.load(2), 3);
        dueTerms("load", x, 2, "", 127, "a", 128, "\u00ff", 127);
        due("load made the machine", x.count(2, 2), 2);
        due("load rests", x.arc(2, 0, -1, 3), 3);
        due("load beginnings", x.count(2, 6), 3);
        x.begin(2);
        due("load SHAPE", give(x, 84, 77, 0, 1, 0).load(2), SHAPE);
        due("load SHAPE left it open", x.count(2, 1), 1);
        due("load an empty one", give(x, 84, 77, 0, 1, 0, 0).load(2), 0);
        due("load made it done", x.count(2, 1), 0);
        give(x, 84, 77, 128, 160, 148, 165, 141, 29, 1, 1, 0, 0);
        due("load the greatest out", x.load(2), 1);
        dueTerms("load the greatest out", x, 2, "", MOST_OUT);
    }

    private void dueShape(String why, int... signs) {
        TermMachine x = with("kept", 1);
        due(why, give(x, signs).load(0), SHAPE);
        dueTerms(why, x, 0, "kept", 1);
        due(why + " used up", x.forget(), 0);
    }

    private void loadRefused() {
        dueShape("nothing");
        dueShape("a first sign", 83, 77, 0, 1, 0, 0);
        dueShape("a second sign", 84, 78, 0, 1, 0, 0);
        dueShape("one sign", 84);
        dueShape("no states", 84, 77, 0, 0);
        dueShape("a least without terms", 84, 77, 1, 1, 0, 0);
        dueShape("more behind", 84, 77, 0, 1, 0, 0, 0);
        dueShape("a mark of 2", 84, 77, 0, 1, 2, 0, 0);
        dueShape("a number that does not end", 84, 77, 128);
        dueShape("a number too long", 84, 77, 133, 0, 1, 1, 0, 0);
        dueShape("a number of ten", 84, 77, 128, 128, 128, 128, 128, 128, 128, 128, 128, 1, 1, 1, 0, 0);
        dueShape("an out too great", 84, 77, 129, 160, 148, 165, 141, 29, 1, 1, 0, 0);
        dueShape("a last out too great", 84, 77, 0, 2, 1, 129, 160, 148, 165, 141, 29, 1, 97, 1, 0, 1, 0, 0);
        dueShape("an output too great", 84, 77, 0, 2, 1, 0, 1, 97, 1, 129, 160, 148, 165, 141, 29, 1, 0, 0);
        dueShape("a sum too great", 84, 77, 1, 2, 1, 0, 1, 97, 1, 128, 160, 148, 165, 141, 29, 1, 0, 0);
        dueShape("a last output not least", 84, 77, 0, 1, 1, 4, 0);
        dueShape("very many states", 84, 77, 0, 255, 255, 255, 127, 0, 0);
        dueShape("very many arcs", 84, 77, 0, 1, 0, 255, 255, 255, 127);
        dueShape("a state that is none", 84, 77, 0, 2, 0, 1, 97, 2, 0, 1, 0, 0);
        dueShape("a state too many", 84, 77, 0, 3, 0, 1, 97, 1, 0, 1, 0, 0, 1, 0, 0);
        dueShape("falling signs", 84, 77, 0, 2, 0, 2, 98, 1, 0, 97, 1, 0, 1, 0, 0);
        dueShape("a sign twice", 84, 77, 0, 2, 0, 2, 97, 1, 0, 97, 1, 0, 1, 0, 0);
        dueShape("a ring", 84, 77, 0, 1, 1, 0, 1, 97, 0, 0);
        dueShape("a ring without an end", 84, 77, 0, 1, 0, 1, 97, 0, 0);
        dueShape("a dead end", 84, 77, 0, 2, 0, 1, 97, 1, 0, 0, 0);
        dueShape("an output not least", 84, 77, 0, 2, 0, 1, 97, 1, 3, 1, 0, 0);
        dueShape("states in another order", 84, 77, 0, 3, 0, 1, 97, 2, 0, 1, 0, 0, 0, 1, 98, 1, 0);
        dueShape("states alike", 84, 77, 0, 3, 0, 2, 97, 1, 0, 98, 2, 0, 1, 0, 0, 1, 0, 0);
        int[] chain = new int[5 + 5 * 13 + 2];
        chain[0] = 84;
        chain[1] = 77;
        chain[3] = 14;
        for (int i = 0; i < 13; i++) {
            chain[4 + 5 * i] = 0;
            chain[5 + 5 * i] = 1;
            chain[6 + 5 * i] = 97;
            chain[7 + 5 * i] = i + 1;
        }
        chain[4 + 5 * 13] = 1;
        dueShape("a term of 13", chain);
        dueShape("200 twice", fan(201));
        TermMachine x = new TermMachine();
        due("200 arcs", give(x, fan(200)).load(0), 200);
    }

    /** A dictionary of so many terms, of one sign each. */
    private static int[] fan(int arcs) {
        int[] signs = new int[4 + 3 + 3 * arcs + 3];
        signs[0] = 84;
        signs[1] = 77;
        signs[3] = 2;
        signs[5] = arcs % 128 + 128;
        signs[6] = arcs / 128;
        for (int i = 0; i < arcs; i++) {
            signs[7 + 3 * i] = i;
            signs[8 + 3 * i] = 1;
        }
        signs[7 + 3 * arcs] = 1;
        return signs;
    }

    private void walk() {
        TermMachine x = new TermMachine();
        words(x, 0, "", "ab", "abc", "b");
        for (int d : NO_DICTIONARIES) {
            due("walk BAD", x.walk(0, d, false), BAD);
            due("walk BAD walk", x.walk(d, 0, false), BAD);
        }
        due("walk", x.walk(0, 0, false), 0);
        dueSteps("walk from nothing", x, 0, 0, 1, 2, 3);
        due("walk", give(x, "ab").walk(1, 0, false), 0);
        dueSteps("walk from ab", x, 1, 1, 2, 3);
        due("walk", give(x, "aba").walk(1, 0, false), 0);
        dueSteps("walk from aba", x, 1, 2, 3);
        due("walk", give(x, "c").walk(3, 0, false), 0);
        dueSteps("walk from c", x, 3);
        due("walk", x.walk(0, 0, true), 0);
        dueSteps("walk back from nothing", x, 0, 0);
        due("walk", give(x, "ab").walk(0, 0, true), 0);
        dueSteps("walk back from ab", x, 0, 1, 0);
        due("walk", give(x, "abb").walk(0, 0, true), 0);
        dueSteps("walk back from abb", x, 0, 1, 0);
        due("walk", give(x, "zzzzzzzzzzzzzzz").walk(2, 0, true), 0);
        dueSteps("walk back from far", x, 2, 3, 2, 1, 0);
        words(x, 0, "b");
        due("walk", give(x, "a").walk(0, 0, true), 0);
        dueSteps("walk back from a", x, 0);
        due("walk in an empty one", x.walk(0, 1, false), 0);
        dueSteps("walk in an empty one", x, 0);
        walkRefused();
    }

    private void walkRefused() {
        TermMachine x = new TermMachine();
        words(x, 0, "a", "b", "c");
        x.walk(0, 0, false);
        x.next(0);
        x.begin(1);
        due("walk OPEN", x.walk(0, 1, false), OPEN);
        due("walk BAD", x.walk(0, 4, false), BAD);
        due("refused walks change nothing", x.next(0), 1);
    }

    private void next() {
        TermMachine x = new TermMachine();
        for (int w : NO_DICTIONARIES) {
            due("next BAD", x.next(w), BAD);
        }
        words(x, 0, "a", "b", "c");
        words(x, 1, "a", "b");
        due("next of none", x.next(2), NONE);
        x.walk(0, 0, false);
        give(x, "z").walk(1, 0, true);
        x.walk(2, 1, false);
        due("walks go by themselves", x.next(0), 0);
        due("walks go by themselves", x.next(1), 2);
        due("walks go by themselves", x.next(0), 1);
        due("walks go by themselves", x.next(1), 1);
        due("walks go by themselves", x.next(2), 0);
        x.join(0, 1, 3, 0);
        due("next after a join elsewhere", x.next(2), 1);
        give(x, 84).load(0);
        x.join(0, 0, 0, 9);
        x.begin(9);
        due("next after refused changes", x.next(0), 2);
        x.walk(0, 0, false);
        x.begin(0);
        due("next after begin", x.next(0), NONE);
        due("next of the other after begin", x.next(1), NONE);
        give(x, "a").add(0, 1);
        x.done(0);
        due("next after done", x.next(0), NONE);
        x.walk(0, 0, false);
        due("next of a walk begun again", x.next(0), 0);
        x.walk(0, 0, false);
        x.join(0, 0, 0, 0);
        due("next after a join", x.next(0), NONE);
        x.walk(0, 0, false);
        give(x, 84, 77, 0, 1, 1, 0, 0).load(0);
        due("next after a load", x.next(0), NONE);
    }
}
