/** A test for each sentence about MACHINES and promises 7 to 16 that names a boundary case. */
public final class BoundaryMachineTest extends Bench {
    private static final int FAR = Integer.MAX_VALUE;
    private static final int FAR_BELOW = Integer.MIN_VALUE;
    private static final String TWELVE = "abcdefghijkl";
    private static final String THIRTEEN = "abcdefghijklm";

    public static void main(String[] args) {
        new BoundaryMachineTest().run();
    }

    private void run() {
        beginningsOfTerms();
        beginningsWithoutTerms();
        leastWithout();
        restsOfAlikeOuts();
        statesInOrder();
        arcsByRisingSigns();
        outputs();
        lastOutputs();
        findNone();
        openSoBelow();
        stateNone();
        countBounds();
        countOpen();
        arcOfState();
        arcBounds();
        arcNone();
        numbers();
        termNone();
        outNone();
        ceilingEdges();
        ceilingNone();
        prefixEdges();
        prefixOfNone();
        cheapestBounds();
        cheapestAlike();
        cheapestOfFew();
        end("BoundaryMachineTest");
    }

    private void beginningsOfTerms() {
        sentence("A BEGINNING of a dictionary is a row of signs with which some TERM of it begins (also the TERM itself)");
        TermMachine x = withWords(TWELVE);
        due("beginnings of one of twelve", x.count(0, 6), 13);
        for (int i = 0; i <= 12; i++) {
            due("the state of a beginning of " + i, give(x, TWELVE.substring(0, i)).state(0), i);
        }
        words(x, 0, "");
        due("beginnings of the empty term", x.count(0, 6), 1);
        words(x, 0, "", "a", "ab");
        due("each of which begins the next", x.count(0, 6), 3);
        words(x, 0, "ab", "ba");
        due("the empty one is shared", x.count(0, 6), 5);
    }

    private void beginningsWithoutTerms() {
        sentence("without TERMS it has one, the empty one.");
        TermMachine x = new TermMachine();
        x.begin(1);
        x.done(1);
        for (int d = 0; d <= 1; d++) {
            due("beginnings", x.count(d, 6), 1);
            due("the empty one", x.state(d), 0);
            due("no other", give(x, 0).state(d), NONE);
            due("states", x.count(d, 2), 1);
            due("no arcs", x.arc(d, 0, -1, 0), 0);
            due("not final", x.arc(d, 0, -1, 1), 0);
            due("no last output", x.arc(d, 0, -1, 2), NONE);
            due("no rows", x.arc(d, 0, -1, 3), 0);
            due("no state 1", x.arc(d, 1, -1, 0), NONE);
        }
    }

    private void leastWithout() {
        sentence("The LEAST of a BEGINNING is the least OUT of the TERMS that begin so (0 without).");
        TermMachine x = new TermMachine();
        duePacked(x, 0, 84, 77, 0, 1, 0, 0);
        build(x, 0, "a", 9, "b", 5, "c", 7);
        x.packed(0);
        due("the least of all", x.sign(2), 5);
        x.begin(0);
        x.done(0);
        duePacked(x, 0, 84, 77, 0, 1, 0, 0);
    }

    private void restsOfAlikeOuts() {
        sentence("Its REST: for each of these TERMS the signs behind the BEGINNING, and its OUT less the LEAST.");
        TermMachine x = with("ax", 0, "ay", 1, "bx", MOST_OUT - 1, "by", MOST_OUT);
        due("alike less the least", x.count(0, 2), 3);
        build(x, 0, "ax", 0, "ay", 1, "bx", MOST_OUT - 2, "by", MOST_OUT);
        due("unlike by one", x.count(0, 2), 4);
        build(x, 0, "ax", 1, "ay", 0, "bx", 0, "by", 1);
        due("alike but turned", x.count(0, 2), 4);
        build(x, 0, "a", 0, "ax", 0, "bx", 0);
        due("alike but for the empty row", x.count(0, 2), 4);
        build(x, 0, "a", 3, "b", 3, "c", MOST_OUT);
        due("rests of the empty row alone", x.count(0, 2), 2);
        x = new TermMachine();
        x.begin(0);
        for (int i = 0; i < 100; i++) {
            give(x, i).add(0, i + 1);
            give(x, i, i % 2).add(0, 0);
        }
        due("unlike by the OUT of the empty row alone", x.done(0), 1 + 100 + 1);
        x.begin(0);
        for (int i = 0; i < 100; i++) {
            give(x, i, 0).add(0, i);
            give(x, i, 1).add(0, 0);
        }
        due("unlike by one OUT alone", x.done(0), 1 + 100 + 1);
    }

    private void statesInOrder() {
        sentence("numbered from 0 on as they first come up when all BEGINNINGS are gone through in order (so the empty one's is 0)");
        TermMachine x = withWords("b", "c");
        due("the empty one", x.state(0), 0);
        due("b", give(x, "b").state(0), 1);
        due("c", give(x, "c").state(0), 1);
        words(x, 0, "ab", "abc", "ba", "z");
        String[] beginnings = {"", "a", "ab", "abc", "b", "ba", "z"};
        int[] states = {0, 1, 2, 3, 4, 3, 3};
        for (int i = 0; i < states.length; i++) {
            due("state of " + beginnings[i], give(x, beginnings[i]).state(0), states[i]);
        }
        x = withWords("");
        due("the empty term's too", x.state(0), 0);
        due("one state", x.count(0, 2), 1);
    }

    private void arcsByRisingSigns() {
        sentence("A STATE has ARCS, by rising signs");
        TermMachine x = withWords("", sign(0), sign(1), sign(127), sign(128), sign(255));
        int[] signs = {0, 1, 127, 128, 255};
        for (int i = 0; i < signs.length; i++) {
            due("sign of arc " + i, x.arc(0, 0, i, 0), signs[i]);
        }
        due("arcs", x.arc(0, 0, -1, 0), 5);
        x = withFan(200);
        due("as many as there can be", x.arc(0, 0, -1, 0), 200);
        for (int i = 0; i < 200; i++) {
            due("sign of arc " + i, x.arc(0, 0, i, 0), i);
        }
        due("behind the last one", x.arc(0, 0, 200, 0), NONE);
    }

    private void outputs() {
        sentence("and an OUTPUT, that one's LEAST less this one's");
        TermMachine x = with("aa", 7, "ab", MOST_OUT, "b", 0);
        due("a", x.arc(0, 0, 0, 2), 7);
        due("b", x.arc(0, 0, 1, 2), 0);
        due("aa", x.arc(0, 1, 0, 2), 0);
        due("ab", x.arc(0, 1, 1, 2), MOST_OUT - 7);
        build(x, 0, "a", MOST_OUT, "b", MOST_OUT);
        due("none of the greatest", x.arc(0, 0, 0, 2), 0);
        build(x, 0, "", 0, "a", MOST_OUT);
        due("the greatest", x.arc(0, 0, 0, 2), MOST_OUT);
    }

    private void lastOutputs() {
        sentence("It is FINAL, if the empty row is in the REST; that one's OUT there is its last OUTPUT.");
        TermMachine x = with("", MOST_OUT, "a", 0);
        due("final", x.arc(0, 0, -1, 1), 1);
        due("the greatest last output", x.arc(0, 0, -1, 2), MOST_OUT);
        due("a leaf is final", x.arc(0, 1, -1, 1), 1);
        due("a leaf's last output", x.arc(0, 1, -1, 2), 0);
        build(x, 0, "a", 5);
        due("not final", x.arc(0, 0, -1, 1), 0);
        due("no last output", x.arc(0, 0, -1, 2), NONE);
        due("one final state", x.count(0, 4), 1);
    }

    private void findNone() {
        sentence("The OUT of a TERM (COLLECTED); NONE: it is none.");
        TermMachine x = with("ab", 0, TWELVE, MOST_OUT);
        due("an out of 0", give(x, "ab").find(0), 0);
        due("the greatest out", give(x, TWELVE).find(0), MOST_OUT);
        due("nothing", x.find(0), NONE);
        due("a beginning", give(x, "a").find(0), NONE);
        due("a sign more", give(x, "ab" + sign(0)).find(0), NONE);
        due("eleven of twelve", give(x, TWELVE.substring(0, 11)).find(0), NONE);
        due("thirteen", give(x, THIRTEEN).find(0), NONE);
        due("without terms", x.find(1), NONE);
        for (int i = 0; i < 400; i++) {
            x.collect(0x6261L, 2);
        }
        due("eight hundred", x.find(0), NONE);
    }

    private void openSoBelow() {
        sentence("OPEN: it is not DONE (so below).");
        TermMachine x = new TermMachine();
        for (int round = 0; round < 2; round++) {
            x.begin(0);
            if (round == 1) {
                give(x, "a").add(0, 1);
            }
            due("find", give(x, "a").find(0), OPEN);
            due("state", x.state(0), OPEN);
            due("arc", x.arc(0, 0, -1, 0), OPEN);
            due("number", give(x, "a").number(0), OPEN);
            due("term", x.term(0, 0, -1), OPEN);
            due("out", x.out(0, 0), OPEN);
            due("ceiling", x.ceiling(0), OPEN);
            due("prefix", x.prefix(0), OPEN);
            due("cheapest", x.cheapest(0, 1), OPEN);
            for (int kind = 0; kind < 5; kind++) {
                due("meet", x.meet(0, kind), OPEN);
            }
            due("packed", x.packed(0), OPEN);
            due("walk", x.walk(0, 0, false), OPEN);
            for (int how = 0; how < 4; how++) {
                due("join a", x.join(0, 1, 2, how), OPEN);
                due("join b", x.join(1, 0, 2, how), OPEN);
            }
        }
        x.done(0);
        due("find when DONE", give(x, "a").find(0), 1);
    }

    private void stateNone() {
        sentence("The STATE of a BEGINNING (COLLECTED); NONE: it is none. BAD; OPEN.");
        TermMachine x = withWords("ab", TWELVE);
        due("nothing is a beginning", x.state(0), 0);
        due("a term is one", give(x, "ab").state(0), 2);
        due("what no term begins with", give(x, "b").state(0), NONE);
        due("a sign more", give(x, THIRTEEN).state(0), NONE);
        due("the lesser sign", give(x, "aa").state(0), NONE);
        due("the greater sign", give(x, "ac").state(0), NONE);
        for (int i = 0; i < 400; i++) {
            x.collect(0x6261L, 2);
        }
        due("eight hundred", x.state(0), NONE);
        for (int d : NO_DICTIONARIES) {
            due("no dictionary", x.state(d), BAD);
        }
        x.begin(0);
        due("an OPEN one", x.state(0), OPEN);
    }

    private void countBounds() {
        sentence("what = 0 TERMS (also of an OPEN one), 1 whether it is OPEN (1 or 0), 2 STATES, 3 ARCS, 4 FINAL STATES, 5 the most signs a TERM has, 6 BEGINNINGS");
        TermMachine x = new TermMachine();
        int[][] counts = {{0, 0, 1, 0, 0, 0, 1}, {1, 0, 1, 0, 1, 0, 1}, {1, 0, 13, 12, 1, 12, 13}, {2, 0, 2, 1, 2, 1, 2}};
        words(x, 1, "");
        words(x, 2, TWELVE);
        build(x, 3, "", 0, "a", 1);
        for (int d = 0; d <= 3; d++) {
            for (int what = 0; what <= 6; what++) {
                due("count(" + d + ", " + what + ")", x.count(d, what), counts[d][what]);
            }
            int[] wrong = {-1, 7, FAR, FAR_BELOW};
            for (int what : wrong) {
                due("count(" + d + ", " + what + ")", x.count(d, what), BAD);
            }
        }
        for (int d : NO_DICTIONARIES) {
            due("no dictionary", x.count(d, 0), BAD);
            due("no dictionary", x.count(d, 1), BAD);
        }
        x = withFan(200);
        int[] full = {200, 0, 2, 200, 1, 1, 201};
        for (int what = 0; what <= 6; what++) {
            due("of a full one " + what, x.count(0, what), full[what]);
        }
    }

    private void countOpen() {
        sentence("BAD; OPEN (but of 0, 1).");
        TermMachine x = new TermMachine();
        x.begin(0);
        due("terms of an OPEN one", x.count(0, 0), 0);
        give(x, "a").add(0, 1);
        due("terms of an OPEN one with a term", x.count(0, 0), 1);
        due("whether it is", x.count(0, 1), 1);
        for (int what = 2; what <= 6; what++) {
            due("what " + what, x.count(0, what), OPEN);
        }
        due("what 7", x.count(0, 7), BAD);
        due("what -1", x.count(0, -1), BAD);
        x.done(0);
        due("whether it is when DONE", x.count(0, 1), 0);
        due("states then", x.count(0, 2), 2);
    }

    private void arcOfState() {
        sentence("of the STATE itself, i = -1: 0 how many ARCS, 1 whether it is FINAL (1 or 0), 2 the last OUTPUT (NONE), 3 how many rows its REST has");
        TermMachine x = with("", 1, "a", 0, "ab", 9, "b", 0);
        long[][] states = {{2, 1, 1, 4}, {1, 1, 0, 2}, {0, 1, 0, 1}};
        for (int state = 0; state < states.length; state++) {
            for (int what = 0; what <= 3; what++) {
                due("state " + state + " what " + what, x.arc(0, state, -1, what), states[state][what]);
            }
        }
        build(x, 0, "a", 5);
        due("no last output", x.arc(0, 0, -1, 2), NONE);
        due("not final", x.arc(0, 0, -1, 1), 0);
        x = withFan(200);
        due("200 arcs", x.arc(0, 0, -1, 0), 200);
        due("200 rows", x.arc(0, 0, -1, 3), 200);
    }

    private void arcBounds() {
        sentence("what = 0 its sign, 1 its STATE, 2 its OUTPUT");
        TermMachine x = with("a", 3, "b", 8);
        due("its sign", x.arc(0, 0, 1, 0), 'b');
        due("its state", x.arc(0, 0, 1, 1), 1);
        due("its output", x.arc(0, 0, 1, 2), 5);
        int[] wrong = {-1, 3, 4, FAR, FAR_BELOW};
        for (int what : wrong) {
            due("of an arc, what " + what, x.arc(0, 0, 0, what), BAD);
        }
        int[] wrongOfState = {-1, 4, FAR, FAR_BELOW};
        for (int what : wrongOfState) {
            due("of a state, what " + what, x.arc(0, 0, -1, what), BAD);
        }
        for (int d : NO_DICTIONARIES) {
            due("no dictionary", x.arc(d, 0, 0, 0), BAD);
        }
        x.begin(1);
        due("an OPEN one", x.arc(1, 0, -1, 0), OPEN);
    }

    private void arcNone() {
        sentence("NONE: there is none such.");
        TermMachine x = with("a", 3, "b", 8);
        int[] noStates = {-1, 2, FAR, FAR_BELOW};
        int[] noArcs = {2, -2, FAR, FAR_BELOW};
        for (int what = 0; what <= 2; what++) {
            for (int state : noStates) {
                due("no state " + state, x.arc(0, state, -1, what), NONE);
                due("no state " + state, x.arc(0, state, 0, what), NONE);
            }
            for (int i : noArcs) {
                due("no arc " + i, x.arc(0, 0, i, what), NONE);
            }
            due("a leaf has none", x.arc(0, 1, 0, what), NONE);
            due("without terms", x.arc(1, 0, 0, what), NONE);
        }
        due("no state, its rows", x.arc(0, 2, -1, 3), NONE);
    }

    private void numbers() {
        sentence("The number of a TERM (COLLECTED), in order from 0 on; NONE.");
        TermMachine x = withFan(200);
        due("the first one", give(x, 0).number(0), 0);
        due("the last one", give(x, 199).number(0), 199);
        due("behind it", give(x, 200).number(0), NONE);
        due("nothing", x.number(0), NONE);
        due("two signs", give(x, 0, 0).number(0), NONE);
        due("without terms", x.number(1), NONE);
        words(x, 0, "", "a");
        due("the empty term", x.number(0), 0);
        for (int d : NO_DICTIONARIES) {
            due("no dictionary", x.number(d), BAD);
        }
    }

    private void termNone() {
        sentence("Sign i of a TERM, -1: how many it has. NONE: there is none such.");
        TermMachine x = withWords("", TWELVE);
        due("none of the empty term", x.term(0, 0, -1), 0);
        due("no first sign of it", x.term(0, 0, 0), NONE);
        due("twelve", x.term(0, 1, -1), 12);
        due("the first", x.term(0, 1, 0), 'a');
        due("the last", x.term(0, 1, 11), 'l');
        int[] noSigns = {12, 13, -2, FAR, FAR_BELOW};
        for (int i : noSigns) {
            due("no sign " + i, x.term(0, 1, i), NONE);
        }
        int[] noTerms = {2, 199, 200, -1, FAR, FAR_BELOW};
        for (int number : noTerms) {
            due("no term " + number, x.term(0, number, -1), NONE);
            due("no term " + number, x.term(0, number, 0), NONE);
        }
        due("without terms", x.term(1, 0, -1), NONE);
        words(x, 0, "a");
        due("what was there is none any more", x.term(0, 1, -1), NONE);
        due("nor its signs", x.term(0, 0, 1), NONE);
        for (int d : NO_DICTIONARIES) {
            due("no dictionary", x.term(d, 0, -1), BAD);
        }
    }

    private void outNone() {
        sentence("The OUT of a TERM by its number; NONE. BAD; OPEN.");
        TermMachine x = with("a", 0, "b", MOST_OUT);
        due("the first", x.out(0, 0), 0);
        due("the last", x.out(0, 1), MOST_OUT);
        int[] noTerms = {2, 200, -1, FAR, FAR_BELOW};
        for (int number : noTerms) {
            due("no term " + number, x.out(0, number), NONE);
        }
        due("without terms", x.out(1, 0), NONE);
        for (int d : NO_DICTIONARIES) {
            due("no dictionary", x.out(d, 0), BAD);
        }
        x.begin(0);
        due("an OPEN one", x.out(0, 0), OPEN);
    }

    private void ceilingEdges() {
        sentence("The number of the least TERM that is not BELOW what is COLLECTED");
        TermMachine x = withWords("b", "bb", "bb" + sign(255), "c");
        due("nothing", x.ceiling(0), 0);
        due("below all", give(x, 0).ceiling(0), 0);
        due("the first itself", give(x, "b").ceiling(0), 0);
        due("right above it", give(x, "b" + sign(0)).ceiling(0), 1);
        due("a term itself", give(x, "bb").ceiling(0), 1);
        due("right above it", give(x, "bb" + sign(0)).ceiling(0), 2);
        due("right above the greatest sign", give(x, "bb" + sign(255) + sign(0)).ceiling(0), 3);
        due("of thirteen signs", give(x, "bbbbbbbbbbbbb").ceiling(0), 2);
        due("the last itself", give(x, "c").ceiling(0), 3);
        words(x, 0, "aaaaaaaaaaaa", "aaaaaaaaaaab");
        due("thirteen behind twelve", give(x, "aaaaaaaaaaaaa").ceiling(0), 1);
        due("eleven", give(x, "aaaaaaaaaaa").ceiling(0), 0);
    }

    private void ceilingNone() {
        sentence("The number of the least TERM that is not BELOW what is COLLECTED; NONE. BAD; OPEN.");
        TermMachine x = withWords("a", "aaaaaaaaaaaa");
        due("above all", give(x, "b").ceiling(0), NONE);
        due("right above the last", give(x, "aaaaaaaaaaaa" + sign(0)).ceiling(0), NONE);
        due("without terms", x.ceiling(1), NONE);
        due("without terms, a sign", give(x, 0).ceiling(1), NONE);
        for (int d : NO_DICTIONARIES) {
            due("no dictionary", x.ceiling(d), BAD);
        }
        x.begin(0);
        due("an OPEN one", x.ceiling(0), OPEN);
        x = withFan(200);
        due("the last of 200", give(x, 199).ceiling(0), 199);
        due("above the last of 200", give(x, 200).ceiling(0), NONE);
    }

    private void prefixEdges() {
        sentence("What begins with what is COLLECTED comes into the ROW (numbers, in order): how many.");
        TermMachine x = withWords("", sign(0), "a", TWELVE, "b", sign(255));
        dueRow("nothing", x, x.prefix(0), 0, 1, 2, 3, 4, 5);
        dueRow("the least sign", x, give(x, 0).prefix(0), 1);
        dueRow("the greatest sign", x, give(x, 255).prefix(0), 5);
        dueRow("a term itself", x, give(x, "a").prefix(0), 2, 3);
        dueRow("eleven", x, give(x, TWELVE.substring(0, 11)).prefix(0), 3);
        dueRow("twelve", x, give(x, TWELVE).prefix(0), 3);
        x = withFan(200);
        due("all of 200", x.prefix(0), 200);
        for (int i = 0; i < 200; i++) {
            due("row " + i, x.row(i), i);
        }
        due("behind them", x.row(200), NONE);
    }

    private void prefixOfNone() {
        sentence("how many. BAD; OPEN.");
        TermMachine x = withWords("a", TWELVE);
        x.prefix(0);
        dueRow("none", x, give(x, "b").prefix(0));
        x.prefix(0);
        dueRow("thirteen", x, give(x, THIRTEEN).prefix(0));
        x.prefix(0);
        dueRow("without terms", x, x.prefix(1));
        x.prefix(0);
        x.begin(1);
        due("an OPEN one", give(x, "b").prefix(1), OPEN);
        for (int d : NO_DICTIONARIES) {
            due("no dictionary", x.prefix(d), BAD);
        }
        due("refused ones leave the row", x.row(1), 1);
    }

    private void cheapestBounds() {
        sentence("The n (1 .. 200) TERMS with the least OUTS");
        TermMachine x = withFan(200);
        int[] wrong = {0, 201, -1, FAR, FAR_BELOW};
        for (int n : wrong) {
            due("n " + n, x.cheapest(0, n), BAD);
        }
        due("n 1", x.cheapest(0, 1), 1);
        due("one in the row", x.row(1), NONE);
        due("n 199", x.cheapest(0, 199), 199);
        due("the last of 199", x.row(198), 198);
        due("behind it", x.row(199), NONE);
        due("n 200", x.cheapest(0, 200), 200);
        due("the last of 200", x.row(199), 199);
        x.begin(1);
        due("an OPEN one", x.cheapest(1, 1), OPEN);
        for (int d : NO_DICTIONARIES) {
            due("no dictionary", x.cheapest(d, 1), BAD);
        }
        due("refused ones leave the row", x.row(199), 199);
    }

    private void cheapestAlike() {
        sentence("(of alike ones that which is BELOW)");
        TermMachine x = with("a", 7, "b", 7, "c", 0, "d", 7, "e", 0, "f", MOST_OUT);
        dueRow("one", x, x.cheapest(0, 1), 2);
        dueRow("two", x, x.cheapest(0, 2), 2, 4);
        dueRow("three", x, x.cheapest(0, 3), 2, 4, 0);
        dueRow("four", x, x.cheapest(0, 4), 2, 4, 0, 1);
        dueRow("all", x, x.cheapest(0, 6), 2, 4, 0, 1, 3, 5);
        build(x, 0, "a", MOST_OUT, "b", MOST_OUT, "c", MOST_OUT);
        dueRow("all alike", x, x.cheapest(0, 2), 0, 1);
    }

    private void cheapestOfFew() {
        sentence("that begin with what is COLLECTED come into the ROW, the least first: how many there are of these");
        TermMachine x = with("", 0, "a", 9, "ab", 4, "ac", 1, "b", 2);
        dueRow("more than there are", x, give(x, "a").cheapest(0, 200), 3, 2, 1);
        dueRow("as many as there are", x, give(x, "a").cheapest(0, 3), 3, 2, 1);
        dueRow("fewer", x, give(x, "a").cheapest(0, 2), 3, 2);
        dueRow("a term itself", x, give(x, "ac").cheapest(0, 5), 3);
        dueRow("none", x, give(x, "c").cheapest(0, 5));
        dueRow("without terms", x, x.cheapest(1, 5));
        dueRow("nothing is COLLECTED", x, x.cheapest(0, 2), 0, 3);
        dueRow("thirteen", x, give(x, THIRTEEN).cheapest(0, 1));
    }
}
