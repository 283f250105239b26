import java.util.ArrayList;
import java.util.Arrays;
import java.util.List;

/** A test for each sentence about PACKED and promises 20 to 23 that names a boundary case. */
public final class BoundaryPackedTest extends Bench {
    private static final String TWELVE = "abcdefghijkl";

    public static void main(String[] args) {
        new BoundaryPackedTest().run();
    }

    private void run() {
        packedNothing();
        packedFinal();
        packedSigns();
        packedSevenBits();
        packedManyStates();
        packedManyArcs();
        joinWhatIsInOne();
        joinWhatIsInBoth();
        joinWhatIsNotInOther();
        joinIntoItself();
        joinBad();
        joinOpen();
        joinFull();
        joinLong();
        joinMakesDone();
        packedRefused();
        signNone();
        signToldLast();
        loadBack();
        loadOf4000();
        loadShape();
        loadAsFewAsCanBe();
        loadCutOrLonger();
        loadBounds();
        loadOtherMachines();
        loadMakesDone();
        end("BoundaryPackedTest");
    }

    private static List<Integer> sevens(long number) {
        List<Integer> pieces = new ArrayList<>();
        long left = number;
        while (left >= 128) {
            pieces.add((int) (left % 128) + 128);
            left /= 128;
        }
        pieces.add((int) left);
        return pieces;
    }

    /** Numbers below 0 are signs, less 1000; all others are written by seven bits. */
    private static int[] packed(long... numbers) {
        List<Integer> signs = new ArrayList<>(List.of(84, 77));
        for (long number : numbers) {
            if (number < 0) {
                signs.add((int) number + 1000);
            } else {
                signs.addAll(sevens(number));
            }
        }
        return signs.stream().mapToInt(Integer::intValue).toArray();
    }

    private static long raw(int sign) {
        return sign - 1000L;
    }

    private void packedNothing() {
        sentence("84, 77, the LEAST of the empty BEGINNING, how many STATES");
        TermMachine x = new TermMachine();
        duePacked(x, 0, 84, 77, 0, 1, 0, 0);
        x.begin(0);
        x.done(0);
        duePacked(x, 0, 84, 77, 0, 1, 0, 0);
        build(x, 0, "", 0);
        duePacked(x, 0, 84, 77, 0, 1, 1, 0, 0);
        build(x, 0, "", 9);
        duePacked(x, 0, 84, 77, 9, 1, 1, 0, 0);
    }

    private void packedFinal() {
        sentence("1 and its last OUTPUT, if it is FINAL, else 0; how many ARCS");
        TermMachine x = with("a", 9);
        duePacked(x, 0, 84, 77, 9, 2, 0, 1, 97, 1, 0, 1, 0, 0);
        build(x, 0, "", 3, "a", 2);
        duePacked(x, 0, 84, 77, 2, 2, 1, 1, 1, 97, 1, 0, 1, 0, 0);
        build(x, 0, "", MOST_OUT, "a", 0);
        duePacked(x, 0, packed(0, 2, 1, MOST_OUT, 1, raw(97), 1, 0, 1, 0, 0));
    }

    private void packedSigns() {
        sentence("All these numbers but signs, 0 and 1");
        TermMachine x = withWords(sign(0), sign(1), sign(127), sign(128), sign(255));
        duePacked(x, 0, 84, 77, 0, 2, 0, 5, 0, 1, 0, 1, 1, 1, 127, 1, 2, 128, 1, 3, 255, 1, 4, 1, 0, 0);
    }

    private void packedSevenBits() {
        sentence("are written by seven bits, the lowest first, with 128 more in all but the last (as few as can be)");
        TermMachine x = new TermMachine();
        long[] numbers = {
            0, 1, 126, 127, 128, 129, 255, 256, 16383, 16384, 2097151, 2097152, 268435455, 268435456,
            (1L << 35) - 1, 1L << 35, MOST_OUT - 1, MOST_OUT,
        };
        int[] sizes = {1, 1, 1, 1, 2, 2, 2, 2, 2, 3, 3, 4, 4, 5, 5, 6, 6, 6};
        for (int i = 0; i < numbers.length; i++) {
            build(x, 0, "", numbers[i]);
            duePacked(x, 0, packed(numbers[i], 1, 1, 0, 0));
            due("signs of " + numbers[i], x.packed(0), 6 + sizes[i]);
            build(x, 1, "", 0, "a", numbers[i]);
            duePacked(x, 1, packed(0, 2, 1, 0, 1, raw(97), 1, numbers[i], 1, 0, 0));
        }
        build(x, 0, "", MOST_OUT);
        duePacked(x, 0, 84, 77, 128, 160, 148, 165, 141, 29, 1, 1, 0, 0);
    }

    /** Words of ten signs that share only the empty beginning have nine states each, beside the first and the last. */
    private void packedManyStates() {
        sentence("how many STATES, then each STATE in order");
        TermMachine x = new TermMachine();
        x.begin(0);
        for (int i = 0; i < 14; i++) {
            give(x, i, i, i, i, i, i, i, i, i, i).add(0, 0);
        }
        due("states", x.done(0), 2 + 14 * 9);
        x.packed(0);
        due("128 in two signs", x.sign(3), 128);
        due("128 in two signs", x.sign(4), 1);
        int[] own = readPacked(x, 0);
        due("read back", give(x, own).load(1), 14);
        due("nothing is in just one", x.join(0, 1, 2, 3), 0);
        x.begin(0);
        for (int i = 0; i < 14; i++) {
            int[] word = {i, i, i, i, i, i, i, i, i, i};
            give(x, i == 0 ? Arrays.copyOf(word, 9) : word).add(0, 0);
        }
        due("states", x.done(0), 1 + 14 * 9);
        x.packed(0);
        due("127 in one sign", x.sign(3), 127);
        due("not final", x.sign(4), 0);
    }

    private void packedManyArcs() {
        sentence("how many ARCS; each of these: its sign, its STATE, its OUTPUT");
        for (int many = 127; many <= 128; many++) {
            TermMachine x = withFan(many);
            x.packed(0);
            due("final", x.sign(4), 0);
            due("arcs", x.sign(5), many);
            due("behind", x.sign(6), many == 127 ? 0 : 1);
            int[] own = readPacked(x, 0);
            due("read back", give(x, own).load(1), many);
            due("nothing is in just one", x.join(0, 1, 2, 3), 0);
        }
    }

    private static int[] readPacked(TermMachine x, int d) {
        int[] signs = new int[x.packed(d)];
        for (int i = 0; i < signs.length; i++) {
            signs[i] = x.sign(i);
        }
        return signs;
    }

    private void joinWhatIsInOne() {
        sentence("how = 0 what is in one of them (of both the lesser OUT)");
        TermMachine x = with("", 0, "a", 5, "b", MOST_OUT);
        build(x, 1, "a", 4, "b", 0, "c", MOST_OUT);
        due("join", x.join(0, 1, 2, 0), 4);
        dueTerms("join", x, 2, "", 0, "a", 4, "b", 0, "c", MOST_OUT);
        due("turned", x.join(1, 0, 2, 0), 4);
        dueTerms("turned", x, 2, "", 0, "a", 4, "b", 0, "c", MOST_OUT);
        due("without terms", x.join(3, 3, 2, 0), 0);
        due("one without terms", x.join(0, 3, 2, 0), 3);
        due("the other without terms", x.join(3, 0, 2, 0), 3);
    }

    private void joinWhatIsInBoth() {
        sentence("1 in both (the sum of OUTS)");
        TermMachine x = with("", 0, "a", 5, "ab", 1, "b", 7);
        build(x, 1, "", 0, "a", 6, "abc", 1, "c", 7);
        due("join", x.join(0, 1, 2, 1), 2);
        dueTerms("join", x, 2, "", 0, "a", 11);
        due("with itself", x.join(0, 0, 2, 1), 4);
        dueTerms("with itself", x, 2, "", 0, "a", 10, "ab", 2, "b", 14);
        due("one without terms", x.join(0, 3, 2, 1), 0);
        due("states of none", x.count(2, 2), 1);
    }

    private void joinWhatIsNotInOther() {
        sentence("2 in a and not in b, 3 in just one");
        TermMachine x = with("", 1, "a", 5, "ab", 2, TWELVE, 3);
        build(x, 1, "a", 6, "abc", 1, "z", MOST_OUT);
        due("in a and not in b", x.join(0, 1, 2, 2), 3);
        dueTerms("in a and not in b", x, 2, "", 1, "ab", 2, TWELVE, 3);
        due("in b and not in a", x.join(1, 0, 2, 2), 2);
        dueTerms("in b and not in a", x, 2, "abc", 1, "z", MOST_OUT);
        due("in just one", x.join(0, 1, 2, 3), 5);
        dueTerms("in just one", x, 2, "", 1, "ab", 2, "abc", 1, TWELVE, 3, "z", MOST_OUT);
        due("not in itself", x.join(0, 0, 2, 2), 0);
        due("in just one of alike ones", x.join(0, 0, 2, 3), 0);
        due("not in one without terms", x.join(0, 3, 2, 2), 4);
        due("of one without terms", x.join(3, 0, 2, 2), 0);
    }

    private void joinIntoItself() {
        sentence("a or b may be c: how many TERMS");
        for (int how = 0; how < 4; how++) {
            int[] many = {3, 1, 1, 2};
            TermMachine x = with("a", 5, "b", 7);
            build(x, 1, "b", 2, "c", 1);
            due("the join " + how, x.join(0, 1, 3, how), many[how]);
            due("a is c, " + how, x.join(0, 1, 0, how), many[how]);
            due("it is the same", x.join(0, 3, 2, 3), 0);
            build(x, 0, "a", 5, "b", 7);
            due("b is c, " + how, x.join(0, 1, 1, how), many[how]);
            due("it is the same", x.join(1, 3, 2, 3), 0);
            dueTerms("a is as it was", x, 0, "a", 5, "b", 7);
            due("all are one, " + how, x.join(0, 0, 0, how), how < 2 ? 2 : 0);
        }
    }

    private void joinBad() {
        sentence("BAD; OPEN: a or b is");
        TermMachine x = withWords("a");
        int[] wrong = {-1, 4, Integer.MIN_VALUE, Integer.MAX_VALUE};
        for (int no : wrong) {
            due("how " + no, x.join(0, 1, 2, no), BAD);
            due("a " + no, x.join(no, 1, 2, 0), BAD);
            due("b " + no, x.join(0, no, 2, 0), BAD);
            due("c " + no, x.join(0, 1, no, 0), BAD);
        }
        due("nothing came", x.count(2, 0), 0);
    }

    private void joinOpen() {
        sentence("OPEN: a or b is");
        TermMachine x = withWords("a");
        x.begin(1);
        give(x, "b").add(1, 1);
        due("a is", x.join(1, 0, 2, 0), OPEN);
        due("b is", x.join(0, 1, 2, 0), OPEN);
        due("both are", x.join(1, 1, 2, 0), OPEN);
        due("a is, and is c", x.join(1, 0, 1, 0), OPEN);
        due("b is, and is c", x.join(0, 1, 1, 0), OPEN);
        due("it still is", x.count(1, 1), 1);
        due("with its term", x.count(1, 0), 1);
        due("which is its last one", give(x, "b").add(1, 1), ORDER);
        due("only c is", x.join(0, 0, 1, 0), 1);
    }

    private void joinFull() {
        sentence("FULL: more than 200");
        TermMachine x = new TermMachine();
        fan(x, 0, 0, 101);
        fan(x, 1, 101, 99);
        due("200 of one or both", x.join(0, 1, 2, 0), 200);
        due("200 of just one", x.join(0, 1, 2, 3), 200);
        due("the last of 200", x.out(2, 199), 199);
        fan(x, 1, 101, 100);
        due("201 of one or both", x.join(0, 1, 2, 0), FULL);
        due("201 of just one", x.join(0, 1, 2, 3), FULL);
        due("201 into a", x.join(0, 1, 0, 0), FULL);
        due("201 into b", x.join(0, 1, 1, 0), FULL);
        due("c is as it was", x.count(2, 0), 200);
        due("a is as it was", x.count(0, 0), 101);
        due("b is as it was", x.count(1, 0), 100);
        due("none in both", x.join(0, 1, 3, 1), 0);
        due("101 in a alone", x.join(0, 1, 3, 2), 101);
        fan(x, 1, 100, 100);
        due("one is in both", x.join(0, 1, 3, 0), 200);
        due("199 are in just one", x.join(0, 1, 3, 3), 199);
    }

    private void joinLong() {
        sentence("LONG: an OUT would be too great.");
        TermMachine x = with("a", 1, "b", MOST_OUT);
        build(x, 1, "a", MOST_OUT - 1, "b", 0);
        due("the greatest sums", x.join(0, 1, 2, 1), 2);
        dueTerms("the greatest sums", x, 2, "a", MOST_OUT, "b", MOST_OUT);
        build(x, 1, "b", 1);
        due("one more", x.join(0, 1, 2, 1), LONG);
        due("turned", x.join(1, 0, 2, 1), LONG);
        due("twice the greatest", x.join(2, 2, 2, 1), LONG);
        dueTerms("c is as it was", x, 2, "a", MOST_OUT, "b", MOST_OUT);
        due("no sum is made of one or both", x.join(0, 1, 3, 0), 2);
        due("no sum is made of just one", x.join(0, 1, 3, 3), 1);
        due("no sum is made of a alone", x.join(0, 1, 3, 2), 1);
        x.begin(3);
        due("into an OPEN one", x.join(2, 2, 3, 1), LONG);
        due("which stays so", x.count(3, 1), 1);
    }

    private void joinMakesDone() {
        sentence("It is DONE then (also if it was OPEN).");
        TermMachine x = withWords("a");
        x.begin(3);
        give(x, "z").add(3, 1);
        due("join", x.join(0, 1, 3, 0), 1);
        due("it is DONE", x.count(3, 1), 0);
        dueTerms("its own are gone", x, 3, "a", 0);
        due("states", x.count(3, 2), 2);
        due("done", x.done(3), OPEN);
        due("add", give(x, "zz").add(3, 1), OPEN);
        x.begin(3);
        due("of none", x.join(1, 2, 3, 0), 0);
        due("it is DONE", x.count(3, 1), 0);
        due("its states", x.count(3, 2), 1);
    }

    private void packedRefused() {
        sentence("How many signs a dictionary has PACKED. BAD; OPEN.");
        TermMachine x = withWords("a");
        due("a term", x.packed(0), 12);
        for (int d : NO_DICTIONARIES) {
            due("no dictionary", x.packed(d), BAD);
        }
        x.begin(1);
        due("an OPEN one", x.packed(1), OPEN);
        due("refused ones leave what was told", x.sign(6), 'a');
        due("to its end", x.sign(11), 0);
        due("and no more", x.sign(12), NONE);
    }

    private void signNone() {
        sentence("Sign i of what packed() told last; NONE.");
        TermMachine x = withWords("a");
        int[] none = {-1, 0, 1, Integer.MAX_VALUE, Integer.MIN_VALUE};
        for (int i : none) {
            due("before, sign " + i, x.sign(i), NONE);
        }
        x.packed(0);
        due("the first", x.sign(0), 84);
        due("the last", x.sign(11), 0);
        int[] behind = {12, 13, -1, Integer.MAX_VALUE, Integer.MIN_VALUE};
        for (int i : behind) {
            due("sign " + i, x.sign(i), NONE);
        }
    }

    private void signToldLast() {
        sentence("Sign i of what packed() told last");
        TermMachine x = with("a", 5);
        x.packed(0);
        x.packed(1);
        due("the shorter one", x.sign(5), 0);
        due("not what is behind it", x.sign(6), NONE);
        x.packed(0);
        x.begin(0);
        due("what was told stays when it is begun", x.sign(2), 5);
        give(x, 84, 77, 7, 1, 1, 0, 0).load(0);
        due("and loaded", x.sign(2), 5);
        x.join(1, 1, 0, 0);
        due("and joined", x.sign(2), 5);
        give(x, 84).load(0);
        due("and refused", x.sign(2), 5);
    }

    private void loadBack() {
        sentence("A dictionary becomes that of which COLLECTED is PACKED: how many TERMS.");
        TermMachine x = new TermMachine();
        due("none", give(x, 84, 77, 0, 1, 0, 0).load(0), 0);
        due("the empty term", give(x, 84, 77, 9, 1, 1, 0, 0).load(0), 1);
        dueTerms("the empty term", x, 0, "", 9);
        due("none again", give(x, 84, 77, 0, 1, 0, 0).load(0), 0);
        due("its states", x.count(0, 2), 1);
        due("its beginnings", x.count(0, 6), 1);
        due("the empty one", x.state(0), 0);
        words(x, 1, TWELVE);
        int[] own = readPacked(x, 1);
        due("one of twelve", give(x, own).load(0), 1);
        dueTerms("one of twelve", x, 0, TWELVE, 0);
        due("its states", x.count(0, 2), 13);
        due("its last state", give(x, TWELVE).state(0), 12);
        due("its rows", x.arc(0, 0, -1, 3), 1);
        x = withFan(200);
        own = readPacked(x, 0);
        x = new TermMachine();
        due("200", give(x, own).load(3), 200);
        due("the last of 200", x.out(3, 199), 199);
        due("its rows", x.arc(3, 0, -1, 3), 200);
    }

    private void loadOf4000() {
        sentence("COLLECTED are up to 4,000 signs");
        TermMachine x = new TermMachine();
        int[] signs = fourThousand();
        due("as many as can be", give(x, signs).collect(0, 1), FULL);
        due("load", x.load(0), 200);
        due("the last of 200", x.term(0, 199, 0), 199);
        due("packed again", x.packed(0), 4000);
        due("its last sign", x.sign(3999), signs[3999]);
        signs[3999] ^= 1;
        due("its last sign broken", give(new TermMachine(), signs).load(0), SHAPE);
    }

    /** 200 terms, whose OUTS fill what is left, first by two signs for each, then by one. */
    private static int[] fourThousand() {
        TermMachine x = new TermMachine();
        int size = fill(x, 0, 0);
        int missing = 4000 - size;
        fill(x, missing / 2, missing % 2);
        return readPacked(x, 0);
    }

    private static int fill(TermMachine x, int twoMore, int oneMore) {
        x.begin(0);
        for (int i = 0; i < 200; i++) {
            int[] word = {i, i * 7 % 256, i * 13 % 256, i * 31 % 256};
            give(x, i < 180 ? word : Arrays.copyOf(word, 3)).add(0, i == 0 ? 0 : i <= twoMore ? 20000 : i <= twoMore + oneMore ? 200 : 0);
        }
        x.done(0);
        return x.packed(0);
    }

    private void dueShape(String why, int... signs) {
        TermMachine x = with("kept", 1);
        give(x, "kept").walk(0, 0, false);
        due(why, give(x, signs).load(0), SHAPE);
        dueTerms(why, x, 0, "kept", 1);
        due(why + ": the walk goes on", x.next(0), 0);
        due(why + ": used up", x.forget(), 0);
    }

    private void loadShape() {
        sentence("BAD; SHAPE: it is that of none.");
        TermMachine x = with("kept", 1);
        give(x, 84, 77, 0, 1, 0, 0);
        for (int d : NO_DICTIONARIES) {
            due("no dictionary", x.load(d), BAD);
        }
        due("it was kept", x.load(1), 0);
        dueShape("nothing");
        dueShape("84 alone", 84);
        dueShape("84 and 77 alone", 84, 77);
        dueShape("another first sign", 83, 77, 0, 1, 0, 0);
        dueShape("another second sign", 84, 76, 0, 1, 0, 0);
        dueShape("both turned", 77, 84, 0, 1, 0, 0);
        dueShape("a LEAST without terms", 84, 77, 1, 1, 0, 0);
        dueShape("no states", 84, 77, 0, 0);
        dueShape("neither final nor not", 84, 77, 0, 1, 2, 0, 0);
        dueShape("a last output that is not the least", 84, 77, 0, 1, 1, 1, 0);
    }

    /** Of a right row each number is written with a sign more than it needs. */
    private void loadAsFewAsCanBe() {
        sentence("(as few as can be)");
        int[] right = {84, 77, 5, 2, 1, 0, 1, 97, 1, 3, 1, 0, 0};
        due("as it is", give(new TermMachine(), right).load(0), 2);
        int[] numbers = {2, 3, 5, 6, 8, 9, 11, 12};
        for (int place : numbers) {
            int[] longer = new int[right.length + 1];
            System.arraycopy(right, 0, longer, 0, place);
            longer[place] = right[place] + 128;
            System.arraycopy(right, place + 1, longer, place + 2, right.length - place - 1);
            dueShape("a sign more at " + place, longer);
        }
        int[] marks = {4, 10};
        for (int place : marks) {
            int[] other = right.clone();
            other[place] = 129;
            dueShape("a mark of 129 at " + place, other);
        }
        dueShape("128 in three signs", 84, 77, 128, 129, 0, 1, 1, 0, 0);
        due("128 in two", give(new TermMachine(), 84, 77, 128, 1, 1, 1, 0, 0).load(0), 1);
        dueShape("six signs more", 84, 77, 133, 128, 128, 128, 128, 128, 0, 1, 1, 0, 0);
        dueShape("a LEAST of many signs", 84, 77, 133, 128, 128, 128, 128, 128, 128, 128, 128, 128, 128, 0, 1, 1, 0, 0);
    }

    private void loadCutOrLonger() {
        sentence("SHAPE: it is that of none.");
        int[] right = {84, 77, 5, 2, 1, 0, 2, 97, 1, 3, 98, 1, 0, 1, 0, 0};
        due("as it is", give(new TermMachine(), right).load(0), 3);
        for (int length = 0; length < right.length; length++) {
            dueShape("cut to " + length, Arrays.copyOf(right, length));
        }
        dueShape("longer by one", Arrays.copyOf(right, right.length + 1));
        dueShape("longer by many", Arrays.copyOf(right, 3000));
        dueShape("a number that does not end", 84, 77, 5, 1, 1, 0, 128);
    }

    private void loadBounds() {
        sentence("TERMS, 200 at most, in order, each with an OUT, 0 .. 1,000,000,000,000");
        dueShape("a LEAST too great", packed(MOST_OUT + 1, 1, 1, 0, 0));
        due("the greatest LEAST", give(new TermMachine(), packed(MOST_OUT, 1, 1, 0, 0)).load(0), 1);
        dueShape("a LEAST of 2^42 - 1", packed((1L << 42) - 1, 1, 1, 0, 0));
        dueShape("a LEAST of 2^56 - 1", packed((1L << 56) - 1, 1, 1, 0, 0));
        dueShape("a LEAST of 2^63 - 1", packed(Long.MAX_VALUE, 1, 1, 0, 0));
        dueShape("an OUTPUT too great", packed(0, 2, 1, 0, 1, raw(97), 1, MOST_OUT + 1, 1, 0, 0));
        due("the greatest OUTPUT", give(new TermMachine(), packed(0, 2, 1, 0, 1, raw(97), 1, MOST_OUT, 1, 0, 0)).load(0), 2);
        dueShape("a sum too great", packed(1, 2, 1, 0, 1, raw(97), 1, MOST_OUT, 1, 0, 0));
        dueShape("a last OUTPUT too great", packed(0, 2, 1, MOST_OUT + 1, 1, raw(97), 1, 0, 1, 0, 0));
        due("the greatest last OUTPUT", give(new TermMachine(), packed(0, 2, 1, MOST_OUT, 1, raw(97), 1, 0, 1, 0, 0)).load(0), 2);
        dueShape("a last sum too great", packed(1, 2, 1, MOST_OUT, 1, raw(97), 1, 0, 1, 0, 0));
        dueShape("201 terms", fanPacked(201));
        due("200 terms", give(new TermMachine(), fanPacked(200)).load(0), 200);
        dueShape("256 terms", fanPacked(256));
        dueShape("a term of 13", chainPacked(13));
        due("a term of 12", give(new TermMachine(), chainPacked(12)).load(0), 1);
        dueShape("very many states", packed(0, 1L << 31, 1, 0, 0));
        dueShape("as many as wrap around", packed(0, (1L << 32) + 1, 1, 0, 0));
        dueShape("very many arcs", packed(0, 1, 1, 0, 1L << 31));
        dueShape("arcs that wrap around", packed(0, 1, 1, 0, 1L << 32));
        dueShape("a state that wraps around", packed(0, 2, 0, 1, raw(97), (1L << 32) + 1, 0, 1, 0, 0));
        dueShape("a state behind the last", packed(0, 2, 0, 1, raw(97), 2, 0, 1, 0, 0));
    }

    private static int[] fanPacked(int many) {
        long[] numbers = new long[4 + 3 * many + 3];
        numbers[1] = 2;
        numbers[3] = many;
        for (int i = 0; i < many; i++) {
            numbers[4 + 3 * i] = raw(i);
            numbers[5 + 3 * i] = 1;
        }
        numbers[4 + 3 * many] = 1;
        return packed(numbers);
    }

    private static int[] chainPacked(int length) {
        long[] numbers = new long[2 + 5 * length + 3];
        numbers[1] = length + 1;
        for (int i = 0; i < length; i++) {
            numbers[3 + 5 * i] = 1;
            numbers[4 + 5 * i] = raw(97);
            numbers[5 + 5 * i] = i + 1;
        }
        numbers[2 + 5 * length] = 1;
        return packed(numbers);
    }

    private void loadOtherMachines() {
        sentence("STATES are the different RESTS");
        dueShape("two states alike", 84, 77, 0, 3, 0, 2, 97, 1, 0, 98, 2, 0, 1, 0, 0, 1, 0, 0);
        dueShape("a state that none leads to", 84, 77, 0, 2, 1, 0, 0, 1, 0, 0);
        dueShape("states out of order", 84, 77, 0, 3, 0, 1, 97, 2, 0, 1, 0, 0, 0, 1, 97, 1, 0);
        dueShape("signs out of order", 84, 77, 0, 2, 0, 2, 98, 1, 0, 97, 1, 0, 1, 0, 0);
        dueShape("a sign twice", 84, 77, 0, 2, 0, 2, 97, 1, 0, 97, 1, 0, 1, 0, 0);
        dueShape("a ring", 84, 77, 0, 1, 1, 0, 1, 97, 0, 0);
        dueShape("a ring that ends nowhere", 84, 77, 0, 1, 0, 1, 97, 0, 0);
        dueShape("a state without rows", 84, 77, 0, 2, 1, 0, 1, 97, 1, 0, 0, 0);
        dueShape("an OUTPUT that could stand ahead", 84, 77, 0, 3, 0, 1, 97, 1, 0, 0, 1, 97, 2, 1, 1, 0, 0);
        dueShape("an OUTPUT that could be the LEAST", 84, 77, 0, 2, 0, 1, 97, 1, 1, 1, 0, 0);
        dueShape("a last OUTPUT that could stand ahead", 84, 77, 0, 2, 0, 1, 97, 1, 0, 1, 1, 0);
    }

    private void loadMakesDone() {
        sentence("It is DONE then (also if it was OPEN).");
        TermMachine x = new TermMachine();
        x.begin(2);
        give(x, "z").add(2, 1);
        due("SHAPE", give(x, 84, 77, 0, 1, 0).load(2), SHAPE);
        due("it is still OPEN", x.count(2, 1), 1);
        due("with its term", give(x, "z").add(2, 1), ORDER);
        due("load", give(x, 84, 77, 5, 1, 1, 0, 0).load(2), 1);
        due("it is DONE", x.count(2, 1), 0);
        dueTerms("its own are gone", x, 2, "", 5);
        due("done", x.done(2), OPEN);
        due("add", give(x, "zz").add(2, 1), OPEN);
    }
}
