/** A test for each sentence about TERMS, REFUSALS and promises 1 to 6 that names a boundary case. */
public final class BoundaryTermsTest extends Bench {
    private static final String TWELVE = "abcdefghijkl";
    private static final String THIRTEEN = "abcdefghijklm";

    public static void main(String[] args) {
        new BoundaryTermsTest().run();
    }

    private void run() {
        signs();
        collectedAreUpTo4000();
        readingUsesUp();
        badUsesNothingUp();
        othersReadNothing();
        termsOfNoSign();
        termsOfTwelveSigns();
        belowByFirstSignThatDiffers();
        belowAsBeginning();
        fourDictionaries();
        twoHundredTerms();
        outs();
        doneAtFirst();
        badFirst();
        refusalsInOrder();
        newObject();
        collectLowestBytes();
        collectBad();
        collectFull();
        forgetHowMany();
        beginHowMany();
        addRefusals();
        doneStates();
        doneTwice();
        end("BoundaryTermsTest");
    }

    private void signs() {
        sentence("SIGNS are 0 .. 255.");
        TermMachine x = new TermMachine();
        x.begin(0);
        for (int sign = 0; sign < 100; sign++) {
            x.collect(sign, 1);
            due("add sign " + sign, x.add(0, sign), sign + 1);
        }
        for (int sign = 156; sign <= 255; sign++) {
            x.collect(sign, 1);
            due("add sign " + sign, x.add(0, sign), sign - 55);
        }
        x.done(0);
        due("the least sign", x.term(0, 0, 0), 0);
        due("the greatest sign", x.term(0, 199, 0), 255);
        due("the least arc", x.arc(0, 0, 0, 0), 0);
        due("the greatest arc", x.arc(0, 0, 199, 0), 255);
        due("find 0", give(x, 0).find(0), 0);
        due("find 255", give(x, 255).find(0), 255);
        due("256 is 0 in one byte", x.collect(256, 1), 1);
        due("find 256", x.find(0), 0);
        due("-1 is 255 in one byte", x.collect(-1, 1), 1);
        due("find -1", x.find(0), 255);
    }

    private void collectedAreUpTo4000() {
        sentence("COLLECTED are up to 4,000 signs");
        TermMachine x = new TermMachine();
        for (int i = 1; i <= 500; i++) {
            due("collect", x.collect(i, 8), 8 * i);
        }
        due("one more", x.collect(0, 1), FULL);
        due("eight more", x.collect(0, 8), FULL);
        due("all are kept", x.forget(), 4000);
        due("room again", x.collect(0, 8), 8);
    }

    private void readingUsesUp() {
        sentence("a call that reads them uses them up, whatever it answers but BAD");
        TermMachine x = withWords("a", "b");
        x.begin(1);
        for (int call = 0; call < READERS; call++) {
            give(x, "a");
            readCollected(x, call, 0);
            due("answered, call " + call, x.forget(), 0);
            give(x, "(zzz");
            readCollected(x, call, 0);
            due("none or refused, call " + call, x.forget(), 0);
            give(x, "zzzzzzzzzzzzzzzzzzzzzzzzz");
            readCollected(x, call, 0);
            due("long, call " + call, x.forget(), 0);
            give(x, "a");
            readCollected(x, call, 1);
            due("the other state, call " + call, x.forget(), 0);
        }
        x.begin(2);
        due("add", give(x, "b").add(2, 1), 1);
        due("add used up", x.forget(), 0);
        due("add ORDER", give(x, "a").add(2, 1), ORDER);
        due("add ORDER used up", x.forget(), 0);
        due("add LONG", give(x, THIRTEEN).add(2, 1), LONG);
        due("add LONG used up", x.forget(), 0);
        due("add OPEN", give(x, "c").add(0, 1), OPEN);
        due("add OPEN used up", x.forget(), 0);
        due("find", give(x, "a").find(0), 0);
        due("the next one reads the empty row", x.find(0), NONE);
        due("and what comes is not behind what was", x.collect('b', 1), 1);
        due("find b", x.find(0), 1);
        x = new TermMachine();
        x.begin(0);
        for (int i = 0; i < 200; i++) {
            give(x, i).add(0, 0);
        }
        due("add FULL", give(x, 200).add(0, 0), FULL);
        due("add FULL used up", x.forget(), 0);
    }

    private void badUsesNothingUp() {
        sentence("a call that reads them uses them up, whatever it answers but BAD");
        TermMachine x = withWords("a", "b");
        x.begin(1);
        give(x, "b");
        for (int d : NO_DICTIONARIES) {
            for (int call = 0; call < READERS; call++) {
                due("BAD, call " + call, readCollected(x, call, d), BAD);
            }
            due("BAD walk", x.walk(d, 0, false), BAD);
        }
        due("BAD least out", x.add(1, -1), BAD);
        due("BAD greatest out", x.add(1, MOST_OUT + 1), BAD);
        due("BAD n", x.cheapest(0, 0), BAD);
        due("BAD n", x.cheapest(0, 201), BAD);
        due("BAD kind", x.meet(0, -1), BAD);
        due("BAD kind", x.meet(0, 5), BAD);
        due("BAD collect", x.collect('c', 0), BAD);
        due("BAD collect", x.collect('c', 9), BAD);
        due("it still stands there", x.find(0), 1);
        due("it was one", x.forget(), 0);
    }

    private void othersReadNothing() {
        sentence("a call that reads them uses them up");
        TermMachine x = withWords("a", "b");
        give(x, "b");
        x.begin(1);
        x.done(1);
        x.count(0, 0);
        x.arc(0, 0, 0, 0);
        x.term(0, 0, 0);
        x.out(0, 0);
        x.fault();
        x.row(0);
        x.join(0, 0, 2, 0);
        x.packed(0);
        x.sign(0);
        x.next(0);
        due("no other does", x.find(0), 1);
    }

    private void termsOfNoSign() {
        sentence("A TERM is a row of 0 to 12 signs");
        TermMachine x = new TermMachine();
        x.begin(0);
        due("the empty term", x.add(0, 8), 1);
        due("one state", x.done(0), 1);
        dueTerms("the empty term", x, 0, "", 8);
        due("no sign 0", x.term(0, 0, 0), NONE);
        due("find it", x.find(0), 8);
        due("number it", x.number(0), 0);
        due("its state", x.state(0), 0);
        due("it is final", x.arc(0, 0, -1, 1), 1);
        due("ceiling of nothing", x.ceiling(0), 0);
        due("ceiling of the least sign", give(x, 0).ceiling(0), NONE);
        dueRow("prefix", x, x.prefix(0), 0);
        dueRow("cheapest", x, x.cheapest(0, 1), 0);
        for (int kind = 0; kind < 5; kind++) {
            dueRow("meet", x, x.meet(0, kind), 0);
        }
        x.walk(0, 0, true);
        dueSteps("walk back", x, 0, 0);
    }

    private void termsOfTwelveSigns() {
        sentence("A TERM is a row of 0 to 12 signs");
        TermMachine x = new TermMachine();
        x.begin(0);
        due("twelve", give(x, TWELVE).add(0, 5), 1);
        due("thirteen", give(x, "abcdefghijklz").add(0, 5), LONG);
        due("thirteen, with a term for a beginning", give(x, THIRTEEN).add(0, 5), LONG);
        for (int i = 0; i < 100; i++) {
            x.collect(-1, 8);
        }
        due("eight hundred", x.add(0, 5), LONG);
        due("thirteen states", x.done(0), 13);
        due("the most signs", x.count(0, 5), 12);
        dueTerms("twelve", x, 0, TWELVE, 5);
        due("the last sign", x.term(0, 0, 11), 'l');
        due("behind it", x.term(0, 0, 12), NONE);
        due("the last state", give(x, TWELVE).state(0), 12);
        due("find thirteen", give(x, THIRTEEN).find(0), NONE);
        due("number thirteen", give(x, THIRTEEN).number(0), NONE);
        due("state of thirteen", give(x, THIRTEEN).state(0), NONE);
        due("thirteen is above", give(x, THIRTEEN).ceiling(0), NONE);
        dueRow("none begins with thirteen", x, give(x, THIRTEEN).prefix(0));
        dueRow("nor is one the cheapest", x, give(x, THIRTEEN).cheapest(0, 1));
        due("walk back from thirteen", give(x, THIRTEEN).walk(0, 0, true), 0);
        dueSteps("it meets twelve", x, 0, 0);
        due("walk from thirteen", give(x, THIRTEEN).walk(0, 0, false), 0);
        dueSteps("it meets none", x, 0);
    }

    /** Each row is above all that are ahead of it here. */
    private void dueRising(String... rows) {
        for (int i = 0; i < rows.length; i++) {
            for (int k = 0; k < rows.length; k++) {
                TermMachine x = new TermMachine();
                x.begin(0);
                give(x, rows[i]).add(0, 0);
                due("row " + k + " behind row " + i, give(x, rows[k]).add(0, 0), i < k ? 2 : ORDER);
                x.begin(1);
                give(x, rows[i]).add(1, 0);
                x.done(1);
                due("ceiling of row " + k + " at row " + i, give(x, rows[k]).ceiling(1), i >= k ? 0 : NONE);
            }
        }
    }

    private void belowByFirstSignThatDiffers() {
        sentence("one is BELOW another one, if its first sign that differs is less");
        dueRising(sign(0), sign(1), sign(127), sign(128), sign(254), sign(255));
        dueRising("aaaaaaaaaaaa", "aaaaaaaaaaab", "aaaaaaaaaab", "ab", "b");
        dueRising("a" + sign(127), "a" + sign(128), "a" + sign(255), "b" + sign(0));
    }

    private void belowAsBeginning() {
        sentence("or it is a beginning of it");
        dueRising("", sign(0), sign(0) + sign(0), "a", "a" + sign(0), "aa", "abcdefghijk", TWELVE);
    }

    private void fourDictionaries() {
        sentence("DICTIONARIES are 0 .. 3");
        TermMachine x = new TermMachine();
        for (int d = 0; d <= 3; d++) {
            build(x, d, "a", d, sign(98 + d), 10 + d);
        }
        for (int d = 0; d <= 3; d++) {
            dueTerms("dictionary " + d, x, d, "a", d, sign(98 + d), 10 + d);
        }
        for (int d : NO_DICTIONARIES) {
            for (int call = 0; call < READERS; call++) {
                due("call " + call, readCollected(x, call, d), BAD);
            }
            due("begin", x.begin(d), BAD);
            due("done", x.done(d), BAD);
            due("count", x.count(d, 0), BAD);
            due("arc", x.arc(d, 0, -1, 0), BAD);
            due("term", x.term(d, 0, -1), BAD);
            due("out", x.out(d, 0), BAD);
            due("join a", x.join(d, 0, 0, 0), BAD);
            due("join b", x.join(0, d, 0, 0), BAD);
            due("join c", x.join(0, 0, d, 0), BAD);
            due("packed", x.packed(d), BAD);
        }
    }

    private void twoHundredTerms() {
        sentence("each has TERMS, 200 at most");
        TermMachine x = new TermMachine();
        x.begin(0);
        for (int i = 0; i < 200; i++) {
            x.collect(i, 1);
            due("add", x.add(0, 1000 - i), i + 1);
        }
        due("one more", give(x, 200).add(0, 0), FULL);
        due("there are 200", x.count(0, 0), 200);
        x.done(0);
        due("the last one", give(x, 199).number(0), 199);
        due("its out", x.out(0, 199), 801);
        due("its sign", x.term(0, 199, 0), 199);
        due("behind it", x.out(0, 200), NONE);
        due("the one too many is none", give(x, 200).find(0), NONE);
        due("all begin with nothing", x.prefix(0), 200);
        due("the last in the row", x.row(199), 199);
        due("behind the row", x.row(200), NONE);
        due("all by their outs", x.cheapest(0, 200), 200);
        due("the cheapest", x.row(0), 199);
        due("the dearest", x.row(199), 0);
        due("all are met", give(x, "?").meet(0, 0), 200);
        due("all with themselves", x.join(0, 0, 3, 1), 200);
        give(x, 255).walk(0, 0, true);
        due("walk back from the last", x.next(0), 199);
    }

    private void outs() {
        sentence("each with an OUT, 0 .. 1,000,000,000,000");
        TermMachine x = new TermMachine();
        x.begin(0);
        long[] wrong = {-1, MOST_OUT + 1, Long.MIN_VALUE, Long.MAX_VALUE, Integer.MIN_VALUE, -MOST_OUT};
        for (long out : wrong) {
            due("add " + out, x.add(0, out), BAD);
        }
        long[] right = {0, 1, Integer.MAX_VALUE, 1L << 31, 1L << 32, MOST_OUT - 1, MOST_OUT};
        for (int i = 0; i < right.length; i++) {
            due("add " + right[i], give(x, 'a' + i).add(0, right[i]), i + 1);
        }
        x.done(0);
        for (int i = 0; i < right.length; i++) {
            due("find " + right[i], give(x, 'a' + i).find(0), right[i]);
            due("out " + right[i], x.out(0, i), right[i]);
            due("output " + right[i], x.arc(0, 0, i, 2), right[i]);
        }
    }

    private void doneAtFirst() {
        sentence("At first they are DONE, without TERMS.");
        TermMachine x = new TermMachine();
        for (int d = 0; d <= 3; d++) {
            due("terms", x.count(d, 0), 0);
            due("open", x.count(d, 1), 0);
            due("states", x.count(d, 2), 1);
            due("done", x.done(d), OPEN);
            due("add", give(x, "a").add(d, 0), OPEN);
            due("begin", x.begin(d), 0);
        }
    }

    private void badFirst() {
        sentence("BAD (a number is none, or out of its bounds) first");
        TermMachine x = withWords("a");
        x.begin(1);
        due("an out before OPEN", give(x, THIRTEEN).add(0, -1), BAD);
        due("an out before LONG", x.add(1, MOST_OUT + 1), BAD);
        x.forget();
        due("a what before OPEN", x.count(1, 7), BAD);
        due("a what before OPEN", x.count(1, -1), BAD);
        due("a what before OPEN and NONE", x.arc(1, 99, 99, 4), BAD);
        due("a what before NONE", x.arc(0, 99, 99, -1), BAD);
        due("an n before OPEN", x.cheapest(1, 0), BAD);
        due("an n before OPEN", x.cheapest(1, 201), BAD);
        give(x, "((((((((((((((((((((((((((((");
        due("a kind before OPEN", x.meet(1, 5), BAD);
        due("a kind before LONG", x.meet(0, -1), BAD);
        due("a dictionary before SHAPE", x.load(4), BAD);
        due("a how before OPEN", x.join(1, 1, 1, 4), BAD);
        due("a c before OPEN", x.join(1, 1, 4, 0), BAD);
        due("a b before OPEN", x.join(1, -1, 1, 0), BAD);
        due("a walk before OPEN", x.walk(4, 1, false), BAD);
        due("a dictionary and a walk", x.walk(-1, -1, true), BAD);
        x = new TermMachine();
        for (int i = 0; i < 500; i++) {
            x.collect(0, 8);
        }
        due("an n before FULL", x.collect(0, 9), BAD);
        due("an n before FULL", x.collect(0, 0), BAD);
    }

    private void refusalsInOrder() {
        sentence("then what a call names, in the order named");
        TermMachine x = withWords("b");
        due("add OPEN, LONG, ORDER", give(x, "aaaaaaaaaaaaa").add(0, 0), OPEN);
        due("add OPEN, ORDER", give(x, "a").add(0, 0), OPEN);
        x.begin(0);
        for (int i = 0; i < 199; i++) {
            give(x, i).add(0, 0);
        }
        due("add LONG, ORDER", give(x, "aaaaaaaaaaaaa").add(0, 0), LONG);
        give(x, 199).add(0, 0);
        due("add LONG, ORDER, FULL", give(x, "aaaaaaaaaaaaa").add(0, 0), LONG);
        due("add LONG, FULL", give(x, 255, 0, 0, 0, 0, 0, 0, 0, 0, 0, 0, 0, 0).add(0, 0), LONG);
        due("add ORDER, FULL", give(x, "a").add(0, 0), ORDER);
        due("add ORDER of alike ones, FULL", give(x, 199).add(0, 0), ORDER);
        due("add FULL", give(x, 199, 0).add(0, 0), FULL);
        due("meet OPEN, LONG, SHAPE", give(x, "(((((((((((((((((((((((((").meet(0, 1), OPEN);
        due("meet OPEN, SHAPE", give(x, "(").meet(0, 1), OPEN);
        due("find OPEN, NONE", give(x, "zz").find(0), OPEN);
        due("term OPEN, NONE", x.term(0, 999, 0), OPEN);
        due("out OPEN, NONE", x.out(0, 999), OPEN);
        due("arc OPEN, NONE", x.arc(0, 9999, 0, 0), OPEN);
        x.done(0);
        due("meet LONG, SHAPE", give(x, "(((((((((((((((((((((((((").meet(0, 1), LONG);
    }

    private void newObject() {
        sentence("Four dictionaries without TERMS, DONE; nothing COLLECTED, met, or walked.");
        TermMachine x = new TermMachine();
        for (int d = 0; d <= 3; d++) {
            int[] counts = {0, 0, 1, 0, 0, 0, 1};
            for (int what = 0; what <= 6; what++) {
                due("count " + what, x.count(d, what), counts[what]);
            }
            due("next", x.next(d), NONE);
            due("out", x.out(d, 0), NONE);
        }
        due("forget", x.forget(), 0);
        due("row", x.row(0), NONE);
        due("fault", x.fault(), NONE);
        due("sign", x.sign(0), NONE);
    }

    private void collectLowestBytes() {
        sentence("The n lowest bytes of w, the lowest first, come behind what is COLLECTED: how many there are.");
        TermMachine x = new TermMachine();
        long w = 0xF807060504030201L;
        for (int n = 1; n <= 8; n++) {
            x.begin(0);
            due("collect " + n, x.collect(w, n), n);
            x.add(0, 0);
            x.done(0);
            due("length " + n, x.term(0, 0, -1), n);
            for (int i = 0; i < n; i++) {
                due("byte " + i, x.term(0, 0, i), i == 7 ? 0xF8 : i + 1);
            }
        }
        x.begin(0);
        due("the least long", x.collect(Long.MIN_VALUE, 8), 8);
        due("what is above n is left out", x.collect(-256, 1), 9);
        due("behind it", x.collect(Long.MAX_VALUE, 3), 12);
        x.add(0, 0);
        x.done(0);
        int[] due = {0, 0, 0, 0, 0, 0, 0, 128, 0, 255, 255, 255};
        for (int i = 0; i < 12; i++) {
            due("sign " + i, x.term(0, 0, i), due[i]);
        }
    }

    private void collectBad() {
        sentence("BAD: n is not 1 .. 8");
        TermMachine x = new TermMachine();
        int[] wrong = {0, 9, -1, -8, 16, 256, 264, Integer.MIN_VALUE, Integer.MAX_VALUE};
        for (int n : wrong) {
            due("collect " + n, x.collect(97, n), BAD);
        }
        due("nothing came", x.forget(), 0);
        due("1", x.collect(97, 1), 1);
        due("8", x.collect(97, 8), 9);
    }

    private void collectFull() {
        sentence("FULL: there would be more than 4,000.");
        TermMachine x = new TermMachine();
        for (int i = 0; i < 499; i++) {
            x.collect(0, 8);
        }
        due("one from full", x.collect(0, 1), 3993);
        due("eight are too many", x.collect(0, 8), FULL);
        due("seven are not", x.collect(0, 7), 4000);
        for (int n = 1; n <= 8; n++) {
            due("none fits, not " + n, x.collect(0, n), FULL);
        }
        due("nothing came, nothing went", x.forget(), 4000);
    }

    private void forgetHowMany() {
        sentence("Nothing is COLLECTED any more: how many there were.");
        TermMachine x = withWords("", "a");
        due("there were none", x.forget(), 0);
        give(x, "a");
        due("there was one", x.forget(), 1);
        due("there are none any more", x.forget(), 0);
        due("what is read then is empty", x.number(0), 0);
    }

    private void beginHowMany() {
        sentence("A dictionary is OPEN, without TERMS: how many it had. BAD.");
        TermMachine x = withFan(200);
        due("a full one", x.begin(0), 200);
        due("terms", x.count(0, 0), 0);
        due("open", x.count(0, 1), 1);
        due("an open one without", x.begin(0), 0);
        give(x, "b").add(0, 1);
        due("an open one with a term", x.begin(0), 1);
        due("what was there is no bound", give(x, "a").add(0, 1), 1);
        due("the others stay", x.count(1, 1), 0);
        for (int d : NO_DICTIONARIES) {
            due("no dictionary", x.begin(d), BAD);
        }
        due("BAD left it", x.count(0, 0), 1);
    }

    private void addRefusals() {
        sentence("BAD: also the OUT; OPEN: it is DONE; LONG: more than 12; ORDER: it is not above the last one; FULL.");
        TermMachine x = new TermMachine();
        due("a DONE one", give(x, "a").add(0, 0), OPEN);
        x.begin(0);
        due("a negative OUT", give(x, "m").add(0, -1), BAD);
        due("the term was kept", x.add(0, 0), 1);
        due("the same again", give(x, "m").add(0, 0), ORDER);
        due("below", give(x, "l").add(0, 0), ORDER);
        due("the empty one", x.add(0, 0), ORDER);
        due("more than 12", give(x, "nnnnnnnnnnnnn").add(0, 0), LONG);
        due("what was refused is no bound", give(x, "m" + sign(0)).add(0, 0), 2);
        x.done(0);
        due("a DONE one again", give(x, "z").add(0, 0), OPEN);
        dueTerms("added", x, 0, "m", 0, "m" + sign(0), 0);
    }

    private void doneStates() {
        sentence("It is DONE: how many STATES it has.");
        TermMachine x = new TermMachine();
        x.begin(0);
        due("no terms", x.done(0), 1);
        x.begin(0);
        x.add(0, MOST_OUT);
        due("the empty term", x.done(0), 1);
        x.begin(0);
        give(x, TWELVE).add(0, 0);
        due("twelve signs", x.done(0), 13);
        x.begin(0);
        give(x, "aaaaaaaaaaaa").add(0, 0);
        due("twelve signs alike", x.done(0), 13);
        x.begin(0);
        for (int i = 0; i < 160; i++) {
            give(x, i, i, i, i, i, i, i, i).add(0, i);
        }
        due("no rests alike but the last ones", x.done(0), 2 + 160 * 7);
    }

    private void doneTwice() {
        sentence("BAD; OPEN: it was.");
        TermMachine x = new TermMachine();
        due("at first", x.done(3), OPEN);
        x.begin(3);
        x.done(3);
        due("twice", x.done(3), OPEN);
        x.begin(3);
        give(x, 84, 77, 0, 1, 0, 0).load(3);
        due("what was loaded", x.done(3), OPEN);
        x.begin(3);
        x.join(0, 0, 3, 0);
        due("what was joined", x.done(3), OPEN);
        for (int d : NO_DICTIONARIES) {
            due("no dictionary", x.done(d), BAD);
        }
    }
}
