import java.util.function.ToLongFunction;

/** A test for each sentence about WALKS (promises 24 and 25) that names a boundary case, and for what is refused. */
public final class BoundaryWalksTest extends Bench {
    private static final String THIRTEEN = "abcdefghijklm";

    public static void main(String[] args) {
        new BoundaryWalksTest().run();
    }

    private void run() {
        walkFromLeast();
        walkBackFromGreatest();
        walkBounds();
        walkOpen();
        walkAgain();
        nextNone();
        nextNotBegun();
        nextAfterBegin();
        nextAfterJoin();
        nextAfterLoad();
        nextAfterOthers();
        nextBad();
        refusedChangesNothing();
        lastOf512Calls();
        end("BoundaryWalksTest");
    }

    private void dueWalk(String from, TermMachine x, boolean back, int... numbers) {
        due("walk from " + from, give(x, from).walk(0, 0, back), 0);
        dueSteps("next from " + from, x, 0, numbers);
    }

    private void walkFromLeast() {
        sentence("from the least TERM on that is not BELOW what is COLLECTED");
        TermMachine x = withWords("b", "bb", "c", "cccccccccccc");
        dueWalk("", x, false, 0, 1, 2, 3);
        dueWalk("a", x, false, 0, 1, 2, 3);
        dueWalk("b", x, false, 0, 1, 2, 3);
        dueWalk("b" + sign(0), x, false, 1, 2, 3);
        dueWalk("bb", x, false, 1, 2, 3);
        dueWalk("bbbbbbbbbbbbbbbb", x, false, 2, 3);
        dueWalk("cccccccccccc", x, false, 3);
        dueWalk("ccccccccccccc", x, false);
        dueWalk(sign(255), x, false);
        due("without terms", x.walk(0, 1, false), 0);
        dueSteps("without terms", x, 0);
        words(x, 0, "");
        dueWalk("", x, false, 0);
        dueWalk(sign(0), x, false);
    }

    private void walkBackFromGreatest() {
        sentence("or back (from the greatest on that is not above it)");
        TermMachine x = withWords("b", "bb", "c", "cccccccccccc");
        dueWalk("", x, true);
        dueWalk("a", x, true);
        dueWalk("b", x, true, 0);
        dueWalk("b" + sign(255), x, true, 1, 0);
        dueWalk("bb", x, true, 1, 0);
        dueWalk("ba", x, true, 0);
        dueWalk("cccccccccccb", x, true, 2, 1, 0);
        dueWalk("cccccccccccc", x, true, 3, 2, 1, 0);
        dueWalk("ccccccccccccc", x, true, 3, 2, 1, 0);
        dueWalk(sign(255), x, true, 3, 2, 1, 0);
        due("without terms", x.walk(0, 1, true), 0);
        dueSteps("without terms", x, 0);
        words(x, 0, "", sign(0));
        dueWalk("", x, true, 0);
        dueWalk(sign(0), x, true, 1, 0);
    }

    private void walkBounds() {
        sentence("A WALK (0 .. 3) through a DONE dictionary");
        TermMachine x = withWords("a", "b", "c", "d");
        for (int w = 0; w <= 3; w++) {
            due("walk " + w, give(x, 'a' + w).walk(w, 0, false), 0);
        }
        for (int w : NO_DICTIONARIES) {
            due("no walk " + w, x.walk(w, 0, false), BAD);
            due("no walk back " + w, x.walk(w, 0, true), BAD);
            due("no dictionary " + w, x.walk(0, w, false), BAD);
        }
        for (int w = 3; w >= 0; w--) {
            due("each by itself", x.next(w), w);
        }
        x = withFan(200);
        x.walk(1, 0, false);
        for (int i = 0; i < 100; i++) {
            due("through 200", x.next(1), i);
        }
        give(x, 199).walk(2, 0, true);
        for (int i = 199; i > 190; i--) {
            due("back through 200", x.next(2), i);
        }
    }

    private void walkOpen() {
        sentence("BAD; OPEN.");
        TermMachine x = withWords("a", "b");
        x.walk(0, 0, false);
        x.begin(1);
        give(x, "a").add(1, 1);
        due("an OPEN one", give(x, "a").walk(0, 1, false), OPEN);
        due("back", give(x, "a").walk(0, 1, true), OPEN);
        due("it used up what was COLLECTED", x.forget(), 0);
        due("the walk that was goes on", x.next(0), 0);
        due("one that was not is none", x.walk(3, 1, false), OPEN);
        due("nor is it when DONE", x.done(1), 2);
        due("next", x.next(3), NONE);
    }

    private void walkAgain() {
        sentence("A WALK (0 .. 3) through a DONE dictionary, from the least TERM on");
        TermMachine x = withWords("a", "b", "c");
        words(x, 1, "z");
        x.walk(0, 0, false);
        x.next(0);
        x.next(0);
        x.walk(0, 0, false);
        due("from the first again", x.next(0), 0);
        give(x, "b").walk(0, 0, true);
        dueSteps("back", x, 0, 1, 0);
        x.walk(0, 1, false);
        dueSteps("through another one", x, 0, 0);
        give(x, "c").walk(0, 0, false);
        dueSteps("after its end", x, 0, 2);
    }

    private void nextNone() {
        sentence("The number of the next TERM of a WALK; NONE: there is none");
        TermMachine x = withWords("a", "b");
        x.walk(0, 0, false);
        give(x, "b").walk(1, 0, true);
        dueSteps("on", x, 0, 0, 1);
        dueSteps("back", x, 1, 1, 0);
        for (int i = 0; i < 300; i++) {
            due("ever after", x.next(i % 2), NONE);
        }
    }

    private void nextNotBegun() {
        sentence("it was not begun");
        TermMachine x = withWords("a");
        x.walk(1, 0, false);
        due("walk 0", x.next(0), NONE);
        due("walk 2", x.next(2), NONE);
        due("walk 3", x.next(3), NONE);
        due("walk 1", x.next(1), 0);
    }

    private static TermMachine walked() {
        TermMachine x = withWords("a", "b", "c");
        words(x, 1, "a", "b", "c");
        x.walk(0, 0, false);
        give(x, "c").walk(1, 0, true);
        x.walk(2, 1, false);
        x.next(0);
        return x;
    }

    /** Walks 0 and 1 went through dictionary 0, walk 2 through dictionary 1. */
    private void dueEnded(String by, TermMachine x) {
        due(by + " ends a walk", x.next(0), NONE);
        due(by + " ends a walk back", x.next(1), NONE);
        due(by + " leaves others", x.next(2), 0);
    }

    private void nextAfterBegin() {
        sentence("or its dictionary was begun anew");
        TermMachine x = walked();
        x.begin(0);
        dueEnded("begin", x);
        give(x, "a").add(0, 1);
        due("add", x.next(0), NONE);
        x.done(0);
        due("done", x.next(0), NONE);
        x.walk(0, 0, false);
        due("a new walk", x.next(0), 0);
    }

    private void nextAfterJoin() {
        sentence("joined or loaded since");
        TermMachine x = walked();
        x.join(1, 1, 0, 0);
        dueEnded("join", x);
        x = walked();
        x.join(0, 0, 0, 0);
        dueEnded("join with itself", x);
        x = walked();
        x.join(0, 0, 2, 0);
        due("what a join reads stays", x.next(0), 1);
        due("what a join reads stays", x.next(1), 2);
    }

    private void nextAfterLoad() {
        sentence("joined or loaded since");
        TermMachine x = walked();
        give(x, 84, 77, 0, 1, 1, 0, 0).load(0);
        dueEnded("load", x);
        x = walked();
        int size = x.packed(0);
        for (int i = 0; i < size; i++) {
            x.collect(x.sign(i), 1);
        }
        due("load of what it is", x.load(0), 3);
        dueEnded("load of what it is", x);
    }

    private void nextAfterOthers() {
        sentence("What is refused changes nothing (but COLLECTED).");
        TermMachine x = walked();
        give(x, 84, 77).load(0);
        x.join(0, 0, 0, 4);
        x.join(4, 0, 0, 0);
        x.begin(2);
        x.join(2, 0, 0, 0);
        x.begin(4);
        x.done(0);
        give(x, "z").add(0, 1);
        x.walk(0, 2, true);
        x.walk(0, 4, true);
        due("the walk goes on", x.next(0), 1);
        due("the walk back goes on", x.next(1), 2);
    }

    private void nextBad() {
        sentence("or loaded since. BAD.");
        TermMachine x = walked();
        for (int w : NO_DICTIONARIES) {
            due("no walk " + w, x.next(w), BAD);
        }
        due("the others stay", x.next(0), 1);
    }

    /** With an OPEN, a DONE and a full dictionary, a ROW, a FAULT, something packed, and walks under way. */
    private static TermMachine busy() {
        TermMachine x = new TermMachine();
        fan(x, 0, 0, 101);
        words(x, 1, "", "b", "bc");
        x.begin(2);
        give(x, "m").add(2, 5);
        x.join(1, 1, 3, 0);
        give(x, ")").meet(1, 1);
        give(x, "b").prefix(1);
        x.packed(1);
        x.walk(0, 1, false);
        give(x, "b").walk(1, 1, true);
        x.walk(2, 0, false);
        return x;
    }

    private void dueAlike(String call, TermMachine x, TermMachine y) {
        for (int d = 0; d < 4; d++) {
            for (int what = 0; what <= 6; what++) {
                due(call + ": count(" + d + ", " + what + ")", x.count(d, what), y.count(d, what));
            }
            for (int i = -1; i < 3; i++) {
                due(call + ": out", x.out(d, i), y.out(d, i));
                due(call + ": term", x.term(d, i, 0), y.term(d, i, 0));
                due(call + ": arc", x.arc(d, 0, i, 1), y.arc(d, 0, i, 1));
            }
        }
        for (int i = -1; i < 4; i++) {
            due(call + ": row", x.row(i), y.row(i));
            due(call + ": sign", x.sign(4 * i + 3), y.sign(4 * i + 3));
        }
        due(call + ": fault", x.fault(), y.fault());
        for (int w = 0; w < 4; w++) {
            due(call + ": next", x.next(w), y.next(w));
        }
        x.forget();
        y.forget();
        due(call + ": the last term of the OPEN one", give(x, "m").add(2, 1), ORDER);
        due(call + ": what it takes", give(x, "m" + sign(0)).add(2, 1), give(y, "m" + sign(0)).add(2, 1));
    }

    private void dueRefused(String call, int answer, ToLongFunction<TermMachine> refused) {
        TermMachine x = busy();
        due(call, refused.applyAsLong(x), answer);
        dueAlike(call, x, busy());
    }

    private void refusedChangesNothing() {
        sentence("What is refused changes nothing (but COLLECTED).");
        dueRefused("collect", BAD, x -> x.collect(0, 9));
        dueRefused("begin", BAD, x -> x.begin(4));
        dueRefused("add", BAD, x -> give(x, "z").add(2, -1));
        dueRefused("add to a DONE one", OPEN, x -> give(x, "z").add(1, 1));
        dueRefused("add too much", LONG, x -> give(x, "zzzzzzzzzzzzz").add(2, 1));
        dueRefused("add below", ORDER, x -> give(x, "a").add(2, 1));
        dueRefused("done", OPEN, x -> x.done(1));
        dueRefused("done", BAD, x -> x.done(-1));
        dueRefused("prefix", OPEN, x -> x.prefix(2));
        dueRefused("prefix", BAD, x -> x.prefix(4));
        dueRefused("cheapest", OPEN, x -> x.cheapest(2, 1));
        dueRefused("cheapest", BAD, x -> x.cheapest(1, 0));
        dueRefused("meet", BAD, x -> x.meet(1, 5));
        dueRefused("meet in an OPEN one", OPEN, x -> give(x, "a").meet(2, 1));
        dueRefused("meet a long one", LONG, x -> give(x, THIRTEEN).meet(1, 2));
        dueRefused("meet a long pattern", LONG, x -> give(x, "aaaaaaaaaaaaaaaaaaaaaaaaa").meet(1, 1));
        dueRefused("meet a FAULT again", SHAPE, x -> give(x, "*").meet(1, 1));
        dueRefused("join", BAD, x -> x.join(1, 1, 3, 4));
        dueRefused("join an OPEN one", OPEN, x -> x.join(1, 2, 3, 0));
        dueRefused("packed", OPEN, x -> x.packed(2));
        dueRefused("packed", BAD, x -> x.packed(4));
        dueRefused("load", SHAPE, x -> give(x, 84, 77, 0, 1, 0).load(1));
        dueRefused("load of what breaks late", SHAPE, x -> give(x, 84, 77, 0, 2, 0, 1, 97, 1, 0, 1, 0, 1).load(2));
        dueRefused("load", BAD, x -> give(x, 84, 77, 0, 1, 0, 0).load(4));
        dueRefused("walk", OPEN, x -> x.walk(0, 2, true));
        dueRefused("walk", BAD, x -> x.walk(0, 4, true));
        dueRefused("find", OPEN, x -> x.find(2));
        dueRefused("find", NONE, x -> give(x, "zz").find(1));
        joinsRefused();
    }

    private void joinsRefused() {
        TermMachine x = withFan(150);
        fan(x, 1, 100, 101);
        build(x, 2, "a", MOST_OUT);
        x.walk(0, 1, false);
        due("join", x.join(0, 1, 1, 0), FULL);
        due("terms", x.count(1, 0), 101);
        due("the last of them", x.out(1, 100), 200);
        due("states", x.count(1, 2), 2);
        due("its walk", x.next(0), 0);
        due("join", x.join(2, 2, 2, 1), LONG);
        dueTerms("join", x, 2, "a", MOST_OUT);
    }

    /** Each term begins with eight signs whose RESTS are its own; those of the last four are shared. */
    private void lastOf512Calls() {
        sentence("An object is used for at most 512 calls after it has been made");
        TermMachine x = new TermMachine();
        x.begin(0);
        for (int i = 0; i < 170; i++) {
            x.collect(0x0102030405060700L + i, 8);
            x.collect(0x0102030400L + i, 4);
            x.add(0, i);
        }
        due("call 512", x.done(0), 1 + 170 * 8 + 4);
    }
}
