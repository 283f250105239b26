/** A test for each sentence about WORDS THAT ACCEPT and promises 17 to 19 that names a boundary case. */
public final class BoundaryWordsTest extends Bench {
    private static final String TWELVE = "abcdefghijkl";
    private static final String THIRTEEN = "abcdefghijklm";
    private static final String SPECIAL = "()*+.?[\\]|";
    // All 256 signs are tried in blocks, so that an object has no more than its 512 calls.
    private static final int BLOCK = 32;

    public static void main(String[] args) {
        new BoundaryWordsTest().run();
    }

    private void run() {
        wildOf24();
        wildAnyRow();
        wildOne();
        wildOthers();
        patternOf24();
        emptySequences();
        oneRepeat();
        howOften();
        anySign();
        fourBrackets();
        oneOrMoreInSet();
        rangeOfOne();
        rangeOfAll();
        escapedSigns();
        plainSigns();
        signsOfSets();
        notIsFirst();
        rangeSign();
        escapedInRange();
        fromEndToEnd();
        nearOf12();
        nearBy();
        nearNothing();
        nearSwaps();
        faultOfSign();
        faultOfRange();
        faultOfBracket();
        faultOfSet();
        faultOfLength();
        meetBad();
        meetLong();
        meetShape();
        meetRow();
        faultBefore();
        faultOfLatest();
        rowNone();
        end("BoundaryWordsTest");
    }

    private static String many(String part, int times) {
        return part.repeat(times);
    }

    private void wildOf24() {
        sentence("0 WILD: up to 24 signs");
        TermMachine x = withWords("", "aaaaaaaaaaaa");
        dueRow("none", x, x.meet(0, 0), 0);
        dueRow("24", x, give(x, many("*", 24)).meet(0, 0), 0, 1);
        dueRow("24, by turns", x, give(x, many("a*", 12)).meet(0, 0), 1);
        dueRow("24, too many signs", x, give(x, many("?", 24)).meet(0, 0));
        due("25", give(x, many("*", 25)).meet(0, 0), LONG);
        due("4000", giveMuch(x, 500).meet(0, 0), LONG);
    }

    private static TermMachine giveMuch(TermMachine x, int eights) {
        for (int i = 0; i < eights; i++) {
            x.collect(0, 8);
        }
        return x;
    }

    private void wildAnyRow() {
        sentence("42 (*) stands for any row of signs");
        TermMachine x = withWords("", sign(0), "a", "aaaaaaaaaaaa", "ab", "ba", sign(255));
        dueRow("none and twelve", x, give(x, "*").meet(0, 0), 0, 1, 2, 3, 4, 5, 6);
        dueRow("behind", x, give(x, "a*").meet(0, 0), 2, 3, 4);
        dueRow("ahead", x, give(x, "*a").meet(0, 0), 2, 3, 5);
        dueRow("between", x, give(x, "a*a").meet(0, 0), 3);
        dueRow("at both ends", x, give(x, "*b*").meet(0, 0), 4, 5);
    }

    private void wildOne() {
        sentence("63 (?) for one");
        TermMachine x = withWords("", sign(0), "?", "aa", sign(255));
        dueRow("one", x, give(x, "?").meet(0, 0), 1, 2, 4);
        dueRow("two", x, give(x, "??").meet(0, 0), 3);
        dueRow("three", x, give(x, "???").meet(0, 0));
        words(x, 0, "aaaaaaaaaaa", "aaaaaaaaaaaa");
        dueRow("twelve", x, give(x, many("?", 12)).meet(0, 0), 1);
        dueRow("thirteen", x, give(x, many("?", 13)).meet(0, 0));
    }

    private void wildOthers() {
        sentence("others for themselves");
        for (int from = 0; from < 256; from += BLOCK) {
            TermMachine x = new TermMachine();
            fan(x, 0, from, BLOCK);
            for (int sign = from; sign < from + BLOCK; sign++) {
                if (sign != '*' && sign != '?') {
                    dueRow("wild " + sign, x, give(x, sign).meet(0, 0), sign - from);
                }
            }
        }
    }

    private void patternOf24() {
        sentence("1 a PATTERN of up to 24 signs");
        TermMachine x = withWords("", "aaaaaaaaaaaa", "b");
        duePattern(x, "", 0);
        duePattern(x, many("a?", 12), 0, 1);
        duePattern(x, many("a+", 12), 1);
        duePattern(x, many("a", 24));
        duePattern(x, many("|", 23) + "b", 0, 2);
        duePattern(x, "[" + many("b", 22) + "]", 2);
        due("25", give(x, many("|", 25)).meet(0, 1), LONG);
        due("4000", giveMuch(x, 400).meet(0, 1), LONG);
    }

    private void emptySequences() {
        sentence("a SEQUENCE: any number of PIECES (also none)");
        TermMachine x = withWords("", "a", "ab", "b");
        duePattern(x, "", 0);
        duePattern(x, "|", 0);
        duePattern(x, "||", 0);
        duePattern(x, "a|", 0, 1);
        duePattern(x, "|a", 0, 1);
        duePattern(x, "a||b", 0, 1, 3);
        duePattern(x, "()", 0);
        duePattern(x, "(|)", 0);
        duePattern(x, "()*", 0);
        duePattern(x, "()+", 0);
        duePattern(x, "()?", 0);
        duePattern(x, "a()b", 2);
        duePattern(x, "a(|b)", 1, 2);
        duePattern(x, "(a|)(b|)", 0, 1, 2, 3);
    }

    private void oneRepeat() {
        sentence("a PIECE: an ATOM, and perhaps one of 42 (any number of it), 43 (+, one or more), 63 (none or one) behind it");
        TermMachine x = withWords("a", "aa");
        String[] repeats = {"*", "+", "?"};
        for (String first : repeats) {
            for (String second : repeats) {
                dueFault(x, "a" + first + second, 2);
                dueFault(x, "(a" + first + ")" + second + first, 5);
            }
            dueFault(x, first, 0);
            dueFault(x, "|" + first, 1);
            dueFault(x, "(" + first + ")", 1);
            dueFault(x, "a|" + first, 2);
        }
        duePattern(x, "(a?)+", 0, 1);
        duePattern(x, "((a+)*)?", 0, 1);
    }

    private void howOften() {
        sentence("42 (any number of it), 43 (+, one or more), 63 (none or one)");
        TermMachine x = withWords("", "a", "aa", "aaaaaaaaaaaa", "aab", "b");
        duePattern(x, "a*", 0, 1, 2, 3);
        duePattern(x, "a+", 1, 2, 3);
        duePattern(x, "a?", 0, 1);
        duePattern(x, "a*b", 4, 5);
        duePattern(x, "a+b", 4);
        duePattern(x, "a?b", 5);
        duePattern(x, "(aa)*b?", 0, 2, 3, 4, 5);
    }

    private void anySign() {
        sentence("an ATOM: 46 (.) any sign");
        TermMachine x = withWords("", sign(0), "..", "a", sign(255), sign(255) + sign(0));
        duePattern(x, ".", 1, 3, 4);
        duePattern(x, "..", 2, 5);
        duePattern(x, ".*", 0, 1, 2, 3, 4, 5);
    }

    private void fourBrackets() {
        sentence("40 ALT 41 (brackets), four within one another at most");
        TermMachine x = withWords("", "a", "aa", "aaa", "aaaa", "aaaaa");
        duePattern(x, "((((a))))", 1);
        duePattern(x, "(a(a(a(a))))", 4);
        duePattern(x, "((((a)*)+)?)", 0, 1, 2, 3, 4, 5);
        duePattern(x, "((((a))))((((a))))", 2);
        duePattern(x, "(a)(a)(a)(a)(a)", 5);
        dueFault(x, "(((((a)))))", 4);
    }

    private void oneOrMoreInSet() {
        sentence("perhaps 94 (^: none of these), then one or more of: a sign, or sign 45 sign");
        TermMachine x = withWords("", "^", "a", "b", "c", "d");
        duePattern(x, "[a]", 2);
        duePattern(x, "[ab]", 2, 3);
        duePattern(x, "[aa]", 2);
        duePattern(x, "[a-bd]", 2, 3, 5);
        duePattern(x, "[da-b]", 2, 3, 5);
        duePattern(x, "[^a]", 1, 3, 4, 5);
        duePattern(x, "[^a-c]", 1, 5);
        duePattern(x, "[^a-d^]");
        dueFault(x, "[]", 1);
        dueFault(x, "[^]", 2);
    }

    private void rangeOfOne() {
        sentence("(a range, the second one not below the first)");
        for (int from = 0; from < 256; from += BLOCK) {
            TermMachine x = new TermMachine();
            fan(x, 0, from, BLOCK);
            for (int sign = from; sign < from + BLOCK; sign++) {
                if (sign < '\\' || sign > '^') {
                    duePattern(x, "[" + sign(sign) + "-" + sign(sign) + "]", sign - from);
                }
            }
        }
        TermMachine x = withWords("a", "b");
        duePattern(x, "[a-b]", 0, 1);
        dueFault(x, "[b-a]", 3);
        dueFault(x, "[" + sign(1) + "-" + sign(0) + "]", 3);
        dueFault(x, "[" + sign(255) + "-" + sign(254) + "]", 3);
        dueFault(x, "[" + sign(128) + "-" + sign(127) + "]", 3);
        duePattern(x, "[" + sign(127) + "-" + sign(128) + "]");
    }

    private void rangeOfAll() {
        sentence("sign 45 sign (a range");
        TermMachine x = withWords("", sign(0), "-", "a", sign(127), sign(128), sign(255));
        duePattern(x, "[" + sign(0) + "-" + sign(255) + "]", 1, 2, 3, 4, 5, 6);
        duePattern(x, "[^" + sign(0) + "-" + sign(255) + "]");
        duePattern(x, "[^" + sign(0) + "-" + sign(255) + "]*", 0);
        duePattern(x, "[^" + sign(1) + "-" + sign(254) + "]", 1, 6);
        duePattern(x, "[" + sign(128) + "-" + sign(255) + "]", 5, 6);
        duePattern(x, "[" + sign(0) + "-" + sign(127) + "]", 1, 2, 3, 4);
    }

    private void escapedSigns() {
        sentence("92 (\\) and any sign: that sign (also within a SET)");
        for (int from = 0; from < 256; from += BLOCK) {
            TermMachine x = new TermMachine();
            TermMachine y = new TermMachine();
            fan(x, 0, from, BLOCK);
            fan(y, 0, from, BLOCK);
            for (int sign = from; sign < from + BLOCK; sign++) {
                duePattern(x, "\\" + sign(sign), sign - from);
                duePattern(y, "[\\" + sign(sign) + "]", sign - from);
            }
        }
        TermMachine x = withWords("a", "aa");
        duePattern(x, "\\a+", 0, 1);
        dueFault(x, "\\", 1);
        dueFault(x, "a\\", 2);
        dueFault(x, "[\\", 2);
    }

    private void plainSigns() {
        sentence("a sign that is none of 40 41 42 43 46 63 91 92 93 124");
        for (int from = 0; from < 256; from += BLOCK) {
            TermMachine x = new TermMachine();
            fan(x, 0, from, BLOCK);
            for (int sign = from; sign < from + BLOCK; sign++) {
                if (SPECIAL.indexOf(sign) < 0) {
                    duePattern(x, sign(sign), sign - from);
                }
            }
        }
        TermMachine x = withWords("(", "-", "]");
        int[] signs = {'(', ')', '*', '+', '?', '[', '\\', ']'};
        int[] places = {1, 0, 0, 0, 0, 1, 1, 0};
        for (int i = 0; i < signs.length; i++) {
            dueFault(x, sign(signs[i]), places[i]);
        }
        duePattern(x, ".", 0, 1, 2);
        duePattern(x, "|");
        duePattern(x, "-", 1);
    }

    private void signsOfSets() {
        sentence("In a SET all signs but 93 and 92 stand for themselves, 94 if it is not the first one.");
        for (int from = 0; from < 256; from += BLOCK) {
            TermMachine x = new TermMachine();
            TermMachine y = new TermMachine();
            fan(x, 0, from, BLOCK);
            fan(y, 0, from, BLOCK);
            String outside = sign(from == 0 ? 255 : 1);
            for (int sign = from; sign < from + BLOCK; sign++) {
                if (sign != ']' && sign != '\\') {
                    duePattern(x, "[" + outside + sign(sign) + "]", sign - from);
                }
                if (sign < '\\' || sign > '^') {
                    duePattern(y, "[" + sign(sign) + "]", sign - from);
                }
            }
        }
        TermMachine x = withWords("\\", "]", "^", "a");
        dueFault(x, "[a]]", 3);
        dueFault(x, "[a\\]", 4);
        duePattern(x, "[a\\]]", 1, 3);
        duePattern(x, "[a\\\\]", 0, 3);
    }

    private void notIsFirst() {
        sentence("94 if it is not the first one");
        TermMachine x = withWords("-", "]", "^", "a");
        duePattern(x, "[a^]", 2, 3);
        duePattern(x, "[^^]", 0, 1, 3);
        duePattern(x, "[^a^]", 0, 1);
        duePattern(x, "[\\^]", 2);
        duePattern(x, "[\\^a]", 2, 3);
        duePattern(x, "[\\]-^]", 1, 2);
        duePattern(x, "^", 2);
        duePattern(x, "(^)a?", 2);
    }

    private void rangeSign() {
        sentence("45 behind a sign that ends no range makes one with what is behind it, if that is not 93; else it is itself.");
        TermMachine x = withWords("+", ",", "-", ".", "/", "a", "b", "c", "d");
        duePattern(x, "[-]", 2);
        duePattern(x, "[--]", 2);
        duePattern(x, "[---]", 2);
        duePattern(x, "[----]", 2);
        duePattern(x, "[-a]", 2, 5);
        duePattern(x, "[a-]", 2, 5);
        duePattern(x, "[a-c]", 5, 6, 7);
        duePattern(x, "[a-b-d]", 2, 5, 6, 8);
        duePattern(x, "[a-b-]", 2, 5, 6);
        duePattern(x, "[a-b--/]", 2, 3, 4, 5, 6);
        duePattern(x, "[+--]", 0, 1, 2);
        duePattern(x, "[--/]", 2, 3, 4);
        duePattern(x, "[+---/]", 0, 1, 2, 4);
        duePattern(x, "[^-]", 0, 1, 3, 4, 5, 6, 7, 8);
        duePattern(x, "[^-a]", 0, 1, 3, 4, 6, 7, 8);
        duePattern(x, "[a\\-c]", 2, 5, 7);
        duePattern(x, "[\\--/]", 2, 3, 4);
        duePattern(x, "-", 2);
        dueFault(x, "[a--]", 3);
        dueFault(x, "[a-", 3);
        dueFault(x, "[a--", 3);
        dueFault(x, "[-", 2);
    }

    private void escapedInRange() {
        sentence("The second sign of a range may have 92 ahead of it, too.");
        for (int from = 0; from < 256; from += BLOCK) {
            TermMachine x = new TermMachine();
            fan(x, 0, from, BLOCK);
            for (int sign = from; sign < from + BLOCK; sign++) {
                duePattern(x, "[\\" + sign(sign) + "-\\" + sign(sign) + "]", sign - from);
            }
        }
        TermMachine x = withWords("[", "\\", "]", "^", "a", "b");
        duePattern(x, "[[-\\]]", 0, 1, 2);
        duePattern(x, "[[-\\\\]", 0, 1);
        duePattern(x, "[\\]-b]", 2, 3, 4, 5);
        duePattern(x, "[a-\\b]", 4, 5);
        dueFault(x, "[a-\\]]", 4);
        dueFault(x, "[a-\\", 4);
    }

    private void fromEndToEnd() {
        sentence("It accepts rows that are as it says, from end to end.");
        TermMachine x = withWords("", "a", "ab", "abc", "b", "bc", "c");
        duePattern(x, "b", 4);
        duePattern(x, "ab", 2);
        duePattern(x, "bc", 5);
        duePattern(x, "a|bc", 1, 5);
        duePattern(x, "a?b", 2, 4);
    }

    private void nearOf12() {
        sentence("2, 3, 4: a WORD of up to 12 signs");
        TermMachine x = withWords("", "abcdefghijk", TWELVE, "abcdefghijlk");
        dueRow("twelve by 0", x, give(x, TWELVE).meet(0, 2), 2);
        dueRow("twelve by 1", x, give(x, TWELVE).meet(0, 3), 1, 2, 3);
        dueRow("twelve by 2", x, give(x, TWELVE).meet(0, 4), 1, 2, 3);
        for (int kind = 2; kind <= 4; kind++) {
            dueRow("none", x, x.meet(0, kind), 0);
            due("thirteen", give(x, THIRTEEN).meet(0, kind), LONG);
            due("twenty-four", give(x, many("a", 24)).meet(0, kind), LONG);
        }
        due("thousands", giveMuch(x, 400).meet(0, 4), LONG);
    }

    private void nearBy() {
        sentence("NEAR by 0, 1, 2: a TERM is accepted, if as many steps at most lead from the WORD to it");
        TermMachine x = withWords("ab", "abc", "abcd", "abcde", "abcdef", "abxd", "axxd", "xbcd", "xxxd");
        dueRow("by 0", x, give(x, "abcd").meet(0, 2), 2);
        dueRow("by 1", x, give(x, "abcd").meet(0, 3), 1, 2, 3, 5, 7);
        dueRow("by 2", x, give(x, "abcd").meet(0, 4), 0, 1, 2, 3, 4, 5, 6, 7);
        words(x, 0, sign(0), sign(0) + sign(255), sign(255), sign(255) + sign(0));
        dueRow("the ends of signs by 0", x, give(x, 0, 255).meet(0, 2), 1);
        dueRow("the ends of signs by 1", x, give(x, 0, 255).meet(0, 3), 0, 1, 2, 3);
    }

    private void nearNothing() {
        sentence("each of which puts a sign in, takes one out, changes one");
        TermMachine x = withWords("", "a", "ab", "abc", "b");
        dueRow("nothing by 0", x, x.meet(0, 2), 0);
        dueRow("nothing by 1", x, x.meet(0, 3), 0, 1, 4);
        dueRow("nothing by 2", x, x.meet(0, 4), 0, 1, 2, 4);
        dueRow("one by 1", x, give(x, "a").meet(0, 3), 0, 1, 2, 4);
        dueRow("two by 2", x, give(x, "xy").meet(0, 4), 0, 1, 2, 4);
        dueRow("three by 2", x, give(x, "xyz").meet(0, 4));
        words(x, 0, "aaaaaaaaaa", "aaaaaaaaaaa", "aaaaaaaaaaaa");
        dueRow("twelve by 2", x, give(x, many("a", 12)).meet(0, 4), 0, 1, 2);
        dueRow("ten by 1", x, give(x, many("a", 10)).meet(0, 3), 0, 1);
    }

    private void nearSwaps() {
        sentence("or changes two neighbours with one another (between which nothing else is put in, and which no other step touches)");
        TermMachine x = withWords("ab", "abc", "acb", "ba", "bac", "bca", "cab");
        dueRow("neighbours", x, give(x, "ab").meet(0, 3), 0, 1, 2, 3, 6);
        dueRow("those of three", x, give(x, "abc").meet(0, 3), 0, 1, 2, 4);
        words(x, 0, "abc");
        dueRow("one put in between", x, give(x, "ca").meet(0, 4));
        words(x, 0, "ca");
        dueRow("no neighbours in the word", x, give(x, "abc").meet(0, 4));
        words(x, 0, "acb");
        dueRow("one that is touched again", x, give(x, "bac").meet(0, 3));
        dueRow("which two steps reach otherwise", x, give(x, "bac").meet(0, 4), 0);
        words(x, 0, "badc");
        dueRow("two pairs by 1", x, give(x, "abcd").meet(0, 3));
        dueRow("two pairs by 2", x, give(x, "abcd").meet(0, 4), 0);
        words(x, 0, "badcfe");
        dueRow("three pairs by 2", x, give(x, "abcdef").meet(0, 4));
        words(x, 0, "cba");
        dueRow("no neighbours by 1", x, give(x, "abc").meet(0, 3));
        dueRow("the first two", x, give(x, "bca").meet(0, 3), 0);
        words(x, 0, "abcdefghijlk");
        dueRow("the last two of twelve", x, give(x, TWELVE).meet(0, 3), 0);
        dueRow("not by 0", x, give(x, TWELVE).meet(0, 2));
    }

    private void faultOfSign() {
        sentence("A FAULT is the first sign that cannot be there, from 0 on");
        TermMachine x = withWords("a");
        dueFault(x, ")", 0);
        dueFault(x, "*", 0);
        dueFault(x, "+", 0);
        dueFault(x, "?", 0);
        dueFault(x, "]", 0);
        dueFault(x, "a)", 1);
        dueFault(x, "()))", 2);
        dueFault(x, "a]]", 1);
        dueFault(x, "(a]", 2);
        dueFault(x, "[a]*]", 4);
        dueFault(x, "[a]**", 4);
        dueFault(x, ".+*", 2);
        dueFault(x, "\\**+", 3);
        dueFault(x, many("a", 23) + ")", 23);
        dueFault(x, many("a", 22) + "**", 23);
        dueFault(x, many("a", 23) + "]", 23);
    }

    private void faultOfRange() {
        sentence("(of a range that falls its second sign");
        TermMachine x = withWords("a");
        dueFault(x, "[b-a]", 3);
        dueFault(x, "[^b-a]", 4);
        dueFault(x, "[xb-a]", 4);
        dueFault(x, "[b-\\a]", 4);
        dueFault(x, "[\\b-a]", 4);
        dueFault(x, "[\\b-\\a]", 5);
        dueFault(x, "[a-cb-a]", 6);
        dueFault(x, "[b-a", 3);
        dueFault(x, "[a-^]", 3);
        dueFault(x, "[a-[]", 3);
        dueFault(x, many("a", 19) + "[b-a]", 22);
    }

    private void faultOfBracket() {
        sentence("a fifth 40 within four");
        TermMachine x = withWords("a");
        dueFault(x, "(((((", 4);
        dueFault(x, "(((((a)))))", 4);
        dueFault(x, "(a(a(a(a(", 8);
        dueFault(x, "((((a)(((", 7);
        dueFault(x, "((((a))))(((((", 13);
        duePattern(x, "((((a)()())))", 0);
        duePattern(x, "((((\\(*))))a", 0);
        duePattern(x, "((((a[(]?))))", 0);
    }

    private void faultOfSet() {
        sentence("93 right behind 91, or 91 94)");
        TermMachine x = withWords("]", "^", "a");
        dueFault(x, "[]", 1);
        dueFault(x, "[]]", 1);
        dueFault(x, "[]a]", 1);
        dueFault(x, "[^]", 2);
        dueFault(x, "[^]]", 2);
        dueFault(x, "a[^]a]", 3);
        duePattern(x, "[\\]]", 0);
        duePattern(x, "[^\\]]", 1, 2);
    }

    private void faultOfLength() {
        sentence("the length, if it ends too early");
        TermMachine x = withWords("a");
        String[] early = {"(", "((", "(a", "(a|", "()(", "((((", "[", "[^", "[a", "[a-", "[a-b", "[\\", "[\\]", "[^^", "[-", "\\", "(\\"};
        for (String pattern : early) {
            dueFault(x, pattern, pattern.length());
        }
        dueFault(x, many("a", 23) + "(", 24);
        dueFault(x, many("a", 23) + "[", 24);
        dueFault(x, many("a", 23) + "\\", 24);
        dueFault(x, "[" + many("a", 23), 24);
        dueFault(x, "[" + many("a-", 11) + "a", 24);
        dueFault(x, "(" + many("a", 23), 24);
    }

    private void meetBad() {
        sentence("TERMS that a WORD of a KIND accepts come into the ROW, in order: how many. BAD; OPEN");
        TermMachine x = withWords("a");
        int[] wrong = {-1, 5, 6, Integer.MIN_VALUE, Integer.MAX_VALUE};
        for (int kind : wrong) {
            due("kind " + kind, x.meet(0, kind), BAD);
        }
        for (int kind = 0; kind < 5; kind++) {
            due("kind " + kind, give(x, "a").meet(0, kind), 1);
            for (int d : NO_DICTIONARIES) {
                due("no dictionary", x.meet(d, kind), BAD);
            }
        }
        x.begin(1);
        for (int kind = 0; kind < 5; kind++) {
            due("an OPEN one", give(x, many("a", 25)).meet(1, kind), OPEN);
        }
        due("refused ones leave the row", x.row(0), 0);
    }

    private void meetLong() {
        sentence("LONG: the WORD");
        int[] most = {24, 24, 12, 12, 12};
        TermMachine x = withWords("b");
        give(x, "b").prefix(0);
        for (int kind = 0; kind < 5; kind++) {
            due("one too many, kind " + kind, give(x, many("a", most[kind] + 1)).meet(0, kind), LONG);
            due("it leaves the row", x.row(0), 0);
        }
        for (int kind = 0; kind < 5; kind++) {
            due("the most, kind " + kind, give(x, many("a", most[kind])).meet(0, kind), 0);
            due("it makes the row anew", x.row(0), NONE);
        }
        due("a long one with a FAULT", give(x, many("(", 25)).meet(0, 1), LONG);
        due("which has none", x.fault(), NONE);
    }

    private void meetShape() {
        sentence("SHAPE: a FAULT.");
        TermMachine x = withWords("(", "a");
        x.prefix(0);
        dueFault(x, "(", 1);
        due("it leaves the row", x.row(1), 1);
        due("it used up what was COLLECTED", x.forget(), 0);
        int[] others = {0, 2, 3};
        for (int kind : others) {
            due("no FAULT of kind " + kind, give(x, "(").meet(0, kind), kind == 3 ? 2 : 1);
        }
        dueFault(new TermMachine(), ")", 0);
    }

    private void meetRow() {
        sentence("TERMS that a WORD of a KIND accepts come into the ROW, in order: how many.");
        TermMachine x = withFan(200);
        due("wild", give(x, "*").meet(0, 0), 200);
        due("its last one", x.row(199), 199);
        due("pattern", give(x, ".").meet(0, 1), 200);
        due("its last one", x.row(199), 199);
        due("near by 0", give(x, 199).meet(0, 2), 1);
        due("its only one", x.row(0), 199);
        due("behind it", x.row(1), NONE);
        due("near by 1", x.meet(0, 3), 200);
        due("its last one", x.row(199), 199);
        due("near by 2", give(x, 0, 1).meet(0, 4), 200);
        due("behind its last one", x.row(200), NONE);
        for (int kind = 0; kind < 5; kind++) {
            dueRow("without terms", x, give(x, ".").meet(1, kind));
        }
    }

    private void faultBefore() {
        sentence("NONE: it had none, or before.");
        TermMachine x = new TermMachine();
        due("before", x.fault(), NONE);
        give(x, "(").meet(0, 0);
        give(x, "(").meet(0, 2);
        due("before one of KIND 1", x.fault(), NONE);
        due("a right one", give(x, "()").meet(0, 1), 0);
        due("it had none", x.fault(), NONE);
        dueFault(x, "(", 1);
        due("an empty one", x.meet(0, 1), 0);
        due("it had none", x.fault(), NONE);
    }

    private void faultOfLatest() {
        sentence("The place of the FAULT of the latest meet() of KIND 1");
        TermMachine x = withWords("a");
        dueFault(x, "(", 1);
        dueFault(x, ")", 0);
        dueFault(x, "((", 2);
        int[] others = {0, 2, 3, 4};
        for (int kind : others) {
            give(x, "a").meet(0, kind);
            due("kind " + kind + " has no FAULT", x.fault(), 2);
        }
        x.prefix(0);
        x.begin(1);
        due("OPEN", give(x, ")").meet(1, 1), OPEN);
        due("what is refused changes nothing", x.fault(), 2);
        due("LONG", give(x, many("a", 25)).meet(0, 1), LONG);
        due("what is refused changes nothing", x.fault(), 2);
        due("BAD", x.meet(4, 1), BAD);
        due("what is refused changes nothing", x.fault(), 2);
        due("and asking leaves it", x.fault(), 2);
    }

    private void rowNone() {
        sentence("Number i of the ROW; NONE.");
        TermMachine x = withWords("a", "b", "c");
        int[] none = {-1, 0, 1, 199, 200, Integer.MAX_VALUE, Integer.MIN_VALUE};
        for (int i : none) {
            due("before, row " + i, x.row(i), NONE);
        }
        dueRow("three", x, x.prefix(0), 0, 1, 2);
        due("far behind", x.row(Integer.MAX_VALUE), NONE);
        due("far ahead", x.row(Integer.MIN_VALUE), NONE);
        dueRow("a shorter one", x, give(x, "b").prefix(0), 1);
        dueRow("an empty one", x, give(x, "d").meet(0, 2));
        dueRow("a cheapest one", x, x.cheapest(0, 2), 0, 1);
        x.begin(0);
        due("it outlives its dictionary", x.row(1), 1);
    }
}
