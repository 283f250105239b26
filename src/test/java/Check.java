import java.nio.charset.StandardCharsets;

/** Counts the answers that are not as due, and puts words into machines. */
class Check {
    private String sentence = "";
    private int wrong;
    private int asked;

    /** The document's words that the next answers are due by. */
    void sentence(String words) {
        sentence = "\"" + words + "\": ";
    }

    void due(String call, long got, long want) {
        asked++;
        if (got != want) {
            wrong++;
            System.out.println(sentence + call + " answered " + got + ", due is " + want);
        }
    }

    void end(String name) {
        System.out.println(name + ": " + asked + " answers, " + wrong + " not as due");
        if (wrong != 0) {
            System.exit(1);
        }
    }

    static TermMachine give(TermMachine x, String word) {
        return give(x, word.getBytes(StandardCharsets.ISO_8859_1));
    }

    static TermMachine give(TermMachine x, byte[] word) {
        for (int from = 0; from < word.length; from += 8) {
            int n = Math.min(8, word.length - from);
            long w = 0;
            for (int i = 0; i < n; i++) {
                w |= (word[from + i] & 255L) << (8 * i);
            }
            if (x.collect(w, n) < 0) {
                throw new IllegalStateException("not collected");
            }
        }
        return x;
    }

    static TermMachine give(TermMachine x, int... word) {
        byte[] bytes = new byte[word.length];
        for (int i = 0; i < word.length; i++) {
            bytes[i] = (byte) word[i];
        }
        return give(x, bytes);
    }
}
