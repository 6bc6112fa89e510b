/** Holds answers against those that are due. */
final class Due {
    private final String name;
    private int asked;
    private int wrong;

    Due(String name) {
        this.name = name;
    }

    void is(String call, long got, long want) {
        asked++;
        if (got != want) {
            wrong++;
            System.out.println(name + ": " + call + " answered " + got + ", due is " + want);
        }
    }

    void that(String what, boolean holds) {
        is(what, holds ? 1 : 0, 1);
    }

    int wrong() {
        return wrong;
    }

    void finish() {
        System.out.println(name + ": " + asked + " answers, " + wrong + " not as due");
        if (wrong != 0 || asked == 0) {
            System.exit(1);
        }
    }

    static void feed(MayBeRead x, String text) {
        for (int from = 0; from < text.length(); from += 8) {
            int n = Math.min(8, text.length() - from);
            x.feed(n, bytes(text.substring(from, from + n)));
        }
    }

    static long bytes(String text) {
        long bytes = 0;
        for (int i = 0; i < text.length(); i++) {
            bytes |= (long) text.charAt(i) << 8 * i;
        }
        return bytes;
    }

    /** What read() answers of a text. */
    static int read(MayBeRead x, String text) {
        feed(x, text);
        return x.read();
    }

    /** A new object with a sentence. */
    static MayBeRead of(String sentence) {
        MayBeRead x = new MayBeRead();
        if (read(x, sentence) != sentence.length()) {
            throw new IllegalStateException("no sentence: " + sentence);
        }
        return x;
    }

    static String sentence(MayBeRead x) {
        StringBuilder text = new StringBuilder();
        for (int i = 0; x.wordAt(i) != -9; i++) {
            text.append((char) x.wordAt(i));
        }
        return text.toString();
    }
}
