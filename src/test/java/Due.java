/** Counts and prints the answers that are not as due; a test ends with end(). */
final class Due {
    static final int LOW = -1000000000;
    static final int BEYOND = LOW - 1;
    static final int NONE = LOW - 2;
    static final int STATE = LOW - 3;
    static final int FULL = LOW - 4;
    static final int KIND = LOW - 5;

    private final String test;
    private String sentence = "";
    private int asked;
    private int wrong;

    Due(String test) {
        this.test = test;
    }

    /** The sentence of the document that the answers from here on are asked for. */
    void says(String words) {
        sentence = " [" + words + "]";
    }

    void is(String call, int got, int want) {
        asked++;
        if (got != want) {
            wrong++;
            if (wrong <= 40) {
                System.out.println(test + sentence + ": " + call + " answered " + got + ", due is " + want);
            }
        }
    }

    void that(String what, boolean holds) {
        is(what, holds ? 1 : 0, 1);
    }

    int wrongs() {
        return wrong;
    }

    /** Feeds a whole text to THE TAPE; what the last feed() answered. */
    static int feed(HandOverHorse x, String text) {
        int answer = 0;
        for (int at = 0; at < text.length(); at += 8) {
            int n = Math.min(8, text.length() - at);
            long word = 0;
            for (int i = n - 1; i >= 0; i--) {
                word = word << 8 | text.charAt(at + i) & 255L;
            }
            answer = x.feed(word, n);
        }
        return answer;
    }

    /** Feeds a text and makes it that of a USE. */
    static int read(HandOverHorse x, int use, String text) {
        feed(x, text);
        return x.text(use);
    }

    void end() {
        System.out.println(test + ": " + asked + " answers, " + wrong + " not as due");
        if (wrong != 0) {
            System.exit(1);
        }
    }
}
