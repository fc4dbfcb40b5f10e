/** Counts the answers of a test that are not the ones that are due. */
final class Due {
    private final String test;
    private int calls;
    private int wrong;

    Due(String test) {
        this.test = test;
    }

    void is(String call, long got, long want) {
        calls++;
        if (got != want) {
            wrong++;
            System.out.println(test + ": " + call + " answered " + got + ", due is " + want);
        }
    }

    void is(String call, boolean got, boolean want) {
        is(call, got ? 1 : 0, want ? 1 : 0);
    }

    /** Puts a text on the tape, byte by byte as its characters are. */
    static void feed(LentPictures x, String text) {
        int[] words = new int[5];
        for (int at = 0; at < text.length(); at += 20) {
            for (int i = 0; i < 20; i++) {
                int c = at + i < text.length() ? text.charAt(at + i) : ' ';
                words[i / 4] = words[i / 4] << 8 | c & 255;
            }
            x.feed(words[0], words[1], words[2], words[3], words[4]);
        }
        x.back((20 - text.length() % 20) % 20);
    }

    static int tell(LentPictures x, String text) {
        feed(x, text);
        return x.read();
    }

    static LentPictures told(String text) {
        LentPictures x = new LentPictures();
        int fault = tell(x, text);
        if (fault != 0) {
            throw new IllegalStateException("fault " + fault + " at " + x.place() + " of: " + text);
        }
        return x;
    }

    void end() {
        System.out.println(test + ": " + calls + " answers, " + wrong + " not as due");
        if (wrong != 0) {
            System.exit(1);
        }
    }
}
