import java.nio.charset.StandardCharsets;

/** What the tests share: answers compared and counted, and texts written. */
final class Check {
    private final String name;
    private int compared = 0;
    private int wrong = 0;

    Check(String name) {
        this.name = name;
    }

    void due(String call, long got, long want) {
        compared++;
        if (got != want) {
            wrong++;
            System.out.println(name + ": " + call + " answered " + got + ", due is " + want);
        }
    }

    boolean hasFailed() {
        return wrong != 0;
    }

    /** Ends the test: with exit code 1, if an answer was not as due. */
    void end() {
        System.out.println(name + ": " + compared + " answers, " + wrong + " not as due");
        if (wrong != 0) {
            System.exit(1);
        }
    }

    /** Writes a text behind what is there, as many bytes a call as can be. */
    static void write(OddLetsIn x, String text) {
        byte[] bytes = text.getBytes(StandardCharsets.ISO_8859_1);
        for (int i = 0; i < bytes.length; i += 8) {
            int n = Math.min(8, bytes.length - i);
            long v = 0;
            for (int j = 0; j < n; j++) {
                v = v << 8 | bytes[i + j] & 255;
            }
            x.write(n, v);
        }
    }

    static OddLetsIn laid(String text) {
        OddLetsIn x = new OddLetsIn();
        write(x, text);
        x.lay();
        return x;
    }
}
