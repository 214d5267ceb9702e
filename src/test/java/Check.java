import java.nio.charset.StandardCharsets;

/** What the tests have in common: answers that are due are counted and told, and texts come onto the tape. */
final class Check {
    private int wrong;
    private int asked;

    void due(String call, long got, long want) {
        asked++;
        if (got != want) {
            wrong++;
            if (wrong <= 40) {
                System.out.println(call + " answered " + got + ", due is " + want);
            }
        }
    }

    void due(String call, boolean got, boolean want) {
        due(call, got ? 1 : 0, want ? 1 : 0);
    }

    void finish() {
        System.out.println(asked + " answers, " + wrong + " not as due");
        if (wrong > 0) {
            System.exit(1);
        }
    }

    /** Puts a text of bytes 0 .. 255 behind what the tape has; false if it does not fit. */
    static boolean put(SandGlasses x, String text) {
        byte[] bytes = text.getBytes(StandardCharsets.ISO_8859_1);
        for (int from = 0; from < bytes.length; from += 20) {
            int[] five = new int[5];
            for (int i = 0; i < 20; i++) {
                int b = from + i < bytes.length ? bytes[from + i] & 255 : ' ';
                five[i / 4] = five[i / 4] << 8 | b;
            }
            int had = x.feed(five[0], five[1], five[2], five[3], five[4]);
            if (had == SandGlasses.NONE) {
                return false;
            }
            if (from + 20 > bytes.length) {
                x.end(had - (from + 20 - bytes.length));
            }
        }
        return true;
    }

    static int tell(SandGlasses x, int sort, int at, String text) {
        x.end(0);
        put(x, text);
        return x.text(sort, at);
    }
}
