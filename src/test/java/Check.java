import java.nio.charset.StandardCharsets;

/** What every test here shares: counting wrong answers, and telling a text through feed() and end(). */
final class Check {
    private static int wrong = 0;
    private static int asked = 0;

    private Check() { }

    static void due(String what, long got, long want) {
        asked++;
        if (got != want) {
            wrong++;
            if (wrong <= 50) {
                System.out.println(what + " answered " + got + ", due is " + want);
            }
        }
    }

    static void due(String what, boolean got, boolean want) {
        due(what, got ? 1 : 0, want ? 1 : 0);
    }

    static void finish() {
        System.out.println(wrong == 0 ? "all " + asked + " answers are as due" : wrong + " of " + asked + " answers are not as due");
        if (wrong != 0) {
            System.exit(1);
        }
    }

    static int[] words(String text) {
        byte[] bytes = text.getBytes(StandardCharsets.ISO_8859_1);
        int[] words = new int[(bytes.length + 19) / 20 * 5];
        for (int i = 0; i < words.length * 4; i++) {
            int b = i < bytes.length ? bytes[i] & 255 : 32;
            words[i / 4] = words[i / 4] << 8 | b;
        }
        return words;
    }

    /** The text comes behind what stands on the TAPE. */
    static void feed(DeerDays x, int had, String text) {
        int[] w = words(text);
        for (int i = 0; i < w.length; i += 5) {
            due("feed", x.feed(w[i], w[i + 1], w[i + 2], w[i + 3], w[i + 4]), had + (i / 5 + 1) * 20);
        }
        due("end", x.end(had + text.length()), true);
    }

    static int text(DeerDays x, int k, String text) {
        feed(x, 0, text);
        return x.text(k);
    }
}
