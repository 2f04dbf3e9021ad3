import java.nio.charset.StandardCharsets;

/** What every test here shares: counting wrong answers, telling a text through feed() and end(), and choosing a DRAW. */
final class Check {
    private static final int FACTOR = 1664525;
    private static final int ADDED = 1013904223;

    private static int wrong = 0;
    private static int asked = 0;
    private static String about = "";

    private Check() { }

    /** What the answers that follow are about, told ahead of each wrong one. */
    static void about(String words) {
        about = words;
    }

    static int asked() {
        return asked;
    }

    static void due(String what, long got, long want) {
        asked++;
        if (got != want) {
            wrong++;
            if (wrong <= 50) {
                System.out.println(about + what + " answered " + got + ", due is " + want);
            }
        }
    }

    static void due(String what, boolean got, boolean want) {
        due(what, got ? 1 : 0, want ? 1 : 0);
    }

    static void finish() {
        System.out.println(wrong == 0 ? "all " + asked + " answers are as due" : wrong + " of " + asked + " answers are not as due");
        if (wrong != 0) {
            System.exit(1);
        }
    }

    // ---- texts

    static int[] words(String text) {
        byte[] bytes = text.getBytes(StandardCharsets.ISO_8859_1);
        int[] words = new int[(bytes.length + 19) / 20 * 5];
        for (int i = 0; i < words.length * 4; i++) {
            int b = i < bytes.length ? bytes[i] & 255 : 32;
            words[i / 4] = words[i / 4] << 8 | b;
        }
        return words;
    }

    /** The text comes behind what stands on the TAPE. */
    static void feed(DeerDays x, int had, String text) {
        int[] w = words(text);
        for (int i = 0; i < w.length; i += 5) {
            due("feed", x.feed(w[i], w[i + 1], w[i + 2], w[i + 3], w[i + 4]), had + (i / 5 + 1) * 20);
        }
        due("end", x.end(had + text.length()), true);
    }

    static int text(DeerDays x, int k, String text) {
        feed(x, 0, text);
        return x.text(k);
    }

    static void told(DeerDays x, int k, String text, int lines) {
        due("text " + k + " [" + text + "]", text(x, k, text), lines);
    }

    static void faulty(DeerDays x, int k, String text, int fault, int place) {
        told(x, k, text, DeerDays.NONE);
        due("fault of [" + text + "]", x.fault(0), fault);
        due("place of [" + text + "]", x.fault(1), place);
    }

    // ---- deer

    static DeerDays herd(int... marksAndCalms) {
        DeerDays x = new DeerDays();
        for (int i = 0; i < marksAndCalms.length; i += 2) {
            due("deer", x.deer(marksAndCalms[i], marksAndCalms[i + 1]), i / 2);
        }
        return x;
    }

    /** From then on one DEER alone comes, if it is ALIVE. */
    static void onlyComes(DeerDays x, int deer) {
        told(x, 0, "come 1 when deer = " + deer + "; come 0;", 2);
    }

    // ---- draws

    static int stateBehind(int state) {
        return state * FACTOR + ADDED;
    }

    /** The STATE from which the next one is this: the factor is odd, so it can be gone back from by its inverse. */
    static int stateAheadOf(int next) {
        int inverse = FACTOR;
        for (int i = 0; i < 5; i++) {
            inverse *= 2 - FACTOR * inverse;
        }
        return (next - ADDED) * inverse;
    }

    /** A STATE that draws, as the first DRAW of m, the wanted number. */
    static int stateThatDraws(int m, int wanted) {
        return stateAheadOf(wanted << 8);
    }

    /** A STATE whose first DRAW, of m, and whose second one, of n, are as wanted. */
    static int stateThatDraws(int m, int wanted, int n, int wantedThen) {
        for (int top = wanted; top < 1 << 24; top += m) {
            for (int low = 0; low < 256; low++) {
                int first = top << 8 | low;
                if ((stateBehind(first) >>> 8) % n == wantedThen) {
                    return stateAheadOf(first);
                }
            }
        }
        throw new AssertionError("no STATE draws " + wanted + " of " + m + ", then " + wantedThen + " of " + n);
    }
}
