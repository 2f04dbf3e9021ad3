import java.util.Random;

/** Whatever is asked in whatever state: no call throws, and none takes long. */
public final class NeverThrowsTest {
    private static final int[] EDGES = {Integer.MIN_VALUE, Integer.MIN_VALUE + 1, -100000, -31, -2, -1, 0, 1, 2, 3, 5, 6, 9, 10, 11, 15, 16, 19, 20,
        31, 32, 60, 99, 400, 999, 1000, 9999, Integer.MAX_VALUE - 1, Integer.MAX_VALUE};

    private final Random r;
    private final DeerDays x = new DeerDays();

    private NeverThrowsTest(int seed) {
        r = new Random(seed);
    }

    public static void main(String[] args) {
        int calls = 0;
        for (int run = 0; run < 600; run++) {
            NeverThrowsTest test = new NeverThrowsTest(run);
            for (int i = 0; i < 512; i++) {
                test.call(test.r.nextInt(36), run % 2 == 0);
                calls++;
            }
        }
        System.out.println("none of " + calls + " calls threw");
    }

    private int any(boolean edges) {
        return edges || r.nextInt(4) == 0 ? EDGES[r.nextInt(EDGES.length)] : r.nextInt(13) - 1;
    }

    private void call(int which, boolean edges) {
        int a = any(edges);
        int b = any(edges);
        int c = any(edges);
        switch (which) {
            case 0 -> x.state(a);
            case 1, 2 -> x.deer(a, b);
            case 3 -> x.set(a, b, c);
            case 4 -> x.eat(a, r.nextBoolean());
            case 5 -> x.days(a);
            case 6 -> x.waitFor(a);
            case 7 -> x.feed(r.nextInt(), r.nextInt(), r.nextInt(), r.nextInt(), r.nextInt());
            case 8 -> x.end(a);
            case 9, 10 -> told();
            case 11 -> x.fault(a);
            case 12 -> x.of(a, b);
            case 13 -> x.due(a, b);
            case 14 -> x.book(a, b);
            case 15 -> x.next(a, b);
            case 16 -> x.likeliest();
            case 17 -> x.goes(a, b);
            case 18 -> x.reads(a);
            case 19 -> x.seen(a, b);
            case 20 -> x.orders(a);
            case 21 -> x.moves(a);
            case 22 -> x.work(a);
            case 23 -> x.works(a);
            case 24 -> x.gate(a, b);
            case 25 -> x.watch(a);
            case 26 -> x.ate(a, b);
            case 27 -> x.ways(a);
            case 28 -> x.vote(a);
            case 29 -> x.votes(a);
            case 30 -> x.salts(a, b);
            case 31 -> x.nods(a, b);
            case 32 -> x.game(a);
            case 33 -> x.undo();
            case 34 -> x.image(r.nextBoolean());
            default -> x.look(a);
        }
    }

    /** Tokens in any order, close enough to a text to go deep into it. */
    private void told() {
        String[] bits = {"come ", "long ", "shy ", "when ", "or ", "and ", "not ", "deer ", "calm ", "1", "0", "9999", "12345", ";", "+", "-", "*", "/",
            "(", ")", "<", "=", ">", "on ", "salt ", "eat ", "due ", "after ", "feast ", "for ", " ", "when 1=1 ", "come 1 when ", "on 1 gate;", "not 1=1;"};
        StringBuilder s = new StringBuilder();
        int most = r.nextInt(60);
        for (int i = 0; i < most; i++) {
            s.append(bits[r.nextInt(bits.length)]);
        }
        String whole = "come calm - since * 3 when not (mark = 1 or calm > 2) and salt < 9;due 1 on 0;";
        String text = r.nextBoolean() ? whole.substring(0, r.nextInt(whole.length())) + s : s.toString();
        x.end(0);
        int[] w = Check.words(text.substring(0, Math.min(400, text.length())));
        for (int i = 0; i < w.length; i += 5) {
            x.feed(w[i], w[i + 1], w[i + 2], w[i + 3], w[i + 4]);
        }
        x.text(any(false));
    }
}
