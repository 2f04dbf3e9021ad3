import java.util.Random;

/** Runs of calls by chance, the same ones each time, answered by the class and by the Model alike. */
public final class AgainstModelTest {
    private static final String[] FACTS = {"deer", "mark", "calm", "since", "came", "salt", "noise", "gate", "season", "today"};

    private final Random r;
    private final DeerDays x = new DeerDays();
    private final Model m = new Model();
    private final int deerMost;
    private final int run;
    private int calls = 0;

    private AgainstModelTest(int run) {
        this.run = run;
        r = new Random(run);
        deerMost = run % 10 == 0 ? 10 : 1 + r.nextInt(6);
    }

    public static void main(String[] args) {
        int runs = args.length > 0 ? Integer.parseInt(args[0]) : 1500;
        for (int run = 1; run <= runs; run++) {
            new AgainstModelTest(run).go();
        }
        Check.finish();
    }

    private void go() {
        int deer = r.nextInt(deerMost + 1);
        for (int i = 0; i < deer; i++) {
            newDeer();
        }
        while (calls < 480) {
            step(r.nextInt(100));
        }
    }

    private void due(String call, long got, long want) {
        calls++;
        Check.due("run " + run + " call " + calls + " " + call, got, want);
    }

    private void due(String call, boolean got, boolean want) {
        due(call, got ? 1 : 0, want ? 1 : 0);
    }

    /** Mostly from 0 to most, now and then just outside, or anywhere. */
    private int some(int most) {
        int kind = r.nextInt(20);
        if (kind == 0) return -1;
        if (kind == 1) return most + 1;
        if (kind == 2) return r.nextInt(8) == 0 ? r.nextInt() : -r.nextInt(5);
        return r.nextInt(most + 1);
    }

    private int someDeer() {
        return some(Math.max(0, m.h.deer.size() - 1));
    }

    private void newDeer() {
        int mark = some(5);
        int calm = some(9);
        if (m.h.deer.size() < deerMost || deerMost == 10) {
            due("deer " + mark + " " + calm, x.deer(mark, calm), m.deer(mark, calm));
        }
    }

    private void step(int kind) {
        if (kind < 3) state();
        else if (kind < 5) newDeer();
        else if (kind < 10) set();
        else if (kind < 14) eat();
        else if (kind < 22) days();
        else if (kind < 24) waitFor();
        else if (kind < 32) text();
        else if (kind < 34) tape();
        else if (kind < 50) look();
        else if (kind < 56) likely();
        else if (kind < 66) told();
        else if (kind < 88) thought();
        else if (kind < 94) due("undo", x.undo(), m.undo());
        else if (kind < 97) image();
        else lookAtAll();
    }

    private void state() {
        int v = r.nextInt();
        due("state", x.state(v), m.state(v));
    }

    private void set() {
        int[] most = {99, 99, 1, 1000, 1000, 5, 9, 999, 999};
        int what = some(8);
        int v = some(what >= 0 && what <= 8 ? most[what] : 9);
        if (what == 8 && r.nextInt(3) > 0) v = r.nextInt(9);
        if ((what == 3 || what == 4) && r.nextInt(2) > 0) v = r.nextInt(3) == 0 ? 0 : r.nextInt(300);
        int who = someDeer();
        due("set " + what + " " + who + " " + v, x.set(what, who, v), m.set(what, who, v));
    }

    private void eat() {
        int who = someDeer();
        boolean is = r.nextInt(5) < 2;
        due("eat " + who + " " + is, x.eat(who, is), m.eat(who, is));
    }

    private void days() {
        int n = r.nextInt(3) == 0 ? some(60) : 1 + r.nextInt(4);
        due("days " + n, x.days(n), m.days(n));
        int day = 1 + m.h.day - 1;
        due("DAY", x.look(1), day);
    }

    private void waitFor() {
        int who = someDeer();
        due("waitFor " + who, x.waitFor(who), m.waitFor(who));
    }

    private void image() {
        boolean taken = r.nextBoolean();
        due("image " + taken, x.image(taken), m.image(taken));
    }

    private void tape() {
        if (r.nextBoolean()) {
            int a = r.nextInt();
            due("feed", x.feed(a, ~a, a * 3, 0x6f6e2031, 7), m.feed(a, ~a, a * 3, 0x6f6e2031, 7));
        } else {
            int n = some(m.tape.length());
            due("end " + n, x.end(n), m.end(n));
        }
    }

    private void look() {
        int what = some(20);
        due("look " + what, x.look(what), m.look(what));
        int who = someDeer();
        int of = some(7);
        due("of " + who + " " + of, x.of(who, of), m.of(who, of));
        int line = some(Math.max(0, m.h.book.size() - 1));
        int which = some(3);
        due("book " + line + " " + which, x.book(line, which), m.book(line, which));
        int i = some(Math.max(0, m.t.dues.size() - 1));
        due("due " + i + " " + which, x.due(i, which), m.due(i, which));
        due("fault", x.fault(which), m.fault(which));
    }

    private void lookAtAll() {
        for (int what = 0; what <= 20; what++) due("look " + what, x.look(what), m.look(what));
        for (int i = 0; i < m.h.deer.size(); i++) {
            for (int what = 1; what <= 7; what++) due("of " + i + " " + what, x.of(i, what), m.of(i, what));
        }
    }

    private void likely() {
        int who = someDeer();
        int n = r.nextInt(3) == 0 ? 0 : some(60);
        due("next " + who + " " + n, x.next(who, n), m.next(who, n));
        due("likeliest", x.likeliest(), m.likeliest());
    }

    private void told() {
        int a = some(9);
        int b = r.nextInt(10);
        if (a == -1 && r.nextInt(4) > 0) a = 0;
        switch (r.nextInt(5)) {
            case 0 -> {
                int d = someDeer();
                int e = someDeer();
                if (d == -1 && r.nextInt(3) > 0) d = 0;
                if (d > e && e >= 0 && r.nextInt(4) > 0) { int swap = d; d = e; e = swap; }
                due("seen " + d + " " + e, x.seen(d, e), m.seen(d, e));
            }
            case 1 -> {
                int hours = r.nextInt(5) == 0 ? some(24) : 1 + r.nextInt(8);
                due("work " + hours, x.work(hours), m.work(hours));
            }
            case 2 -> due("gate " + a + " " + b, x.gate(a, b), m.gate(a, b));
            case 3 -> {
                int poacher = some(r.nextBoolean() ? 6 : 3);
                if (poacher == -1 && r.nextInt(4) > 0) poacher = 0;
                int d = someDeer();
                due("ate " + poacher + " " + d, x.ate(poacher, d), m.ate(poacher, d));
            }
            default -> {
                int hour = some(24);
                due("vote " + hour, x.vote(hour), m.vote(hour));
            }
        }
    }

    private int part() {
        int kind = r.nextInt(6);
        return kind == 0 ? some(9) : kind < 3 ? r.nextInt(3) : 10 + some(9);
    }

    private void thought() {
        int what = part();
        int n = r.nextInt(9) == 0 ? some(99) : 1 + r.nextInt(20);
        switch (r.nextInt(11)) {
            case 0, 1 -> {
                int of = some(3);
                due("goes " + n + " " + of, x.goes(n, of), m.goes(n, of));
            }
            case 2 -> {
                int due = some(Math.max(0, m.t.dues.size() - 1));
                due("reads " + due, x.reads(due), m.reads(due));
            }
            case 3 -> {
                if (m.h.deer.size() <= 7) {
                    due("orders " + what, x.orders(what), m.orders(what));
                    due("orders 1", x.orders(1), m.orders(1));
                    due("orders 2", x.orders(2), m.orders(2));
                }
            }
            case 4 -> due("moves " + what, x.moves(what), m.moves(what));
            case 5 -> {
                if (what == 2 && m.t.works.size() > 6) what = 1;
                due("works " + what, x.works(what), m.works(what));
                due("works 0", x.works(0), m.works(0));
            }
            case 6 -> due("watch " + what % 3, x.watch(what % 3), m.watch(what % 3));
            case 7 -> due("ways " + what % 3, x.ways(what % 3), m.ways(what % 3));
            case 8 -> due("votes " + what % 3, x.votes(what % 3), m.votes(what % 3));
            case 9 -> {
                int s = m.h.deer.size() > 4 ? some(7) : some(20);
                due("salts " + s + " " + what, x.salts(s, what), m.salts(s, what));
            }
            default -> {
                int a = some(5);
                int b = some(5);
                due("nods " + a + " " + b, x.nods(a, b), m.nods(a, b));
                due("game " + what % 3, x.game(what % 3), m.game(what % 3));
            }
        }
    }

    // ---- texts by chance

    private void text() {
        int k = r.nextInt(4);
        StringBuilder s = new StringBuilder();
        int lines = r.nextInt(12) == 0 ? 17 : r.nextInt(10) == 0 ? 9 : r.nextInt(6);
        for (int i = 0; i < lines; i++) {
            String line = k == 0 ? lawLine(lines) : k == 1 ? planLine() : k == 2 ? dueLine() : "feast" + gap() + some(30) % 100 + gap() + "for" + gap() + Math.min(9, Math.abs(some(9))) + ";";
            if (s.length() + line.length() <= 380) s.append(line);
        }
        if (r.nextInt(4) == 0) spoil(s);
        if (r.nextInt(30) == 0) k = some(4);
        while (s.length() > 400) s.setLength(s.length() - 1);
        m.end(0);
        calls += 40;
        x.end(0);
        int[] w = Check.words(s.toString());
        for (int i = 0; i < w.length; i += 5) {
            due("feed", x.feed(w[i], w[i + 1], w[i + 2], w[i + 3], w[i + 4]), m.feed(w[i], w[i + 1], w[i + 2], w[i + 3], w[i + 4]));
        }
        due("end", x.end(s.length()), m.end(s.length()));
        due("text " + k + " [" + s + "]", x.text(k), m.text(k));
        due("fault 0 of [" + s + "]", x.fault(0), m.fault(0));
        due("fault 1 of [" + s + "]", x.fault(1), m.fault(1));
    }

    private String gap() {
        return r.nextInt(3) == 0 ? "\n" : r.nextInt(3) == 0 ? "" : " ";
    }

    private String planLine() {
        String s = "on" + gap() + (m.h.day + r.nextInt(8)) % 1003 + gap();
        String d = gap() + r.nextInt(m.h.deer.size() + (r.nextInt(9) == 0 ? 2 : 1));
        switch (r.nextInt(5)) {
            case 0: return s + "salt" + gap() + r.nextInt(101) + ";";
            case 1: return s + "noise" + gap() + r.nextInt(101) + ";";
            case 2: return s + "gate" + gap() + ";";
            case 3: return s + "eat" + d + ";";
            default: return s + "free" + d + ";";
        }
    }

    private String dueLine() {
        int who = r.nextInt(m.h.deer.size() + (r.nextInt(9) == 0 ? 2 : 1));
        if (who == m.h.deer.size() && r.nextInt(3) > 0) who = 0;
        String s = "due" + gap() + r.nextInt(1001) + gap() + "on" + gap() + who;
        return s + (r.nextBoolean() ? "after" + gap() + (m.h.day + r.nextInt(6)) % 1002 : "") + gap() + ";";
    }

    private String lawLine(int lines) {
        String[] words = {"come", "long", "shy"};
        String s = words[r.nextInt(3)] + " " + expression(lines > 6 ? 0 : 2);
        return s + (r.nextBoolean() ? " when " + condition(lines > 6 ? 0 : 3) : "") + ";";
    }

    private String expression(int more) {
        StringBuilder s = new StringBuilder(operand());
        for (int i = r.nextInt(more + 1); i > 0; i--) {
            switch (r.nextInt(4)) {
                case 0 -> s.append("+").append(operand());
                case 1 -> s.append(" - ").append(operand());
                case 2 -> s.append("*").append(operand());
                default -> s.append("/").append(r.nextInt(40) == 0 ? 0 : 1 + r.nextInt(9));
            }
        }
        return s.toString();
    }

    private String operand() {
        if (r.nextInt(3) == 0) return String.valueOf(r.nextInt(4) == 0 ? r.nextInt(10500) : r.nextInt(13));
        return FACTS[r.nextInt(FACTS.length)];
    }

    private String condition(int deep) {
        String sign = "<=>".charAt(r.nextInt(3)) + "";
        if (deep == 0) return expression(0) + sign + expression(0);
        switch (r.nextInt(7)) {
            case 0: return condition(deep - 1) + " and " + condition(deep - 1);
            case 1: return condition(deep - 1) + " or " + condition(deep - 1);
            case 2: return "not " + condition(deep - 1);
            case 3: return "(" + condition(deep - 1) + ")";
            case 4: return r.nextInt(3) == 0 ? deeply() : "not(" + condition(deep - 1) + ")";
            default: return expression(1) + sign + expression(1);
        }
    }

    private String deeply() {
        StringBuilder s = new StringBuilder();
        StringBuilder close = new StringBuilder();
        int depth = 5 + r.nextInt(5);
        for (int i = 0; i < depth; i++) {
            if (r.nextBoolean()) {
                s.append("not ");
            } else {
                s.append(r.nextInt(3) == 0 ? "(1=1 or 0=0 and " : "(");
                close.append(")");
            }
        }
        return s + "calm=3" + close;
    }

    private void spoil(StringBuilder s) {
        String[] bits = {";", "+", "-", "*", "/", "(", ")", "<", "=", ">", "on", "due", "feast", "for", "after", "come", "long", "when",
            "or", "and", "not", "deer", "0", "12345", "999", "1000", "100", "x", "Come", "\t", "\u00e9", "\0", "?", " ", "\n"};
        int at = r.nextInt(s.length() + 1);
        int kind = r.nextInt(4);
        if (kind == 0) s.setLength(at);
        else if (kind == 1 && at < s.length()) s.deleteCharAt(at);
        else if (kind == 2 && at < s.length()) s.replace(at, at + 1, bits[r.nextInt(bits.length)]);
        else s.insert(at, bits[r.nextInt(bits.length)]);
    }
}
