import java.util.ArrayDeque;
import java.util.ArrayList;
import java.util.Arrays;
import java.util.HashMap;
import java.util.List;
import java.util.Map;

/**
 * The document once more, told as plainly as can be and with other means than the class: trees with exceptions for
 * the texts, whole copies for undo and image, every way tried one by one in thought. It is slow, and meant to be.
 */
final class Model {
    static final int NONE = -1;
    static final String[][] WORDS = {
        {"come", "long", "shy", "when", "or", "and", "not", "deer", "mark", "calm", "since", "came", "salt", "noise",
            "gate", "season", "today"},
        {"on", "salt", "noise", "gate", "eat", "free"},
        {"due", "on", "after"},
        {"feast", "for"},
    };

    interface Num { int of(Map<String, Integer> facts); }
    interface Cond { boolean of(Map<String, Integer> facts); }
    record LawLine(String word, Num e, Cond b) { }
    record PlanLine(int day, String act, int v) { }
    record Due(int n, int deer, int day) { }
    record Feast(int day, int reach) { }
    record Token(String text, int kind, int place) { } // kind 0 end, 1 word, 2 number, 3 sign, 4 none

    static final class Fault extends RuntimeException {
        final int kind;
        final int place;
        Fault(int kind, int place) { super(null, null, false, false); this.kind = kind; this.place = place; }
    }

    static final class Deer implements Cloneable {
        int mark, calm, since, came;
        boolean alive = true;
        Deer copy() { try { return (Deer) clone(); } catch (CloneNotSupportedException e) { throw new AssertionError(e); } }
    }

    /** What a day changes. */
    static final class Herd {
        List<Deer> deer = new ArrayList<>();
        int salt, noise, gate, wolves, mist, today = NONE, coin, hours, day, state;
        boolean[] paid = new boolean[16];
        List<int[]> book = new ArrayList<>();

        Herd copy() {
            Herd h = new Herd();
            for (Deer d : deer) h.deer.add(d.copy());
            h.salt = salt; h.noise = noise; h.gate = gate; h.wolves = wolves; h.mist = mist; h.today = today;
            h.coin = coin; h.hours = hours; h.day = day; h.state = state;
            h.paid = paid.clone();
            h.book = new ArrayList<>(book);
            return h;
        }
    }

    /** What is told beside. */
    static final class Told {
        List<LawLine> law = List.of();
        List<PlanLine> plan = List.of();
        List<Due> dues = List.of();
        List<Feast> feasts = List.of();
        List<int[]> seen = new ArrayList<>(), paths = new ArrayList<>(), ate = new ArrayList<>();
        List<Integer> works = new ArrayList<>(), votes = new ArrayList<>();

        Told copy() {
            Told t = new Told();
            t.law = law; t.plan = plan; t.dues = dues; t.feasts = feasts;
            t.seen = new ArrayList<>(seen); t.paths = new ArrayList<>(paths); t.ate = new ArrayList<>(ate);
            t.works = new ArrayList<>(works); t.votes = new ArrayList<>(votes);
            return t;
        }
    }

    Herd h = new Herd();
    Told t = new Told();
    Herd imageHerd;
    Told imageTold;
    final ArrayDeque<Herd> undos = new ArrayDeque<>();
    StringBuilder tape = new StringBuilder();
    int fault = 0;
    int place = NONE;

    // ---- telling

    int state(int v) { int was = h.state; h.state = v; undos.clear(); return was; }

    int deer(int mark, int calm) {
        if (mark < 0 || mark > 5 || calm < 0 || calm > 9 || h.deer.size() == 10) return NONE;
        Deer d = new Deer();
        d.mark = mark;
        d.calm = calm;
        h.deer.add(d);
        undos.clear();
        return h.deer.size() - 1;
    }

    boolean is(int deer) { return deer >= 0 && deer < h.deer.size(); }

    boolean set(int what, int who, int v) {
        int[] most = {99, 99, 1, 1000, 1000, 5, 9, 999, 999};
        if (what < 0 || what > 8 || v < 0 || v > most[what] || what > 4 && !is(who)) return false;
        if (what == 0) h.salt = v;
        if (what == 1) h.noise = v;
        if (what == 2) h.gate = v;
        if (what == 3) h.wolves = v;
        if (what == 4) h.mist = v;
        if (what == 5) h.deer.get(who).mark = v;
        if (what == 6) h.deer.get(who).calm = v;
        if (what == 7) h.deer.get(who).since = v;
        if (what == 8) h.deer.get(who).came = v;
        undos.clear();
        return true;
    }

    void act() {
        undos.addLast(h.copy());
        if (undos.size() > 6) undos.removeFirst();
    }

    boolean eat(int deer, boolean is) {
        if (!is(deer) || h.deer.get(deer).alive != is) return false;
        act();
        h.deer.get(deer).alive = !is;
        write(h, is ? 3 : 5, deer, 0);
        return true;
    }

    static void write(Herd h, int what, int which, int many) {
        if (h.book.size() < 150) h.book.add(new int[] {h.day, what, which, many});
    }

    // ---- days

    static int draw(Herd h, int m) {
        h.state = 1664525 * h.state + 1013904223;
        return (int) ((h.state & 0xffffffffL) >> 8) % m;
    }

    static Map<String, Integer> facts(Herd h, int i) {
        Deer d = h.deer.get(i);
        Map<String, Integer> f = new HashMap<>();
        f.put("deer", i); f.put("mark", d.mark); f.put("calm", d.calm); f.put("since", d.since); f.put("came", d.came);
        f.put("salt", h.salt); f.put("noise", h.noise); f.put("gate", h.gate); f.put("season", h.day / 30 % 12);
        f.put("today", h.today == i ? 1 : 0);
        return f;
    }

    int tells(String word, Map<String, Integer> f) {
        Integer v = null;
        for (LawLine line : t.law) {
            if (v == null && line.word.equals(word) && (line.b == null || line.b.of(f))) v = line.e.of(f);
        }
        if (v == null) {
            v = word.equals("come") ? f.get("since") + 1 : word.equals("long") ? 6 + f.get("calm") : f.get("noise") / 9;
        }
        int most = word.equals("come") ? 999 : word.equals("long") ? 24 : 9;
        return v < 0 ? 0 : v > most ? most : v;
    }

    int tells(String word, Herd herd, int i) { return tells(word, facts(herd, i)); }

    int likeliest(Herd herd) {
        int best = NONE;
        int greatest = -1;
        for (int i = 0; i < herd.deer.size(); i++) {
            if (herd.deer.get(i).alive && tells("come", herd, i) > greatest) {
                greatest = tells("come", herd, i);
                best = i;
            }
        }
        return best;
    }

    int sum(Herd herd) {
        int sum = 0;
        for (int i = 0; i < herd.deer.size(); i++) if (herd.deer.get(i).alive) sum += tells("come", herd, i);
        return sum;
    }

    void planned(Herd h) {
        for (PlanLine line : t.plan) {
            if (line.day != h.day) continue;
            switch (line.act) {
                case "salt" -> h.salt = line.v;
                case "noise" -> h.noise = line.v;
                case "gate" -> h.gate = h.gate == 0 ? 1 : 0;
                case "eat" -> {
                    if (h.deer.get(line.v).alive) { h.deer.get(line.v).alive = false; write(h, 3, line.v, 0); }
                }
                default -> {
                    if (!h.deer.get(line.v).alive) { h.deer.get(line.v).alive = true; write(h, 5, line.v, 0); }
                }
            }
        }
    }

    int comes(Herd h) {
        if (h.mist > 0 && draw(h, 1000) < h.mist) return NONE;
        if (sum(h) == 0) return NONE;
        int drawn = draw(h, sum(h));
        int upTo = 0;
        for (int i = 0; i < h.deer.size(); i++) {
            if (!h.deer.get(i).alive) continue;
            upTo += tells("come", h, i);
            if (upTo > drawn) return i;
        }
        throw new AssertionError();
    }

    boolean day(Herd h, boolean thought) {
        planned(h);
        int who = thought ? (sum(h) == 0 ? NONE : likeliest(h)) : comes(h);
        int hours = who == NONE ? 5 : tells("long", h, who);
        int shy = who == NONE ? 0 : tells("shy", h, who);
        h.today = who;
        h.hours += hours;
        write(h, who == NONE ? 1 : 0, who, hours);
        for (int i = 0; i < h.deer.size(); i++) {
            Deer d = h.deer.get(i);
            if (i == who) {
                d.since = 0;
                d.came++;
                d.calm = Math.max(0, d.calm - shy);
            } else if (d.alive && d.since < 999) {
                d.since++;
            }
        }
        for (int i = 0; i < t.dues.size(); i++) {
            Due due = t.dues.get(i);
            if (!h.paid[i] && who != NONE && due.deer == who && (due.day == NONE || h.day > due.day)) {
                h.paid[i] = true;
                h.coin -= due.n;
                write(h, 2, i, due.n);
            }
        }
        if (!thought) wolves(h);
        if (h.salt > 0) h.salt--;
        if (h.noise > 0) h.noise--;
        h.day++;
        return who == NONE;
    }

    static void wolves(Herd h) {
        int prey = NONE;
        for (int i = 0; i < h.deer.size(); i++) {
            Deer d = h.deer.get(i);
            if (d.alive && (prey == NONE || d.calm < h.deer.get(prey).calm)) prey = i;
        }
        if (h.wolves > 0 && prey != NONE && draw(h, 1000) < h.wolves) {
            h.deer.get(prey).alive = false;
            write(h, 4, prey, 0);
        }
    }

    int days(int n) {
        if (n < 1 || n > 60 || h.day + n > 9999) return NONE;
        int mists = 0;
        for (int i = 0; i < n; i++) {
            act();
            if (day(h, false)) mists++;
        }
        return mists;
    }

    int waitFor(int deer) {
        if (!is(deer) || h.day + 30 > 9999) return NONE - 1;
        for (int i = 1; i <= 30; i++) {
            act();
            day(h, false);
            if (h.today == deer) return i;
        }
        return NONE;
    }

    // ---- texts

    int feed(int... numbers) {
        if (tape.length() + 20 > 400) return NONE;
        for (int n : numbers) {
            tape.append((char) (n >>> 24)).append((char) (n >>> 16 & 255)).append((char) (n >>> 8 & 255)).append((char) (n & 255));
        }
        return tape.length();
    }

    boolean end(int n) {
        if (n < 0 || n > tape.length()) return false;
        tape.setLength(n);
        return true;
    }

    int text(int k) {
        String s = tape.toString();
        tape.setLength(0);
        fault = 0;
        place = NONE;
        if (k < 0 || k > 3) return NONE;
        try {
            Parse p = new Parse(tokens(s, k), h.deer.size());
            if (k == 0) return (t.law = p.law()).size();
            if (k == 3) return (t.feasts = p.feasts()).size();
            if (k == 1) {
                t.plan = p.plan();
                undos.clear();
                return t.plan.size();
            }
            t.dues = p.dues();
            h.paid = new boolean[16];
            undos.clear();
            return t.dues.size();
        } catch (Fault f) {
            fault = f.kind;
            place = f.place;
            return NONE;
        }
    }

    static List<Token> tokens(String s, int k) {
        List<Token> list = new ArrayList<>();
        java.util.regex.Matcher m = java.util.regex.Pattern.compile("([a-zA-Z]+)|([0-9]+)|([ \n]+)|(.)", java.util.regex.Pattern.DOTALL).matcher(s);
        while (m.find()) {
            String w = m.group();
            if (m.group(3) != null) continue;
            int kind = 4;
            if (m.group(1) != null && Arrays.asList(WORDS[k]).contains(w)) kind = 1;
            if (m.group(2) != null && w.length() <= 4) kind = 2;
            if (m.group(4) != null && ";+-*/()<=>".contains(w)) kind = 3;
            list.add(new Token(w, kind, m.start()));
        }
        list.add(new Token("", 0, s.length()));
        return list;
    }

    static final class Parse {
        final List<Token> tokens;
        final int deer;
        int at = 0;
        int open = 0;
        Parse(List<Token> tokens, int deer) { this.tokens = tokens; this.deer = deer; }

        Token now() { return tokens.get(at); }
        boolean is(String w) { return (now().kind == 1 || now().kind == 3) && now().text.equals(w); }
        Fault fault(int kind) { return new Fault(kind, now().place); }
        boolean took(String w) { if (is(w)) { at++; return true; } return false; }
        void take(String w) { if (!took(w)) throw fault(1); }
        boolean more() { return now().kind != 0; }
        void room(int lines, int most) { if (lines >= most) throw fault(3); }

        int number(int least, int most) {
            if (now().kind != 2) throw fault(1);
            int v = Integer.parseInt(now().text);
            if (v < least || v > most) throw fault(2);
            at++;
            return v;
        }

        List<LawLine> law() {
            List<LawLine> lines = new ArrayList<>();
            while (more()) {
                String word = now().text;
                if (!is("come") && !is("long") && !is("shy")) throw fault(1);
                room(lines.size(), 16);
                at++;
                Num e = e();
                Cond b = null;
                if (took("when")) b = b();
                take(";");
                lines.add(new LawLine(word, e, b));
            }
            return lines;
        }

        Cond b() {
            Cond x = a();
            while (took("or")) {
                Cond l = x;
                Cond r = a();
                x = f -> l.of(f) || r.of(f);
            }
            return x;
        }

        Cond a() {
            Cond x = c();
            while (took("and")) {
                Cond l = x;
                Cond r = c();
                x = f -> l.of(f) && r.of(f);
            }
            return x;
        }

        Cond c() {
            if (is("not") || is("(")) {
                if (open == 8) throw fault(3);
                open++;
                Cond x;
                if (took("not")) {
                    Cond in = c();
                    x = f -> !in.of(f);
                } else {
                    at++;
                    x = b();
                    take(")");
                }
                open--;
                return x;
            }
            Num l = e();
            String sign = now().text;
            if (!is("<") && !is("=") && !is(">")) throw fault(1);
            at++;
            Num r = e();
            return f -> sign.equals("<") ? l.of(f) < r.of(f) : sign.equals("=") ? l.of(f) == r.of(f) : l.of(f) > r.of(f);
        }

        Num e() {
            Num x = t();
            while (is("+") || is("-")) {
                boolean plus = is("+");
                at++;
                Num l = x;
                Num r = t();
                x = f -> plus ? l.of(f) + r.of(f) : l.of(f) - r.of(f);
            }
            return x;
        }

        Num t() {
            Num x = u();
            while (is("*") || is("/")) {
                Num l = x;
                if (took("*")) {
                    Num r = u();
                    x = f -> l.of(f) * r.of(f);
                } else {
                    at++;
                    int r = number(1, 9999);
                    x = f -> l.of(f) / r;
                }
            }
            return x;
        }

        Num u() {
            if (now().kind == 2) {
                int v = number(0, 9999);
                return f -> v;
            }
            String w = now().text;
            if (now().kind != 1 || !List.of("deer", "mark", "calm", "since", "came", "salt", "noise", "gate", "season", "today").contains(w)) {
                throw fault(1);
            }
            at++;
            return f -> f.get(w);
        }

        List<PlanLine> plan() {
            List<PlanLine> lines = new ArrayList<>();
            while (more()) {
                if (!is("on")) throw fault(1);
                room(lines.size(), 16);
                at++;
                int day = number(0, 999);
                String act = now().text;
                int v = 0;
                if (took("salt") || took("noise")) v = number(0, 99);
                else if (took("eat") || took("free")) v = number(0, deer - 1);
                else take("gate");
                take(";");
                lines.add(new PlanLine(day, act, v));
            }
            return lines;
        }

        List<Due> dues() {
            List<Due> lines = new ArrayList<>();
            while (more()) {
                if (!is("due")) throw fault(1);
                room(lines.size(), 16);
                at++;
                int n = number(1, 999);
                take("on");
                int who = number(0, deer - 1);
                int day = took("after") ? number(0, 999) : NONE;
                take(";");
                lines.add(new Due(n, who, day));
            }
            return lines;
        }

        List<Feast> feasts() {
            List<Feast> lines = new ArrayList<>();
            while (more()) {
                if (!is("feast")) throw fault(1);
                room(lines.size(), 8);
                at++;
                int day = number(0, 30);
                take("for");
                int reach = number(0, 9);
                take(";");
                lines.add(new Feast(day, reach));
            }
            return lines;
        }
    }

    int fault(int what) { return what == 0 ? fault : what == 1 ? place : NONE; }

    // ---- looking

    int of(int deer, int what) {
        if (!is(deer)) return NONE;
        Deer d = h.deer.get(deer);
        return switch (what) {
            case 0 -> d.mark;
            case 1 -> d.calm;
            case 2 -> d.alive ? 1 : 0;
            case 3 -> d.since;
            case 4 -> d.came;
            case 5 -> tells("come", h, deer);
            case 6 -> tells("long", h, deer);
            case 7 -> tells("shy", h, deer);
            default -> NONE;
        };
    }

    int due(int i, int what) {
        if (i < 0 || i >= t.dues.size()) return NONE - 1;
        Due d = t.dues.get(i);
        return switch (what) {
            case 0 -> d.n;
            case 1 -> d.deer;
            case 2 -> d.day;
            case 3 -> h.paid[i] ? 1 : 0;
            default -> NONE - 1;
        };
    }

    int book(int i, int what) {
        if (i < 0 || i >= h.book.size() || what < 0 || what > 3) return NONE - 1;
        return h.book.get(i)[what];
    }

    int next(int deer, int n) {
        if (!is(deer) || n < 0 || n > 60) return NONE;
        if (!h.deer.get(deer).alive) return 0;
        long sum = sum(h);
        long likely = sum == 0 ? 0 : 1000000L * tells("come", h, deer) / sum;
        likely = likely * (1000 - h.mist) / 1000;
        if (n == 0) return (int) likely;
        long left = 1000000;
        for (int i = 0; i < n; i++) left = left - left * likely / 1000000;
        return (int) (1000000 - left);
    }

    int likeliest() { return likeliest(h); }

    int goes(int n, int what) {
        if (n < 1 || n > 99 || what < 0 || what > 3) return NONE - 99999;
        Herd g = h.copy();
        for (int i = 0; i < n; i++) day(g, true);
        int paid = 0;
        for (boolean p : g.paid) if (p) paid++;
        return new int[] {g.coin, g.hours, paid, g.today}[what];
    }

    int reads(int due) {
        if (due < 0 || due >= t.dues.size()) return NONE;
        Deer eaten = h.deer.get(t.dues.get(due).deer);
        if (eaten.alive) return NONE;
        int best = NONE;
        for (int i = 0; i < h.deer.size(); i++) {
            Deer d = h.deer.get(i);
            if (!d.alive) continue;
            if (best == NONE) { best = i; continue; }
            Deer b = h.deer.get(best);
            int dm = Math.abs(d.mark - eaten.mark) - Math.abs(b.mark - eaten.mark);
            int dc = Math.abs(d.calm - eaten.calm) - Math.abs(b.calm - eaten.calm);
            if (dm < 0 || dm == 0 && dc < 0) best = i;
        }
        return best;
    }

    private int tellPair(List<int[]> list, int a, int b, boolean fine, int most) {
        if (a == NONE) { list.clear(); return 0; }
        if (!fine || list.size() == most) return NONE;
        list.add(new int[] {a, b});
        return list.size();
    }

    private int tellOne(List<Integer> list, int v, int least, int greatest, int most) {
        if (v == NONE) { list.clear(); return 0; }
        if (v < least || v > greatest || list.size() == most) return NONE;
        list.add(v);
        return list.size();
    }

    int seen(int a, int b) { return tellPair(t.seen, a, b, is(a) && is(b) && a != b, 12); }
    int work(int hours) { return tellOne(t.works, hours, 1, 24, 8); }
    int gate(int a, int b) { return tellPair(t.paths, a, b, a >= 0 && a < 10 && b >= 0 && b < 10 && a != b, 14); }
    int ate(int a, int deer) { return tellPair(t.ate, a, deer, a >= 0 && a < 7 && is(deer), 20); }
    int vote(int hour) { return tellOne(t.votes, hour, 0, 24, 9); }

    // ---- in thought, every way tried

    /** All orders of 0 .. n - 1, the lesser ahead. */
    static List<int[]> permutations(int n) {
        List<int[]> all = new ArrayList<>();
        permute(new int[n], 0, new boolean[n], all);
        return all;
    }

    private static void permute(int[] order, int at, boolean[] used, List<int[]> all) {
        if (at == order.length) { all.add(order.clone()); return; }
        for (int i = 0; i < order.length; i++) {
            if (used[i]) continue;
            used[i] = true;
            order[at] = i;
            permute(order, at + 1, used, all);
            used[i] = false;
        }
    }

    int orders(int what) {
        int n = h.deer.size();
        List<int[]> fit = new ArrayList<>();
        for (int[] order : permutations(n)) {
            int[] place = new int[n];
            for (int i = 0; i < n; i++) place[order[i]] = i;
            boolean fits = true;
            for (int[] s : t.seen) fits &= place[s[0]] < place[s[1]];
            if (fits) fit.add(place);
        }
        if (what == 0) return fit.size();
        if (what >= 10 && what < 10 + n && !fit.isEmpty()) {
            for (int i = 0; i < n; i++) if (fit.get(0)[i] == what - 10) return i;
        }
        if (what != 1 && what != 2 || fit.size() < 2) return NONE;
        int least = Integer.MAX_VALUE;
        int[] couple = null;
        for (int a = 0; a < n; a++) {
            for (int b = a + 1; b < n; b++) {
                int ahead = 0;
                for (int[] place : fit) if (place[a] < place[b]) ahead++;
                int greater = Math.max(ahead, fit.size() - ahead);
                if (greater < least) { least = greater; couple = new int[] {a, b}; }
            }
        }
        return couple[what - 1];
    }

    private int[] bestMoves;
    private int bestMoved;

    int moves(int what) {
        bestMoves = null;
        bestMoved = Integer.MAX_VALUE;
        move(new int[t.feasts.size()], 0, 0);
        if (bestMoves == null) return NONE;
        if (what == 0) return bestMoved;
        return what >= 10 && what < 10 + bestMoves.length ? bestMoves[what - 10] : NONE;
    }

    private void move(int[] to, int at, int moved) {
        if (moved >= bestMoved) return;
        if (at == to.length) { bestMoves = to.clone(); bestMoved = moved; return; }
        Feast f = t.feasts.get(at);
        for (int day = 0; day < 40; day++) {
            boolean free = Math.abs(day - f.day) <= f.reach;
            for (int i = 0; i < at; i++) free &= to[i] != day;
            if (!free) continue;
            to[at] = day;
            move(to, at + 1, moved + Math.abs(day - f.day));
        }
    }

    int works(int what) {
        if (what < 0 || what > 2 || likeliest() == NONE) return NONE;
        List<Integer> turn = new ArrayList<>();
        for (int i = 0; i < h.deer.size(); i++) {
            int d = (likeliest() + i) % h.deer.size();
            if (h.deer.get(d).alive) turn.add(d);
        }
        int longest = 0;
        int[] lengths = new int[turn.size()];
        for (int i = 0; i < lengths.length; i++) lengths[i] = tells("long", h, turn.get(i));
        for (int l : lengths) longest = Math.max(longest, l);
        for (int w : t.works) if (w > longest) return NONE;
        int[] order = t.works.stream().mapToInt(i -> i).toArray();
        int last = lastDay(order, lengths);
        if (what == 0) return last;
        if (what == 1) return last == 0 ? NONE : turn.get((last - 1) % turn.size());
        int best = last;
        for (int[] p : permutations(order.length)) {
            int[] other = new int[p.length];
            for (int i = 0; i < p.length; i++) other[i] = order[p[i]];
            best = Math.min(best, lastDay(other, lengths));
        }
        return best;
    }

    private static int lastDay(int[] works, int[] lengths) {
        if (works.length == 0) return 0;
        int day = 0;
        int room = lengths[0];
        for (int w : works) {
            while (room < w) {
                day++;
                room = lengths[day % lengths.length];
            }
            room -= w;
        }
        return day + 1;
    }

    int watch(int what) {
        if (what != 0 && what != 1) return NONE;
        for (int size = 0; ; size++) {
            for (int set = 0; set < 1024; set++) {
                if (Integer.bitCount(set) != size) continue;
                boolean all = true;
                for (int[] p : t.paths) all &= (set & (1 << p[0] | 1 << p[1])) != 0;
                if (all) return what == 0 ? size : set;
            }
        }
    }

    int ways(int what) {
        if (what != 0 && what != 1) return NONE;
        List<List<Integer>> ways = new ArrayList<>();
        eatings(0, new ArrayList<>(), ways);
        if (what == 0) return ways.size();
        int sure = 0;
        for (int a = 0; a < 7; a++) {
            for (int b = 0; b < 10; b++) {
                boolean all = !ways.isEmpty();
                for (List<Integer> way : ways) all &= way.contains(a * 10 + b);
                if (all) sure++;
            }
        }
        return sure;
    }

    private void eatings(int a, List<Integer> way, List<List<Integer>> ways) {
        if (a == 7) { ways.add(new ArrayList<>(way)); return; }
        boolean told = false;
        for (int[] pair : t.ate) told |= pair[0] == a;
        if (!told) { eatings(a + 1, way, ways); return; }
        for (int b = 0; b < 10; b++) {
            boolean can = false;
            for (int[] pair : t.ate) can |= pair[0] == a && pair[1] == b;
            for (int w : way) can &= w % 10 != b;
            if (!can) continue;
            way.add(a * 10 + b);
            eatings(a + 1, way, ways);
            way.remove(way.size() - 1);
        }
    }

    int votes(int what) {
        if (t.votes.isEmpty() || what != 0 && what != 1) return NONE;
        int best = Integer.MAX_VALUE;
        int hour = 0;
        for (int i = 24; i >= 0; i--) {
            int sum = 0;
            for (int v : t.votes) sum += Math.abs(v - i);
            if (sum <= best) { best = sum; hour = i; }
        }
        return what == 0 ? hour : best;
    }

    private int[] bestGifts;
    private int bestSum;

    int salts(int s, int what) {
        if (likeliest() == NONE || s < 1 || s > 20) return NONE;
        int n = h.deer.size();
        int[][] gains = new int[n][s + 1];
        for (int i = 0; i < n; i++) {
            for (int g = 0; g <= s; g++) {
                Map<String, Integer> f = facts(h, i);
                f.put("salt", Math.min(99, h.salt + g));
                gains[i][g] = tells("come", f);
            }
        }
        bestGifts = null;
        bestSum = -1;
        give(new int[n], 0, s, 0, gains);
        if (what == 0) return bestSum;
        return what >= 10 && what < 10 + n ? bestGifts[what - 10] : NONE;
    }

    private void give(int[] gifts, int at, int left, int sum, int[][] gains) {
        if (at == gifts.length) {
            if (left == 0 && sum > bestSum) { bestSum = sum; bestGifts = gifts.clone(); }
            return;
        }
        for (int g = 0; g <= left; g++) {
            if (!h.deer.get(at).alive && g > 0) break;
            gifts[at] = g;
            give(gifts, at + 1, left - g, sum + (h.deer.get(at).alive ? gains[at][g] : 0), gains);
        }
        gifts[at] = 0;
    }

    int nods(int a, int b) {
        if (a < 0 || a > 5 || b < 0 || b > 5) return NONE;
        int couples = 0;
        for (int i = 0; i < h.deer.size(); i++) {
            for (int j = i + 1; j < h.deer.size(); j++) {
                Deer x = h.deer.get(i);
                Deer y = h.deer.get(j);
                if (x.alive && y.alive && (x.mark == a && y.mark == b || x.mark == b && y.mark == a)) couples++;
            }
        }
        return couples;
    }

    /** By what can be reached from each heap, not by its remainder. */
    static int worth(int heap) {
        int[] worths = new int[heap + 1];
        for (int i = 1; i <= heap; i++) {
            boolean[] reached = new boolean[8];
            for (int take = 1; take <= 3 && take <= i; take++) reached[worths[i - take]] = true;
            while (reached[worths[i]]) worths[i]++;
        }
        return worths[heap];
    }

    int game(int what) {
        if (what != 0 && what != 1) return NONE;
        for (int i = 0; i < h.deer.size(); i++) {
            if (!h.deer.get(i).alive) continue;
            for (int take = 1; take <= 3 && take <= h.deer.get(i).came; take++) {
                int all = 0;
                for (int j = 0; j < h.deer.size(); j++) {
                    Deer d = h.deer.get(j);
                    if (d.alive) all ^= worth(j == i ? d.came - take : d.came);
                }
                if (all == 0) return what == 0 ? i : take;
            }
        }
        return NONE;
    }

    // ---- going back

    boolean undo() {
        if (undos.isEmpty()) return false;
        h = undos.removeLast();
        return true;
    }

    boolean image(boolean taken) {
        if (taken) {
            imageHerd = h.copy();
            imageTold = t.copy();
            return true;
        }
        if (imageHerd == null) return false;
        h = imageHerd.copy();
        t = imageTold.copy();
        undos.clear();
        return true;
    }

    int look(int what) {
        int alive = 0;
        for (int i = 0; i < h.deer.size(); i++) if (h.deer.get(i).alive) alive |= 1 << i;
        int[] all = {h.deer.size(), h.day, h.today, h.coin, h.hours, h.salt, h.noise, h.gate, alive, h.book.size(), h.state,
            t.law.size(), t.plan.size(), t.dues.size(), t.feasts.size(), t.seen.size(), t.works.size(), t.paths.size(),
            t.ate.size(), t.votes.size(), undos.size()};
        return what >= 0 && what <= 20 ? all[what] : NONE - 999999;
    }
}
