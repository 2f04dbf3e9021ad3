import java.util.Arrays;

/**
 * Deer are the calendar: a day is the deer that comes out of the wood at dawn.
 * Every row that a call needs is made together with the object, since all that a run makes is counted.
 */
public final class DeerDays {

    public static final int NONE = -1;

    private static final int DEER_MOST = 10;
    private static final int MARK_MOST = 5;
    private static final int CALM_MOST = 9;
    private static final int SINCE_MOST = 999;
    private static final int CAME_TOLD_MOST = 999;
    private static final int SALT_MOST = 99;
    private static final int NOISE_MOST = 99;
    private static final int THOUSAND = 1000;
    private static final int MILLION = 1000000;
    private static final int DAY_MOST = 9999;
    private static final int PASS_MOST = 60;
    private static final int WAIT_MOST = 30;
    private static final int DREAM_MOST = 99;
    private static final int MIST_HOURS = 5;
    private static final int DUSK_MOST = 24;
    private static final int LONG_MOST = 24;

    private static final int LINES_MOST = 16;
    private static final int FEASTS_MOST = 8;
    private static final int BOOK_MOST = 150;
    private static final int SEEN_MOST = 12;
    private static final int WORKS_MOST = 8;
    private static final int GATES = 10;
    private static final int PATHS_MOST = 14;
    private static final int POACHERS = 7;
    private static final int ATE_MOST = 20;
    private static final int VOTES_MOST = 9;
    private static final int SALTS_MOST = 20;
    private static final int ACTS_MOST = 6;
    private static final int TAPE_MOST = 400;
    private static final int FEED_BYTES = 20;

    private static final int TEXT_LAW = 0;
    private static final int TEXT_PLAN = 1;
    private static final int TEXT_DUES = 2;
    private static final int TEXT_FEASTS = 3;

    private static final int LINE_CAME = 0;
    private static final int LINE_MIST = 1;
    private static final int LINE_PAID = 2;
    private static final int LINE_EATEN = 3;
    private static final int LINE_WOLVES = 4;
    private static final int LINE_FREED = 5;

    /** From this what on, some calls answer for the one with number what less this. */
    private static final int EACH = 10;

    private final World now;
    private final World kept;
    private final World dream;
    private final Acts acts;
    private final Tape tape;
    private final Reader reader;
    private final Orders ordering;
    private final Labour labour;
    private final Thought thought;
    private boolean imageTaken;

    public DeerDays() {
        now = new World();
        kept = new World();
        dream = new World();
        acts = new Acts();
        tape = new Tape();
        reader = new Reader(tape);
        ordering = new Orders();
        labour = new Labour();
        thought = new Thought();
        imageTaken = false;
    }

    public int state(int v) {
        int was = now.wood.draws;
        now.wood.draws = v;
        acts.forget();
        return was;
    }

    public int deer(int mark, int calm) {
        if (!within(mark, MARK_MOST) || !within(calm, CALM_MOST) || now.wood.count >= DEER_MOST) {
            return NONE;
        }
        acts.forget();
        return now.wood.enter(mark, calm);
    }

    public boolean set(int what, int who, int v) {
        boolean isTold = what >= 5 ? setDeer(what, who, v) : setWood(what, v);
        if (isTold) {
            acts.forget();
        }
        return isTold;
    }

    public boolean eat(int deer, boolean is) {
        if (!now.wood.has(deer) || now.wood.isAlive(deer) != is) {
            return false;
        }
        acts.keep(now);
        now.eatOrFree(deer, is);
        return true;
    }

    public int days(int n) {
        if (n < 1 || n > PASS_MOST || now.wood.day + n > DAY_MOST) {
            return NONE;
        }
        int mists = 0;
        for (int i = 0; i < n; i++) {
            acts.keep(now);
            if (now.passDay(false)) {
                mists++;
            }
        }
        return mists;
    }

    public int waitFor(int deer) {
        if (!now.wood.has(deer) || now.wood.day + WAIT_MOST > DAY_MOST) {
            return NONE - 1;
        }
        for (int i = 1; i <= WAIT_MOST; i++) {
            acts.keep(now);
            now.passDay(false);
            if (now.wood.today == deer) {
                return i;
            }
        }
        return NONE;
    }

    public int feed(int a, int b, int c, int d, int e) {
        if (tape.count + FEED_BYTES > TAPE_MOST) {
            return NONE;
        }
        tape.append(a);
        tape.append(b);
        tape.append(c);
        tape.append(d);
        tape.append(e);
        return tape.count;
    }

    public boolean end(int n) {
        if (n < 0 || n > tape.count) {
            return false;
        }
        tape.count = n;
        return true;
    }

    public int text(int k) {
        boolean isRead = reader.read(k, now.wood.count);
        tape.count = 0;
        return isRead ? takeText(k) : NONE;
    }

    public int fault(int what) {
        switch (what) {
            case 0: return reader.fault;
            case 1: return reader.faultPlace;
            default: return NONE;
        }
    }

    public int of(int deer, int what) {
        Wood wood = now.wood;
        if (!wood.has(deer)) {
            return NONE;
        }
        switch (what) {
            case 0: return wood.mark[deer];
            case 1: return wood.calm[deer];
            case 2: return wood.isAlive(deer) ? 1 : 0;
            case 3: return wood.since[deer];
            case 4: return wood.came[deer];
            case 5: return now.asked(Law.COME, deer);
            case 6: return now.asked(Law.LONG, deer);
            case 7: return now.asked(Law.SHY, deer);
            default: return NONE;
        }
    }

    public int due(int i, int what) {
        if (!now.dues.has(i) || what < 0 || what > 3) {
            return NONE - 1;
        }
        return what == 3 ? (now.wood.isPaid(i) ? 1 : 0) : now.dues.cell(i, what);
    }

    public int book(int i, int what) {
        return now.book.has(i) && within(what, 3) ? now.book.cell(i, what) : NONE - 1;
    }

    public int next(int deer, int n) {
        if (!now.wood.has(deer) || !within(n, PASS_MOST)) {
            return NONE;
        }
        int likely = now.likelihood(deer);
        return n == 0 ? likely : likelyWithin(likely, n);
    }

    public int likeliest() {
        return now.likeliestDeer();
    }

    public int goes(int n, int what) {
        if (n < 1 || n > DREAM_MOST || !within(what, 3)) {
            return NONE - 99999;
        }
        dream.copyFrom(now);
        for (int i = 0; i < n; i++) {
            dream.passDay(true);
        }
        switch (what) {
            case 0: return dream.wood.coin;
            case 1: return dream.wood.hours;
            case 2: return Integer.bitCount(dream.wood.paid);
            default: return dream.wood.today;
        }
    }

    public int reads(int due) {
        if (!now.dues.has(due)) {
            return NONE;
        }
        int eaten = now.dues.cell(due, World.DUE_DEER);
        return now.wood.isAlive(eaten) ? NONE : now.wood.nearestTo(eaten);
    }

    public int seen(int a, int b) {
        boolean isFine = now.wood.has(a) && now.wood.has(b) && a != b;
        return now.seen.tell(a, b, isFine);
    }

    public int orders(int what) {
        if (what == 0) {
            return ordering.howMany(now);
        }
        if (what == 1 || what == 2) {
            return ordering.asks(now, what == 1);
        }
        if (what < EACH || !now.wood.has(what - EACH)) {
            return NONE;
        }
        return ordering.placeOfFirst(now, what - EACH);
    }

    public int moves(int what) {
        if (what == 0) {
            return thought.movedDays(now.feasts);
        }
        if (what < EACH || !now.feasts.has(what - EACH)) {
            return NONE;
        }
        return thought.movedTo(now.feasts, what - EACH);
    }

    public int work(int hours) {
        return now.works.tell(hours, 0, hours >= 1 && hours <= LONG_MOST);
    }

    public int works(int what) {
        if (!within(what, 2) || !labour.takeTurns(now)) {
            return NONE;
        }
        switch (what) {
            case 0: return labour.daysOf(labour.lastSpot(now.works));
            case 1: return labour.deerOf(labour.lastSpot(now.works));
            default: return labour.daysOf(labour.bestSpot(now.works));
        }
    }

    public int gate(int a, int b) {
        return now.paths.tell(a, b, within(a, GATES - 1) && within(b, GATES - 1) && a != b);
    }

    public int watch(int what) {
        if (!within(what, 1)) {
            return NONE;
        }
        int watched = thought.leastWatch(now.paths);
        return what == 0 ? Integer.bitCount(watched) : watched;
    }

    public int ate(int a, int deer) {
        return now.ate.tell(a, deer, within(a, POACHERS - 1) && now.wood.has(deer));
    }

    public int ways(int what) {
        if (!within(what, 1)) {
            return NONE;
        }
        int ways = thought.waysToHaveEaten(now.ate);
        return what == 0 ? ways : thought.sureCouples(ways);
    }

    public int vote(int hour) {
        return now.votes.tell(hour, 0, within(hour, DUSK_MOST));
    }

    public int votes(int what) {
        if (now.votes.count == 0 || !within(what, 1)) {
            return NONE;
        }
        int hour = thought.nearestHour(now.votes);
        return what == 0 ? hour : thought.farness(now.votes, hour);
    }

    public int salts(int s, int what) {
        if (now.wood.alive == 0 || s < 1 || s > SALTS_MOST) {
            return NONE;
        }
        if (what == 0) {
            return thought.saltedSum(now, s);
        }
        if (what < EACH || !now.wood.has(what - EACH)) {
            return NONE;
        }
        return thought.saltGiven(now, s, what - EACH);
    }

    public int nods(int a, int b) {
        if (!within(a, MARK_MOST) || !within(b, MARK_MOST)) {
            return NONE;
        }
        int those = now.wood.aliveWithMark(a);
        return a == b ? those * (those - 1) / 2 : those * now.wood.aliveWithMark(b);
    }

    public int game(int what) {
        if (!within(what, 1)) {
            return NONE;
        }
        int whose = thought.antlersOf(now.wood);
        return what == 0 || whose == NONE ? whose : thought.antlersTaken(now.wood, whose);
    }

    public boolean undo() {
        return acts.goBack(now);
    }

    public boolean image(boolean taken) {
        if (taken) {
            kept.copyFrom(now);
            imageTaken = true;
            return true;
        }
        if (!imageTaken) {
            return false;
        }
        now.copyFrom(kept);
        acts.forget();
        return true;
    }

    public int look(int what) {
        Wood wood = now.wood;
        switch (what) {
            case 0: return wood.count;
            case 1: return wood.day;
            case 2: return wood.today;
            case 3: return wood.coin;
            case 4: return wood.hours;
            case 5: return wood.salt;
            case 6: return wood.noise;
            case 7: return wood.gate;
            case 8: return wood.alive;
            case 9: return now.book.count;
            case 10: return wood.draws;
            case 11: return now.law.lines.count;
            case 12: return now.plan.count;
            case 13: return now.dues.count;
            case 14: return now.feasts.count;
            case 15: return now.seen.count;
            case 16: return now.works.count;
            case 17: return now.paths.count;
            case 18: return now.ate.count;
            case 19: return now.votes.count;
            case 20: return acts.count;
            default: return NONE - 999999;
        }
    }

    private static boolean within(int v, int most) {
        return v >= 0 && v <= most;
    }

    private boolean setWood(int what, int v) {
        Wood wood = now.wood;
        switch (what) {
            case 0:
                if (!within(v, SALT_MOST)) return false;
                wood.salt = v;
                return true;
            case 1:
                if (!within(v, NOISE_MOST)) return false;
                wood.noise = v;
                return true;
            case 2:
                if (!within(v, 1)) return false;
                wood.gate = v;
                return true;
            case 3:
                if (!within(v, THOUSAND)) return false;
                wood.wolves = v;
                return true;
            case 4:
                if (!within(v, THOUSAND)) return false;
                wood.mist = v;
                return true;
            default:
                return false;
        }
    }

    private boolean setDeer(int what, int who, int v) {
        Wood wood = now.wood;
        if (!wood.has(who)) {
            return false;
        }
        switch (what) {
            case 5:
                if (!within(v, MARK_MOST)) return false;
                wood.mark[who] = v;
                return true;
            case 6:
                if (!within(v, CALM_MOST)) return false;
                wood.calm[who] = v;
                return true;
            case 7:
                if (!within(v, SINCE_MOST)) return false;
                wood.since[who] = v;
                return true;
            case 8:
                if (!within(v, CAME_TOLD_MOST)) return false;
                wood.came[who] = v;
                return true;
            default:
                return false;
        }
    }

    /** The law and the feasts leave what can be undone; the plan and the dues are told like the rest. */
    private int takeText(int k) {
        switch (k) {
            case TEXT_LAW:
                now.law.copyFrom(reader.law);
                return now.law.lines.count;
            case TEXT_PLAN:
                now.plan.copyFrom(reader.rows);
                acts.forget();
                return now.plan.count;
            case TEXT_DUES:
                now.dues.copyFrom(reader.rows);
                now.wood.paid = 0;
                acts.forget();
                return now.dues.count;
            default:
                now.feasts.copyFrom(reader.rows);
                return now.feasts.count;
        }
    }

    private static int likelyWithin(int likely, int n) {
        long left = MILLION;
        for (int i = 0; i < n; i++) {
            left -= left * likely / MILLION;
        }
        return (int) (MILLION - left);
    }

    /** Rows of four numbers, up to a bound: the lines of texts, THE BOOK, and all that is told one by one. */
    private static final class Rows {
        static final int WIDTH = 4;

        final int most;
        final int[] cells;
        int count;

        Rows(int most) {
            this.most = Math.max(0, most);
            this.cells = new int[Math.max(0, most) * WIDTH];
            this.count = 0;
        }

        boolean has(int row) {
            return row >= 0 && row < count;
        }

        /** What stands outside the rows is 0, so that no index of a caller can fail. */
        int cell(int row, int column) {
            int at = row * WIDTH + column;
            return has(row) && column >= 0 && column < WIDTH && at < cells.length ? cells[at] : 0;
        }

        boolean put(int a, int b, int c, int d) {
            int at = count * WIDTH;
            if (count >= most || at < 0 || at + 3 >= cells.length) {
                return false;
            }
            cells[at] = a;
            cells[at + 1] = b;
            cells[at + 2] = c;
            cells[at + 3] = d;
            count++;
            return true;
        }

        /** NONE as the first one empties the rows, whatever the second one is. */
        int tell(int a, int b, boolean isFine) {
            if (a == NONE) {
                count = 0;
                return 0;
            }
            return isFine && put(a, b, 0, 0) ? count : NONE;
        }

        void copyFrom(Rows other) {
            count = Math.min(other.count, most);
            int length = Math.min(count * WIDTH, Math.min(cells.length, other.cells.length));
            System.arraycopy(other.cells, 0, cells, 0, length);
        }
    }

    /** The deer and all that days change beside THE BOOK. */
    private static final class Wood {
        final int[] mark = new int[DEER_MOST];
        final int[] calm = new int[DEER_MOST];
        final int[] since = new int[DEER_MOST];
        final int[] came = new int[DEER_MOST];
        int count;
        int alive;
        int salt;
        int noise;
        int gate;
        int wolves;
        int mist;
        int today = NONE;
        int coin;
        int hours;
        int day;
        int draws;
        int paid;

        boolean has(int i) {
            return i >= 0 && i < count && i < DEER_MOST;
        }

        boolean isAlive(int i) {
            return has(i) && (alive >> i & 1) == 1;
        }

        boolean isPaid(int due) {
            return due >= 0 && due < LINES_MOST && (paid >> due & 1) == 1;
        }

        int enter(int newMark, int newCalm) {
            int number = count;
            if (number < 0 || number >= DEER_MOST) {
                return NONE;
            }
            mark[number] = newMark;
            calm[number] = newCalm;
            since[number] = 0;
            came[number] = 0;
            alive |= 1 << number;
            count = number + 1;
            return number;
        }

        int draw(int m) {
            draws = draws * 1664525 + 1013904223;
            return m > 0 ? (draws >>> 8) % m : 0;
        }

        void putFacts(int i, int[] facts) {
            if (!has(i) || facts.length < Law.FACTS) {
                return;
            }
            facts[0] = i;
            facts[1] = mark[i];
            facts[2] = calm[i];
            facts[3] = since[i];
            facts[4] = came[i];
            facts[Law.FACT_SALT] = salt;
            facts[6] = noise;
            facts[7] = gate;
            facts[8] = day / 30 % 12;
            facts[9] = today == i ? 1 : 0;
        }

        /** NONE is brought on a day of mist: the others wait one day more all the same. */
        void bring(int who, int hoursLong, int shy) {
            for (int i = 0; i < count && i < DEER_MOST; i++) {
                if (i == who) {
                    since[i] = 0;
                    came[i]++;
                    calm[i] = Math.max(0, calm[i] - shy);
                } else if (isAlive(i)) {
                    since[i] = Math.min(SINCE_MOST, since[i] + 1);
                }
            }
            today = who;
            hours += hoursLong;
        }

        int leastCalm() {
            int least = NONE;
            for (int i = 0; i < count && i < DEER_MOST; i++) {
                if (isAlive(i) && (least == NONE || calm[i] < calm[least])) {
                    least = i;
                }
            }
            return least;
        }

        /** CALM weighs less than any MARK, so both make one number. */
        int nearestTo(int eaten) {
            int nearest = NONE;
            int least = 0;
            if (!has(eaten)) {
                return NONE;
            }
            for (int i = 0; i < count && i < DEER_MOST; i++) {
                int far = Math.abs(mark[i] - mark[eaten]) * 100 + Math.abs(calm[i] - calm[eaten]);
                if (isAlive(i) && (nearest == NONE || far < least)) {
                    nearest = i;
                    least = far;
                }
            }
            return nearest;
        }

        int aliveWithMark(int wanted) {
            int those = 0;
            for (int i = 0; i < count && i < DEER_MOST; i++) {
                if (isAlive(i) && mark[i] == wanted) {
                    those++;
                }
            }
            return those;
        }

        void copyFrom(Wood other) {
            System.arraycopy(other.mark, 0, mark, 0, DEER_MOST);
            System.arraycopy(other.calm, 0, calm, 0, DEER_MOST);
            System.arraycopy(other.since, 0, since, 0, DEER_MOST);
            System.arraycopy(other.came, 0, came, 0, DEER_MOST);
            count = other.count;
            alive = other.alive;
            salt = other.salt;
            noise = other.noise;
            gate = other.gate;
            wolves = other.wolves;
            mist = other.mist;
            today = other.today;
            coin = other.coin;
            hours = other.hours;
            day = other.day;
            draws = other.draws;
            paid = other.paid;
        }
    }

    /** THE LAW, held as code for a little stack: a number of 0 or more stands for itself. */
    private static final class Law {
        static final int COME = 0;
        static final int LONG = 1;
        static final int SHY = 2;
        static final int FACTS = 10;
        static final int FACT_SALT = 5;

        /** Facts are coded -1, -2 and so on, what joins two values behind them. */
        static final int PLUS = -11;
        static final int MINUS = -12;
        static final int TIMES = -13;
        static final int BY = -14;
        static final int LESS = -15;
        static final int SAME = -16;
        static final int MORE = -17;
        static final int NOT = -18;
        static final int AND = -19;
        static final int OR = -20;

        /** Eight open brackets with two values waiting in each, and what one comparison needs, stay below. */
        private static final int STACK = 32;

        final int[] code = new int[TAPE_MOST];
        final int[] stack = new int[STACK];
        /** A line: its word, where its E begins, where that ends and its B begins, where that ends. */
        final Rows lines = new Rows(LINES_MOST);
        int length;

        void emit(int op) {
            if (length >= 0 && length < code.length) {
                code[length] = op;
                length++;
            }
        }

        int tell(int word, int[] facts) {
            for (int i = 0; i < lines.count; i++) {
                if (lines.cell(i, 0) != word) {
                    continue;
                }
                int behind = lines.cell(i, 2);
                int last = lines.cell(i, 3);
                if (behind == last || value(behind, last, facts) != 0) {
                    return held(word, value(lines.cell(i, 1), behind, facts));
                }
            }
            return held(word, unsaid(word, facts));
        }

        private static int held(int word, int v) {
            int most = word == COME ? 999 : word == LONG ? LONG_MOST : 9;
            return Math.max(0, Math.min(most, v));
        }

        private static int unsaid(int word, int[] facts) {
            if (facts.length < FACTS) {
                return 0;
            }
            return word == COME ? facts[3] + 1 : word == LONG ? 6 + facts[2] : facts[6] / 9;
        }

        private int value(int from, int to, int[] facts) {
            int depth = 0;
            for (int at = Math.max(0, from); at < to && at < code.length; at++) {
                int op = code[at];
                if (op > PLUS) {
                    if (depth < STACK) {
                        stack[depth] = op >= 0 ? op : -1 - op < facts.length ? facts[-1 - op] : 0;
                        depth++;
                    }
                } else if (op == NOT) {
                    if (depth > 0) {
                        stack[depth - 1] = 1 - stack[depth - 1];
                    }
                } else if (depth > 1) {
                    depth--;
                    stack[depth - 1] = joined(op, stack[depth - 1], stack[depth]);
                }
            }
            return depth > 0 ? stack[depth - 1] : 0;
        }

        private static int joined(int op, int x, int y) {
            switch (op) {
                case PLUS: return x + y;
                case MINUS: return x - y;
                case TIMES: return x * y;
                case BY: return y == 0 ? 0 : x / y;
                case LESS: return x < y ? 1 : 0;
                case SAME: return x == y ? 1 : 0;
                case MORE: return x > y ? 1 : 0;
                case AND: return x & y;
                default: return x | y;
            }
        }

        void clear() {
            lines.count = 0;
            length = 0;
        }

        void copyFrom(Law other) {
            length = Math.max(0, Math.min(TAPE_MOST, other.length));
            System.arraycopy(other.code, 0, code, 0, length);
            lines.copyFrom(other.lines);
        }
    }

    /** All that is and was told, as THE IMAGE holds it, and how a day goes by in it. */
    private static final class World {
        /** As the KEYWORDS of A PLAN are numbered. */
        static final int PLAN_SALT = 1;
        static final int PLAN_NOISE = 2;
        static final int PLAN_GATE = 3;
        static final int PLAN_EAT = 4;
        static final int PLAN_FREE = 5;
        static final int DUE_DEER = 1;
        static final int DUE_DAY = 2;

        final Wood wood = new Wood();
        final Law law = new Law();
        final Rows plan = new Rows(LINES_MOST);
        final Rows dues = new Rows(LINES_MOST);
        final Rows feasts = new Rows(FEASTS_MOST);
        final Rows book = new Rows(BOOK_MOST);
        final Rows seen = new Rows(SEEN_MOST);
        final Rows works = new Rows(WORKS_MOST);
        final Rows paths = new Rows(PATHS_MOST);
        final Rows ate = new Rows(ATE_MOST);
        final Rows votes = new Rows(VOTES_MOST);
        private final int[] facts = new int[Law.FACTS];
        private final int[] comes = new int[DEER_MOST];
        private int comeSum;

        int asked(int word, int i) {
            wood.putFacts(i, facts);
            return law.tell(word, facts);
        }

        int comeWithSalt(int i, int salt) {
            wood.putFacts(i, facts);
            facts[Law.FACT_SALT] = salt;
            return law.tell(Law.COME, facts);
        }

        private void askComes() {
            comeSum = 0;
            for (int i = 0; i < DEER_MOST; i++) {
                comes[i] = wood.isAlive(i) ? asked(Law.COME, i) : 0;
                comeSum += comes[i];
            }
        }

        int likeliestDeer() {
            askComes();
            return greatestCome();
        }

        private int greatestCome() {
            int best = NONE;
            for (int i = 0; i < DEER_MOST; i++) {
                if (wood.isAlive(i) && (best == NONE || comes[i] > comes[best])) {
                    best = i;
                }
            }
            return best;
        }

        int likelihood(int i) {
            askComes();
            if (!wood.isAlive(i) || comeSum <= 0) {
                return 0;
            }
            return MILLION * comes[i] / comeSum * (THOUSAND - wood.mist) / THOUSAND;
        }

        void eatOrFree(int i, boolean eaten) {
            wood.alive = eaten ? wood.alive & ~(1 << i) : wood.alive | 1 << i;
            book.put(wood.day, eaten ? LINE_EATEN : LINE_FREED, i, 0);
        }

        /** True on a day of mist. In a dream the likeliest one comes, without draws and without wolves. */
        boolean passDay(boolean dreamt) {
            followPlan();
            askComes();
            int who = dreamt ? dreamtDeer() : drawnDeer();
            if (who == NONE) {
                book.put(wood.day, LINE_MIST, NONE, MIST_HOURS);
                wood.bring(NONE, MIST_HOURS, 0);
            } else {
                int hours = asked(Law.LONG, who);
                int shy = asked(Law.SHY, who);
                book.put(wood.day, LINE_CAME, who, hours);
                wood.bring(who, hours, shy);
                payDues();
            }
            if (!dreamt) {
                sendWolves();
            }
            wood.salt = Math.max(0, wood.salt - 1);
            wood.noise = Math.max(0, wood.noise - 1);
            wood.day++;
            return who == NONE;
        }

        private void followPlan() {
            for (int i = 0; i < plan.count; i++) {
                if (plan.cell(i, 0) == wood.day) {
                    followLine(plan.cell(i, 1), plan.cell(i, 2));
                }
            }
        }

        private void followLine(int act, int v) {
            switch (act) {
                case PLAN_SALT:
                    wood.salt = v;
                    break;
                case PLAN_NOISE:
                    wood.noise = v;
                    break;
                case PLAN_GATE:
                    wood.gate = 1 - wood.gate;
                    break;
                default:
                    if (wood.has(v) && wood.isAlive(v) == (act == PLAN_EAT)) {
                        eatOrFree(v, act == PLAN_EAT);
                    }
                    break;
            }
        }

        private int dreamtDeer() {
            return comeSum > 0 ? greatestCome() : NONE;
        }

        private int drawnDeer() {
            if (wood.mist > 0 && wood.draw(THOUSAND) < wood.mist || comeSum <= 0) {
                return NONE;
            }
            int left = wood.draw(comeSum);
            for (int i = 0; i < DEER_MOST; i++) {
                left -= comes[i];
                if (left < 0) {
                    return i;
                }
            }
            return NONE;
        }

        /** A due without a day has NONE there, which every day is above. */
        private void payDues() {
            for (int i = 0; i < dues.count; i++) {
                boolean isOpen = !wood.isPaid(i) && dues.cell(i, DUE_DEER) == wood.today;
                if (isOpen && wood.day > dues.cell(i, DUE_DAY)) {
                    wood.paid |= 1 << i;
                    wood.coin -= dues.cell(i, 0);
                    book.put(wood.day, LINE_PAID, i, dues.cell(i, 0));
                }
            }
        }

        private void sendWolves() {
            if (wood.wolves <= 0 || wood.alive == 0 || wood.draw(THOUSAND) >= wood.wolves) {
                return;
            }
            int prey = wood.leastCalm();
            if (prey != NONE) {
                wood.alive &= ~(1 << prey);
                book.put(wood.day, LINE_WOLVES, prey, 0);
            }
        }

        void copyFrom(World other) {
            wood.copyFrom(other.wood);
            law.copyFrom(other.law);
            plan.copyFrom(other.plan);
            dues.copyFrom(other.dues);
            feasts.copyFrom(other.feasts);
            book.copyFrom(other.book);
            seen.copyFrom(other.seen);
            works.copyFrom(other.works);
            paths.copyFrom(other.paths);
            ate.copyFrom(other.ate);
            votes.copyFrom(other.votes);
        }
    }

    /** The woods ahead of the latest acts, in a ring; lines of THE BOOK only come behind, so their number is enough. */
    private static final class Acts {
        private final Wood[] woods = new Wood[ACTS_MOST];
        private final int[] bookLines = new int[ACTS_MOST];
        private int first;
        int count;

        Acts() {
            for (int i = 0; i < ACTS_MOST; i++) {
                woods[i] = new Wood();
            }
        }

        void forget() {
            count = 0;
        }

        void keep(World world) {
            int slot = Math.floorMod(first + count, ACTS_MOST);
            Wood wood = woods[slot];
            if (wood == null) {
                return;
            }
            wood.copyFrom(world.wood);
            bookLines[slot] = world.book.count;
            if (count < ACTS_MOST) {
                count++;
            } else {
                first = Math.floorMod(first + 1, ACTS_MOST);
            }
        }

        boolean goBack(World world) {
            if (count <= 0) {
                return false;
            }
            int slot = Math.floorMod(first + count - 1, ACTS_MOST);
            Wood wood = woods[slot];
            if (wood == null) {
                return false;
            }
            world.wood.copyFrom(wood);
            world.book.count = bookLines[slot];
            count--;
            return true;
        }
    }

    /** The TAPE, and the tokens that stand on it once it has been split. */
    private static final class Tape {
        static final int END = 0;
        static final int NUMBER = 1;
        /** What is no token at all: it can stand nowhere. */
        static final int ODD = 2;
        /** A KEYWORD is this and its number among those of its text; a sign is its own byte. */
        static final int WORD = 256;

        private static final String SIGNS = ";+-*/()<=>";

        private final int[] bytes = new int[TAPE_MOST];
        final int[] tokens = new int[TAPE_MOST];
        final int[] values = new int[TAPE_MOST];
        final int[] places = new int[TAPE_MOST];
        int tokenCount;
        int count;

        void append(int v) {
            for (int shift = 24; shift >= 0; shift -= 8) {
                if (count >= 0 && count < TAPE_MOST) {
                    bytes[count] = v >>> shift & 255;
                    count++;
                }
            }
        }

        void split(String words) {
            tokenCount = 0;
            int at = 0;
            for (int guard = 0; guard < TAPE_MOST && at < count; guard++) {
                int c = byteAt(at);
                int behind = at + 1;
                if (isLetter(c)) {
                    behind = behindRun(at, true);
                    addToken(wordToken(words, at, behind), 0, at);
                } else if (isDigit(c)) {
                    behind = behindRun(at, false);
                    addToken(behind - at <= 4 ? NUMBER : ODD, numberOf(at, behind), at);
                } else if (c != 32 && c != 10) {
                    addToken(SIGNS.indexOf((char) c) >= 0 ? c : ODD, 0, at);
                }
                at = behind;
            }
        }

        private int byteAt(int at) {
            return at >= 0 && at < count && at < TAPE_MOST ? bytes[at] : 0;
        }

        private void addToken(int token, int value, int place) {
            if (tokenCount >= 0 && tokenCount < TAPE_MOST) {
                tokens[tokenCount] = token;
                values[tokenCount] = value;
                places[tokenCount] = place;
                tokenCount++;
            }
        }

        private int behindRun(int from, boolean ofLetters) {
            int at = from;
            while (at < count && (ofLetters ? isLetter(byteAt(at)) : isDigit(byteAt(at)))) {
                at++;
            }
            return at;
        }

        private int numberOf(int from, int to) {
            int v = 0;
            for (int i = from; i < to && i < from + 4; i++) {
                v = v * 10 + byteAt(i) - '0';
            }
            return v;
        }

        private int wordToken(String words, int from, int to) {
            int number = 0;
            int start = 0;
            for (int i = 0; i <= words.length(); i++) {
                if (i == words.length() || words.charAt(i) == ' ') {
                    if (i - start == to - from && startsAt(words, start, from, to)) {
                        return WORD + number;
                    }
                    number++;
                    start = i + 1;
                }
            }
            return ODD;
        }

        private boolean startsAt(String words, int start, int from, int to) {
            for (int i = from; i < to; i++) {
                int at = start + i - from;
                if (at < 0 || at >= words.length() || words.charAt(at) != byteAt(i)) {
                    return false;
                }
            }
            return true;
        }

        private static boolean isLetter(int c) {
            return c >= 'a' && c <= 'z' || c >= 'A' && c <= 'Z';
        }

        private static boolean isDigit(int c) {
            return c >= '0' && c <= '9';
        }
    }

    /** Reads a TEXT into a draft, so that the one that stands stays as it was if there is a FAULT. */
    private static final class Reader {
        private static final String LAW_WORDS =
            "come long shy when or and not deer mark calm since came salt noise gate season today";
        private static final String PLAN_WORDS = "on salt noise gate eat free";
        private static final String DUES_WORDS = "due on after";
        private static final String FEASTS_WORDS = "feast for";

        private static final int WHEN = Tape.WORD + 3;
        private static final int OR = Tape.WORD + 4;
        private static final int AND = Tape.WORD + 5;
        private static final int NOT = Tape.WORD + 6;
        private static final int FIRST_FACT = Tape.WORD + 7;
        private static final int DUE_ON = Tape.WORD + 1;
        private static final int DUE_AFTER = Tape.WORD + 2;
        private static final int FEAST_FOR = Tape.WORD + 1;

        private static final int MISPLACED = 1;
        private static final int BEYOND = 2;
        private static final int TOO_MANY = 3;

        private static final int DEEPEST = 8;
        private static final int NUMBER_MOST = 9999;
        /** Up to eight brackets or nots are open, and an or and an and may wait in each. */
        private static final int WAITING_MOST = 32;

        final Law law = new Law();
        final Rows rows = new Rows(LINES_MOST);
        int fault;
        int faultPlace = NONE;
        private final int[] waiting = new int[WAITING_MOST];
        private final Tape tape;
        private int waitingCount;
        private int brackets;
        private int open;
        private int at;
        private int token;
        private int value;
        private int place;

        Reader(Tape tape) {
            this.tape = tape;
        }

        boolean read(int k, int deerCount) {
            fault = 0;
            faultPlace = NONE;
            if (k < TEXT_LAW || k > TEXT_FEASTS) {
                return false;
            }
            tape.split(wordsOf(k));
            at = NONE;
            step();
            law.clear();
            rows.count = 0;
            int most = k == TEXT_FEASTS ? FEASTS_MOST : LINES_MOST;
            for (int line = 0; line <= most && fault == 0 && token != Tape.END; line++) {
                int first = token - Tape.WORD;
                if (first < 0 || first > (k == TEXT_LAW ? Law.SHY : 0)) {
                    fail(MISPLACED);
                } else if (line >= most) {
                    fail(TOO_MANY);
                } else if (k == TEXT_LAW) {
                    lawLine(first);
                } else if (k == TEXT_PLAN) {
                    planLine(deerCount);
                } else if (k == TEXT_DUES) {
                    dueLine(deerCount);
                } else {
                    feastLine();
                }
            }
            return fault == 0;
        }

        private static String wordsOf(int k) {
            switch (k) {
                case TEXT_LAW: return LAW_WORDS;
                case TEXT_PLAN: return PLAN_WORDS;
                case TEXT_DUES: return DUES_WORDS;
                default: return FEASTS_WORDS;
            }
        }

        private void step() {
            at++;
            boolean isThere = at >= 0 && at < tape.tokenCount && at < TAPE_MOST;
            token = isThere ? tape.tokens[at] : Tape.END;
            value = isThere ? tape.values[at] : 0;
            place = isThere ? tape.places[at] : tape.count;
        }

        /** The first one is at the least place, since no token is looked at ahead of the ones that stand before it. */
        private void fail(int kind) {
            if (fault == 0) {
                fault = kind;
                faultPlace = place;
            }
        }

        private void take(int wanted) {
            if (token == wanted) {
                step();
            } else {
                fail(MISPLACED);
            }
        }

        private int takeNumber(int least, int most) {
            int v = value;
            if (token != Tape.NUMBER) {
                fail(MISPLACED);
            } else if (v < least || v > most) {
                fail(BEYOND);
            } else {
                step();
            }
            return v;
        }

        private void planLine(int deerCount) {
            step();
            int day = takeNumber(0, 999);
            int act = token - Tape.WORD;
            int v = 0;
            if (fault == 0 && (act < World.PLAN_SALT || act > World.PLAN_FREE)) {
                fail(MISPLACED);
            }
            if (fault != 0) {
                return;
            }
            step();
            if (act == World.PLAN_SALT || act == World.PLAN_NOISE) {
                v = takeNumber(0, 99);
            } else if (act != World.PLAN_GATE) {
                v = takeNumber(0, deerCount - 1);
            }
            take(';');
            rows.put(day, act, v, 0);
        }

        private void dueLine(int deerCount) {
            step();
            int n = takeNumber(1, 999);
            take(DUE_ON);
            int deer = takeNumber(0, deerCount - 1);
            int day = NONE;
            if (fault == 0 && token == DUE_AFTER) {
                step();
                day = takeNumber(0, 999);
            }
            take(';');
            rows.put(n, deer, day, 0);
        }

        private void feastLine() {
            step();
            int day = takeNumber(0, 30);
            take(FEAST_FOR);
            int reach = takeNumber(0, 9);
            take(';');
            rows.put(day, reach, 0, 0);
        }

        private void lawLine(int word) {
            step();
            int start = law.length;
            expression();
            int behind = law.length;
            if (fault == 0 && token == WHEN) {
                step();
                condition();
            }
            if (fault == 0) {
                take(';');
            }
            law.lines.put(word, start, behind, law.length);
        }

        /** A sum waits until the product behind it has been read. */
        private void expression() {
            int sum = 0;
            operand();
            for (int guard = 0; guard < TAPE_MOST && fault == 0; guard++) {
                int sign = token;
                if (sign == '*') {
                    step();
                    operand();
                    law.emit(Law.TIMES);
                } else if (sign == '/') {
                    step();
                    law.emit(takeNumber(1, NUMBER_MOST));
                    law.emit(Law.BY);
                } else {
                    if (sum != 0) {
                        law.emit(sum);
                    }
                    if (sign != '+' && sign != '-') {
                        return;
                    }
                    sum = sign == '+' ? Law.PLUS : Law.MINUS;
                    step();
                    operand();
                }
            }
        }

        private void operand() {
            int fact = token - FIRST_FACT;
            if (token == Tape.NUMBER) {
                law.emit(value);
                step();
            } else if (fact >= 0 && fact < Law.FACTS) {
                law.emit(-1 - fact);
                step();
            } else {
                fail(MISPLACED);
            }
        }

        private void condition() {
            waitingCount = 0;
            brackets = 0;
            open = 0;
            boolean goesOn = true;
            for (int guard = 0; guard <= TAPE_MOST && goesOn && fault == 0; guard++) {
                int first = token;
                if (first == '(' || first == NOT) {
                    openOne(first);
                } else {
                    comparison();
                    goesOn = fault == 0 && goOnBehind();
                }
            }
        }

        private void openOne(int sign) {
            if (open >= DEEPEST) {
                fail(TOO_MANY);
                return;
            }
            open++;
            if (sign == '(') {
                brackets++;
            }
            hold(sign);
            step();
        }

        private void comparison() {
            expression();
            int sign = token;
            if (fault == 0 && sign != '<' && sign != '=' && sign != '>') {
                fail(MISPLACED);
            }
            if (fault != 0) {
                return;
            }
            step();
            expression();
            law.emit(sign == '<' ? Law.LESS : sign == '=' ? Law.SAME : Law.MORE);
        }

        /** Behind a whole C: false where B ends. */
        private boolean goOnBehind() {
            closeNots();
            for (int guard = 0; guard < DEEPEST && brackets > 0 && token == ')'; guard++) {
                joinDownTo(OR);
                waitingCount--;
                brackets--;
                open--;
                step();
                closeNots();
            }
            int link = token;
            if (link == AND || link == OR) {
                joinDownTo(link);
                hold(link);
                step();
                return true;
            }
            if (brackets > 0) {
                fail(MISPLACED);
            } else {
                joinDownTo(OR);
            }
            return false;
        }

        private void hold(int link) {
            if (waitingCount >= 0 && waitingCount < WAITING_MOST) {
                waiting[waitingCount] = link;
                waitingCount++;
            }
        }

        private int lastWaiting() {
            return waitingCount > 0 && waitingCount <= WAITING_MOST ? waiting[waitingCount - 1] : Tape.END;
        }

        private void closeNots() {
            while (waitingCount > 0 && lastWaiting() == NOT) {
                law.emit(Law.NOT);
                waitingCount--;
                open--;
            }
        }

        /** What binds at least as much as the link is joined ahead of it: and, and for an or the ors too. */
        private void joinDownTo(int link) {
            while (waitingCount > 0 && (lastWaiting() == AND || lastWaiting() == OR && link == OR)) {
                law.emit(lastWaiting() == AND ? Law.AND : Law.OR);
                waitingCount--;
            }
        }
    }

    /** The orders of the herd, counted over the sets of those who came first. */
    private static final class Orders {
        private static final int SETS = 1 << DEER_MOST;

        private final int[] ahead = new int[DEER_MOST];
        private final int[] upTo = new int[SETS];
        private final int[] behind = new int[SETS];
        private final int[] couples = new int[DEER_MOST * DEER_MOST];

        int howMany(World world) {
            learn(world);
            return countUpTo(herdSize(world));
        }

        private static int herdSize(World world) {
            return Math.max(0, Math.min(DEER_MOST, world.wood.count));
        }

        private void learn(World world) {
            Arrays.fill(ahead, 0);
            for (int i = 0; i < world.seen.count; i++) {
                int a = world.seen.cell(i, 0);
                int b = world.seen.cell(i, 1);
                if (world.wood.has(a) && world.wood.has(b)) {
                    ahead[b] |= 1 << a;
                }
            }
        }

        private boolean canFollow(int set, int i) {
            return (set >> i & 1) == 0 && (ahead[i] & ~set) == 0;
        }

        private int countUpTo(int size) {
            Arrays.fill(upTo, 0);
            int all = (1 << size) - 1;
            upTo[0] = 1;
            for (int set = 0; set < all; set++) {
                for (int i = 0; i < size && upTo[set] != 0; i++) {
                    if (canFollow(set, i)) {
                        upTo[set | 1 << i] += upTo[set];
                    }
                }
            }
            return upTo[all];
        }

        private void countBehind(int size) {
            Arrays.fill(behind, 0);
            int all = (1 << size) - 1;
            behind[all] = 1;
            for (int set = all - 1; set >= 0; set--) {
                for (int i = 0; i < size && upTo[set] != 0; i++) {
                    if (canFollow(set, i)) {
                        behind[set] += behind[set | 1 << i];
                    }
                }
            }
        }

        private void countCouples(int size) {
            Arrays.fill(couples, 0);
            int all = (1 << size) - 1;
            for (int set = 1; set < all; set++) {
                for (int i = 0; i < size && upTo[set] != 0; i++) {
                    int ways = canFollow(set, i) ? upTo[set] * behind[set | 1 << i] : 0;
                    for (int a = 0; a < size && ways != 0; a++) {
                        couples[a * DEER_MOST + i] += ways * (set >> a & 1);
                    }
                }
            }
        }

        int asks(World world, boolean first) {
            int size = herdSize(world);
            learn(world);
            if (countUpTo(size) < 2) {
                return NONE;
            }
            countBehind(size);
            countCouples(size);
            int least = 0;
            int couple = NONE;
            for (int a = 0; a < size; a++) {
                for (int b = a + 1; b < size; b++) {
                    int greater = Math.max(couples[a * DEER_MOST + b], couples[b * DEER_MOST + a]);
                    if (couple == NONE || greater < least) {
                        least = greater;
                        couple = a * DEER_MOST + b;
                    }
                }
            }
            return couple == NONE ? NONE : first ? couple / DEER_MOST : couple % DEER_MOST;
        }

        /** Whoever can follow at all can follow in some order, unless there is none: then nobody is left who can. */
        int placeOfFirst(World world, int place) {
            int size = herdSize(world);
            learn(world);
            int set = 0;
            int answer = NONE;
            for (int at = 0; at < size; at++) {
                int least = leastToFollow(set, size);
                if (least == NONE) {
                    return NONE;
                }
                set |= 1 << least;
                if (at == place) {
                    answer = least;
                }
            }
            return answer;
        }

        private int leastToFollow(int set, int size) {
            for (int i = 0; i < size; i++) {
                if (canFollow(set, i)) {
                    return i;
                }
            }
            return NONE;
        }
    }

    /**
     * WORKS on the days of the deer by turns. A spot is a day and the hours used on it, the day above:
     * of two spots the lesser one never leads to a greater one, so the least of each set of works is enough.
     */
    private static final class Labour {
        private static final int SPOT_HOURS = 32;
        private static final int START = 0;

        private final int[] turns = new int[DEER_MOST];
        private final int[] lengths = new int[DEER_MOST];
        private final int[] spots = new int[1 << WORKS_MOST];
        private int turnCount;

        /** False if none is ALIVE, or some work fits no day. */
        boolean takeTurns(World world) {
            int start = world.likeliestDeer();
            int longest = 0;
            turnCount = 0;
            for (int i = 0; i < DEER_MOST && start != NONE; i++) {
                int deer = Math.floorMod(start + i, DEER_MOST);
                if (world.wood.isAlive(deer)) {
                    turns[turnCount] = deer;
                    lengths[turnCount] = world.asked(Law.LONG, deer);
                    longest = Math.max(longest, lengths[turnCount]);
                    turnCount++;
                }
            }
            for (int i = 0; i < world.works.count; i++) {
                if (world.works.cell(i, 0) > longest) {
                    return false;
                }
            }
            return turnCount > 0;
        }

        private int lengthOf(int day) {
            int turn = turnCount > 0 ? Math.floorMod(day, turnCount) : 0;
            return turn < DEER_MOST ? lengths[turn] : 0;
        }

        private int spotBehind(int spot, int hours) {
            int day = spot / SPOT_HOURS;
            if (spot % SPOT_HOURS + hours <= lengthOf(day)) {
                return spot + hours;
            }
            for (int i = 1; i <= turnCount; i++) {
                if (hours <= lengthOf(day + i)) {
                    return (day + i) * SPOT_HOURS + hours;
                }
            }
            return spot;
        }

        int lastSpot(Rows works) {
            int spot = START;
            for (int i = 0; i < works.count; i++) {
                spot = spotBehind(spot, works.cell(i, 0));
            }
            return spot;
        }

        int bestSpot(Rows works) {
            int size = Math.max(0, Math.min(WORKS_MOST, works.count));
            spots[0] = START;
            for (int set = 1; set < 1 << size; set++) {
                int best = NONE;
                for (int i = 0; i < size; i++) {
                    if ((set >> i & 1) == 1) {
                        int spot = spotBehind(spots[set ^ 1 << i], works.cell(i, 0));
                        best = best == NONE ? spot : Math.min(best, spot);
                    }
                }
                spots[set] = best;
            }
            return spots[(1 << size) - 1];
        }

        int daysOf(int spot) {
            return spot == START ? 0 : spot / SPOT_HOURS + 1;
        }

        int deerOf(int spot) {
            int turn = turnCount > 0 ? Math.floorMod(spot / SPOT_HOURS, turnCount) : 0;
            return spot == START || turn >= DEER_MOST ? NONE : turns[turn];
        }
    }

    /** What else is thought of. */
    private static final class Thought {
        private static final int MONTH = 40;
        /** 40 to the 8th: above any way's days, told as digits of base 40, the first FEAST's first. */
        private static final long WAYS = 6553600000000L;
        private static final long NO_WAY = 4000000000000000000L;
        private static final int GIFTS = SALTS_MOST + 1;
        private static final int NO_SUM = -1000000;

        private final long[] best = new long[1 << FEASTS_MOST];
        private final long[] weights = new long[FEASTS_MOST];
        private final int[] can = new int[POACHERS];
        private final int[] through = new int[POACHERS * DEER_MOST];
        private final int[] sums = new int[(DEER_MOST + 1) * GIFTS];
        private final int[] gains = new int[DEER_MOST * GIFTS];

        int movedDays(Rows feasts) {
            long way = firstWay(feasts);
            return way >= NO_WAY ? NONE : (int) (way / WAYS);
        }

        int movedTo(Rows feasts, int feast) {
            long way = firstWay(feasts);
            if (way >= NO_WAY) {
                return NONE;
            }
            for (int i = FEASTS_MOST - 1; i > feast; i--) {
                way /= MONTH;
            }
            return (int) (way % MONTH);
        }

        /** Day by day over the sets of FEASTS that have theirs by then. */
        private long firstWay(Rows feasts) {
            int size = Math.max(0, Math.min(FEASTS_MOST, feasts.count));
            Arrays.fill(best, NO_WAY);
            best[0] = 0;
            for (int day = 0; day < MONTH; day++) {
                weighDay(feasts, size, day);
                offerDay(size);
            }
            return best[(1 << size) - 1];
        }

        /** The days moved weigh more than any days themselves, and an earlier FEAST's day more than all later ones. */
        private void weighDay(Rows feasts, int size, int day) {
            long digit = WAYS;
            for (int i = 0; i < size; i++) {
                int moved = Math.abs(day - feasts.cell(i, 0));
                digit /= MONTH;
                weights[i] = moved <= feasts.cell(i, 1) ? moved * WAYS + day * digit : NO_WAY;
            }
        }

        /** Greater sets first: the lesser ones that they build on are still without this day, which takes one FEAST. */
        private void offerDay(int size) {
            for (int set = (1 << size) - 1; set > 0; set--) {
                for (int i = 0; i < size; i++) {
                    long rest = (set >> i & 1) == 1 ? best[set ^ 1 << i] : NO_WAY;
                    if (rest < NO_WAY && weights[i] < NO_WAY) {
                        best[set] = Math.min(best[set], rest + weights[i]);
                    }
                }
            }
        }

        int leastWatch(Rows paths) {
            int all = (1 << GATES) - 1;
            int least = all;
            for (int set = 0; set < all; set++) {
                if (Integer.bitCount(set) < Integer.bitCount(least) && watchesAll(paths, set)) {
                    least = set;
                }
            }
            return least;
        }

        private static boolean watchesAll(Rows paths, int set) {
            for (int i = 0; i < paths.count; i++) {
                if ((set >> paths.cell(i, 0) & 1) == 0 && (set >> paths.cell(i, 1) & 1) == 0) {
                    return false;
                }
            }
            return true;
        }

        int waysToHaveEaten(Rows ate) {
            Arrays.fill(can, 0);
            Arrays.fill(through, 0);
            for (int i = 0; i < ate.count; i++) {
                int poacher = ate.cell(i, 0);
                if (poacher >= 0 && poacher < POACHERS) {
                    can[poacher] |= 1 << ate.cell(i, 1);
                }
            }
            return waysFrom(can, through, 0, 0);
        }

        /** The poacher is the depth that is carried along: none goes beyond the last one. */
        private static int waysFrom(int[] can, int[] through, int poacher, int eaten) {
            if (poacher < 0 || poacher >= POACHERS || poacher >= can.length) {
                return 1;
            }
            if (can[poacher] == 0) {
                return waysFrom(can, through, poacher + 1, eaten);
            }
            int ways = 0;
            for (int i = 0; i < DEER_MOST; i++) {
                int at = poacher * DEER_MOST + i;
                if (((can[poacher] & ~eaten) >> i & 1) == 1 && at < through.length) {
                    int behind = waysFrom(can, through, poacher + 1, eaten | 1 << i);
                    through[at] += behind;
                    ways += behind;
                }
            }
            return ways;
        }

        int sureCouples(int ways) {
            int sure = 0;
            for (int i = 0; i < through.length && ways > 0; i++) {
                if (through[i] == ways) {
                    sure++;
                }
            }
            return sure;
        }

        int nearestHour(Rows votes) {
            int nearest = 0;
            for (int hour = 1; hour <= DUSK_MOST; hour++) {
                if (farness(votes, hour) < farness(votes, nearest)) {
                    nearest = hour;
                }
            }
            return nearest;
        }

        int farness(Rows votes, int hour) {
            int sum = 0;
            for (int i = 0; i < votes.count; i++) {
                sum += Math.abs(votes.cell(i, 0) - hour);
            }
            return sum;
        }

        int saltedSum(World world, int s) {
            giveSalts(world, s);
            return s >= 0 && s < GIFTS ? sums[s] : 0;
        }

        int saltGiven(World world, int s, int deer) {
            giveSalts(world, s);
            int left = s;
            int given = 0;
            for (int i = 0; i <= deer && i < DEER_MOST; i++) {
                given = world.wood.isAlive(i) ? fewest(i, left) : 0;
                left -= given;
            }
            return given;
        }

        private int fewest(int deer, int left) {
            for (int gift = 0; gift <= left && left < GIFTS; gift++) {
                int rest = sums[(deer + 1) * GIFTS + left - gift];
                if (gains[deer * GIFTS + gift] + rest == sums[deer * GIFTS + left]) {
                    return gift;
                }
            }
            return 0;
        }

        /** From the last one on: the greatest sum of all from a DEER on, for whatever is left to give out there. */
        private void giveSalts(World world, int s) {
            Arrays.fill(sums, NO_SUM);
            sums[DEER_MOST * GIFTS] = 0;
            for (int i = DEER_MOST - 1; i >= 0; i--) {
                if (world.wood.isAlive(i)) {
                    askGains(world, i, s);
                    addGains(i, s);
                } else {
                    System.arraycopy(sums, (i + 1) * GIFTS, sums, i * GIFTS, GIFTS);
                }
            }
        }

        private void askGains(World world, int deer, int s) {
            for (int gift = 0; gift <= s && gift < GIFTS; gift++) {
                int own = Math.min(SALT_MOST, world.wood.salt + gift);
                gains[deer * GIFTS + gift] = world.comeWithSalt(deer, own);
            }
        }

        private void addGains(int deer, int s) {
            for (int left = 0; left <= s && left < GIFTS; left++) {
                for (int gift = 0; gift <= left; gift++) {
                    int sum = gains[deer * GIFTS + gift] + sums[(deer + 1) * GIFTS + left - gift];
                    sums[deer * GIFTS + left] = Math.max(sums[deer * GIFTS + left], sum);
                }
            }
        }

        /** One's antlers count modulo 4 in such a game: a heap of four more is lost and won alike. */
        int antlersOf(Wood wood) {
            for (int i = 0; i < DEER_MOST; i++) {
                if (wood.isAlive(i) && antlersTaken(wood, i) != NONE) {
                    return i;
                }
            }
            return NONE;
        }

        int antlersTaken(Wood wood, int deer) {
            int others = 0;
            for (int i = 0; i < DEER_MOST; i++) {
                if (wood.isAlive(i) && i != deer) {
                    others ^= wood.came[i] & 3;
                }
            }
            int taken = wood.has(deer) ? wood.came[deer] - others & 3 : 0;
            return taken >= 1 && taken <= wood.came[deer] ? taken : NONE;
        }
    }
}
