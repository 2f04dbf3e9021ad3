/** Part 4 of the terms: what is asked in thought, UNDO, THE IMAGE. */
final class ThoughtBounds {
    private static final int NONE = DeerDays.NONE;
    private static final int MILLION = 1000000;

    private ThoughtBounds() { }

    private static void due(String what, long got, long want) {
        Check.due(what, got, want);
    }

    private static void due(String what, boolean got, boolean want) {
        Check.due(what, got, want);
    }

    private static int[] looks(DeerDays x) {
        int[] all = new int[21 + 16];
        for (int what = 0; what <= 20; what++) {
            all[what] = x.look(what);
        }
        for (int i = 0; i < 16; i++) {
            all[21 + i] = x.of(i / 8, i % 8);
        }
        return all;
    }

    private static void alike(String what, int[] got, int[] want) {
        for (int i = 0; i < want.length; i++) {
            due(what + " " + i, got[i], want[i]);
        }
    }

    @Sentence("IN THOUGHT (nothing of it stays; no DRAWS).")
    static void nothingStaysOfWhatIsThought() {
        DeerDays x = Check.herd(0, 5, 1, 6);
        Check.told(x, 1, "on 0 salt 9; on 1 gate; on 2 eat 0;", 3);
        Check.told(x, 2, "due 1 on 0; due 2 on 1;", 2);
        Check.told(x, 3, "feast 1 for 1; feast 1 for 1;", 2);
        x.seen(1, 0);
        x.work(3);
        x.gate(1, 2);
        x.ate(1, 1);
        x.vote(9);
        x.set(3, 0, 500);
        x.set(4, 0, 500);
        x.state(99);
        x.days(1);
        int[] was = looks(x);
        int paid = x.due(0, 3) * 2 + x.due(1, 3);
        x.next(0, 0);
        x.next(0, 60);
        x.likeliest();
        x.goes(99, 0);
        x.reads(0);
        x.orders(0);
        x.orders(1);
        x.moves(0);
        x.works(0);
        x.works(2);
        x.watch(0);
        x.ways(0);
        x.votes(0);
        x.salts(20, 0);
        x.nods(0, 1);
        x.game(0);
        alike("as it was", looks(x), was);
        due("DUES paid as they were", x.due(0, 3) * 2 + x.due(1, 3), paid);
        due("undone still", x.undo(), true);
    }

    // ---- NEXT, LIKELIEST, BY, GOES, READS

    @Sentence("NEXT: of a million, how likely a DEER comes at the next dawn (come, MIST as now; A PLAN aside): a million times come by the sum "
        + "(0 with a sum of 0), then times (1000 less MIST) by 1000, downwards each.")
    static void nextOfAMillion() {
        DeerDays x = Check.herd(0, 0, 0, 0, 0, 0);
        Check.told(x, 0, "come 0;", 1);
        due("a sum of 0", x.next(0, 0), 0);
        Check.onlyComes(x, 0);
        due("all of the sum", x.next(0, 0), MILLION);
        due("nothing of the sum", x.next(1, 0), 0);
        int[] mist = {0, 1, 500, 999, 1000};
        int[] sure = {1000000, 999000, 500000, 1000, 0};
        int[] third = {333333, 332999, 166666, 333, 0};
        for (int i = 0; i < mist.length; i++) {
            x.set(4, 0, mist[i]);
            Check.onlyComes(x, 0);
            due("sure with MIST " + mist[i], x.next(0, 0), sure[i]);
            Check.told(x, 0, "", 0);
            due("a third with MIST " + mist[i], x.next(0, 0), third[i]);
        }
        x.set(4, 0, 0);
        Check.told(x, 0, "come 999 when deer = 0; come 1;", 2);
        due("1 by 1001, downwards", x.next(1, 0), 999);
        due("999 by 1001, downwards", x.next(0, 0), 998001);
        Check.told(x, 1, "on 0 eat 0; on 0 eat 2; on 0 salt 9;", 3);
        due("A PLAN aside", x.next(1, 0), 999);
        x.eat(0, true);
        due("not ALIVE, not in the sum", x.next(1, 0), 500000);
        due("not ALIVE", x.next(0, 0), 0);
    }

    @Sentence("LIKELIEST: the ALIVE one with greatest come (of several the least).")
    static void likeliestOfSeveral() {
        DeerDays x = Check.herd(0, 3, 0, 5, 0, 5, 0, 4);
        due("all alike", x.likeliest(), 0);
        Check.told(x, 0, "come calm;", 1);
        due("the first of both", x.likeliest(), 1);
        x.set(6, 2, 6);
        due("one above", x.likeliest(), 2);
        x.set(6, 2, 4);
        due("one below", x.likeliest(), 1);
        x.eat(1, true);
        due("not ALIVE", x.likeliest(), 2);
        Check.told(x, 0, "come 0;", 1);
        due("all of 0", x.likeliest(), 0);
        x.eat(0, true);
        due("all of 0, the least ALIVE one", x.likeliest(), 2);
        x.eat(2, true);
        due("the last ALIVE one", x.likeliest(), 3);
        x.eat(3, true);
        due("none ALIVE", x.likeliest(), NONE);
    }

    /** What is left of a million at a third each: 666667, 444445, 296297; at a half it comes down to 1 and stays. */
    @Sentence("BY n (1 .. 60) days: of a million, if each dawn were as the next one: a million less what is left of a million, "
        + "n times less what NEXT is of it (downwards).")
    static void byOneTo60Days() {
        DeerDays x = Check.herd(0, 0, 0, 0, 0, 0);
        due("n below 0", x.next(0, -1), NONE);
        due("n 0 is NEXT", x.next(0, 0), 333333);
        due("n 1", x.next(0, 1), 333333);
        due("n 2", x.next(0, 2), 555555);
        due("n 3", x.next(0, 3), 703703);
        due("n 61", x.next(0, 61), NONE);
        x.eat(2, true);
        due("a half, n 1", x.next(0, 1), 500000);
        due("a half, n 6", x.next(0, 6), 984375);
        due("a half, n 7, downwards", x.next(0, 7), 992187);
        due("a half, n 59", x.next(0, 59), 999999);
        due("a half, n 60", x.next(0, 60), 999999);
        x.eat(1, true);
        due("sure, n 1", x.next(0, 1), MILLION);
        due("sure, n 60", x.next(0, 60), MILLION);
        x.set(4, 0, 1000);
        due("never, n 60", x.next(0, 60), 0);
        x.set(4, 0, 999);
        due("a thousandth, n 1", x.next(0, 1), 1000);
        due("a thousandth, n 2", x.next(0, 2), 1999);
        due("a thousandth, n 3, downwards", x.next(0, 3), 2997);
    }

    @Sentence("GOES for n (1 .. 99) DAYS, if at each dawn LIKELIEST comes (mist only if the sum is 0; no wolves; A PLAN, DUES go on): COIN, HOURS then; "
        + "how many DUES of all are paid then; TODAY then.")
    static void goesFor1To99Days() {
        DeerDays x = Check.herd(0, 0, 0, 3);
        x.set(3, 0, 1000);
        x.set(4, 0, 1000);
        Check.told(x, 2, "due 5 on 0; due 7 on 1 after 97; due 9 on 1 after 98; due 11 on 0 after 99;", 4);
        due("n 0", x.goes(0, 1), NONE - 99999);
        due("n 100", x.goes(100, 1), NONE - 99999);
        due("n 1: HOURS", x.goes(1, 1), 6);
        due("n 1: TODAY", x.goes(1, 3), 0);
        due("n 2: HOURS", x.goes(2, 1), 15);
        due("n 2: TODAY", x.goes(2, 3), 1);
        due("n 98: COIN", x.goes(98, 0), -5);
        due("n 99: COIN", x.goes(99, 0), -5);
        due("n 98: HOURS", x.goes(98, 1), 49 * 15);
        due("n 99: HOURS", x.goes(99, 1), 49 * 15 + 6);
        due("n 99: DUES paid", x.goes(99, 2), 1);
        due("n 99: TODAY", x.goes(99, 3), 0);
        x.days(1);
        due("mist in truth", x.look(2), NONE);
        due("wolves in truth", x.look(8), 2);
        due("n 98 from DAY 1: COIN", x.goes(98, 0), -7);
        due("n 99 from DAY 1: DUES paid", x.goes(99, 2), 2);
        x.eat(0, false);
        Check.told(x, 0, "come 0;", 1);
        due("a sum of 0 is mist", x.goes(1, 3), NONE);
        due("a sum of 0 is mist", x.goes(3, 1), 5 + 15);
        Check.told(x, 0, "come salt; long gate + 3;", 2);
        Check.told(x, 1, "on 2 salt 3; on 3 gate; on 5 eat 0; on 5 salt 3;", 4);
        due("no SALT yet: mist", x.goes(1, 3), NONE);
        due("A PLAN goes on", x.goes(2, 3), 0);
        due("A PLAN goes on", x.goes(3, 1), 5 + 5 + 3 + 4);
        due("till the SALT is gone", x.goes(4, 1), 5 + 5 + 3 + 4 + 4);
        due("A PLAN goes on", x.goes(5, 3), 1);
    }

    @Sentence("READS of a DUE whose DEER is not ALIVE: the ALIVE one with MARK nearest to its own (of several with CALM nearest, then the least).")
    static void readsOnTheNearest() {
        DeerDays x = Check.herd(2, 5, 4, 5, 1, 9, 3, 2, 3, 8, 3, 8);
        Check.told(x, 2, "due 1 on 0; due 1 on 5;", 2);
        due("ALIVE", x.reads(0), NONE);
        x.eat(0, true);
        due("MARK 1 off, CALM 3 off, the least of both", x.reads(0), 3);
        x.set(6, 4, 7);
        due("CALM 2 off", x.reads(0), 4);
        x.set(6, 4, 9);
        due("CALM 4 off", x.reads(0), 3);
        x.set(6, 2, 8);
        due("MARK below, CALM alike, the least", x.reads(0), 2);
        x.set(6, 2, 9);
        x.set(5, 1, 2);
        due("MARK alike", x.reads(0), 1);
        x.set(6, 1, 0);
        due("MARK alike, CALM however far", x.reads(0), 1);
        x.set(6, 5, 9);
        x.eat(5, true);
        x.set(5, 1, 0);
        x.set(6, 3, 9);
        due("the first of both", x.reads(1), 3);
        for (int i = 1; i <= 4; i++) {
            x.eat(i, true);
        }
        due("none ALIVE", x.reads(0), NONE);
        x.eat(5, false);
        due("the last one", x.reads(0), 5);
    }

    // ---- SEEN, ORDERS, ASK

    @Sentence("SEEN, up to 12 told: DEER a came ahead of b in the year.")
    static void seenUpTo12() {
        DeerDays x = Check.herd(0, 0, 0, 0);
        for (int i = 1; i <= 11; i++) {
            due("told", x.seen(1, 0), i);
        }
        due("the 12th", x.seen(1, 0), 12);
        due("the 13th", x.seen(1, 0), NONE);
        due("how many", x.look(15), 12);
        due("the 13th changes nothing", x.seen(0, 1) == NONE && x.orders(0) == 1, true);
        due("a ahead of b", x.orders(10), 1);
        due("b behind a", x.orders(11), 0);
    }

    @Sentence("ORDERS: in how many orders of all DEER (each once) all SEEN are so; the first one (the lesser ahead).")
    static void ordersOfNoneToTen() {
        DeerDays x = new DeerDays();
        due("of none", x.orders(0), 1);
        int[] all = {1, 1, 2, 6, 24, 120, 720, 5040, 40320, 362880, 3628800};
        for (int i = 1; i <= 10; i++) {
            x.deer(0, 0);
            due("of " + i, x.orders(0), all[i]);
        }
        for (int i = 0; i < 10; i++) {
            due("the first, the lesser ahead", x.orders(10 + i), i);
        }
        x.eat(3, true);
        due("of all, not of the ALIVE", x.orders(0), 3628800);
        x.seen(9, 0);
        due("a half of all", x.orders(0), 1814400);
        int[] first = {1, 2, 3, 4, 5, 6, 7, 8, 9, 0};
        for (int i = 0; i < 10; i++) {
            due("the first with 9 ahead of 0", x.orders(10 + i), first[i]);
        }
        x.seen(9, 0);
        due("told twice", x.orders(0), 1814400);
        x.seen(0, 1);
        due("a sixth", x.orders(0), 604800);
        x.seen(1, 9);
        due("none", x.orders(0), 0);
        due("none is the first", x.orders(10), NONE);
    }

    private static void asks(DeerDays x, int a, int b) {
        due("a", x.orders(1), a);
        due("b", x.orders(2), b);
    }

    @Sentence("ASK: of couples a below b the one for which, of these, the greater number of those with a ahead and those with b ahead is least; "
        + "of several the first (a, then b).")
    static void askTheFirstOfTheLeast() {
        DeerDays x = Check.herd(0, 0);
        asks(x, NONE, NONE);
        x.deer(0, 0);
        asks(x, 0, 1);
        x.seen(1, 0);
        asks(x, NONE, NONE);
        x.seen(NONE, 0);
        x.deer(0, 0);
        asks(x, 0, 1);
        x.seen(0, 1);
        asks(x, 0, 2);
        x.seen(0, 2);
        asks(x, 1, 2);
        x.seen(NONE, 0);
        x.seen(2, 1);
        asks(x, 0, 1);
        x.seen(0, 1);
        asks(x, 0, 2);
        x.deer(0, 0);
        x.seen(NONE, 0);
        x.seen(0, 1);
        asks(x, 2, 3);
        x.seen(2, 3);
        asks(x, 0, 2);
        x.seen(0, 2);
        asks(x, 1, 2);
    }

    // ---- MOVES, WORKS

    private static void moved(DeerDays x, String feasts, int days, int... to) {
        Check.told(x, 3, feasts, feasts.length() - feasts.replace(";", "").length());
        due("days moved of [" + feasts + "]", x.moves(0), days);
        for (int i = 0; i < to.length; i++) {
            due("FEAST " + i + " of [" + feasts + "]", x.moves(10 + i), to[i]);
        }
    }

    /** No FEAST can go below DAY 0; that none goes above 39 follows from 30 and 9. */
    @Sentence("MOVES of FEASTS: each to a DAY 0 .. 39 no farther from its own one than it can be moved, no two on one DAY: the fewest days moved in all;")
    static void movesFromDay0On() {
        DeerDays x = new DeerDays();
        moved(x, "", 0);
        moved(x, "feast 3 for 0;", 0, 3);
        moved(x, "feast 3 for 0;feast 3 for 0;", NONE, NONE, NONE);
        moved(x, "feast 3 for 0;feast 3 for 1;", 1, 3, 2);
        moved(x, "feast 3 for 0;feast 4 for 0;", 0, 3, 4);
        moved(x, "feast 0 for 1;feast 0 for 1;", 1, 0, 1);
        moved(x, "feast 0 for 1;feast 0 for 1;feast 0 for 1;", NONE, NONE, NONE, NONE);
        moved(x, "feast 1 for 1;feast 1 for 1;feast 1 for 1;", 2, 0, 1, 2);
        moved(x, "feast 1 for 1;feast 1 for 1;feast 1 for 1;feast 1 for 1;", NONE);
        moved(x, "feast 0 for 6;".repeat(8), NONE);
        moved(x, "feast 0 for 7;".repeat(8), 28, 0, 1, 2, 3, 4, 5, 6, 7);
        moved(x, "feast 30 for 0;feast 30 for 1;feast 30 for 2;feast 29 for 0;", 3, 30, 31, 28, 29);
        moved(x, "feast 30 for 4;".repeat(8), 16, 26, 27, 28, 29, 30, 31, 32, 33);
        moved(x, "feast 30 for 3;".repeat(8), NONE);
    }

    /** The fewest days moved go ahead of the lesser DAY. Seven that stay are the most that can stand in one's way. */
    @Sentence("of a FEAST its DAY: of several ways the first (FEAST by FEAST, the lesser).")
    static void movesTheFirstWay() {
        DeerDays x = new DeerDays();
        moved(x, "feast 5 for 9;feast 5 for 0;", 1, 4, 5);
        moved(x, "feast 5 for 0;feast 5 for 9;", 1, 5, 4);
        moved(x, "feast 5 for 9;feast 5 for 9;", 1, 4, 5);
        moved(x, "feast 5 for 9;feast 5 for 0;feast 4 for 0;", 1, 6, 5, 4);
        moved(x, "feast 5 for 9;feast 5 for 9;feast 5 for 9;", 2, 4, 5, 6);
        moved(x, "feast 5 for 9;feast 5 for 9;feast 5 for 9;feast 5 for 9;", 4, 3, 4, 5, 6);
        moved(x, "feast 5 for 9;feast 5 for 9;feast 4 for 9;", 1, 5, 6, 4);
        moved(x, "feast 5 for 9;feast 5 for 9;feast 4 for 0;", 1, 5, 6, 4);
        moved(x, "feast 6 for 0;feast 0 for 9;feast 0 for 0;feast 1 for 0;feast 2 for 0;feast 3 for 0;feast 4 for 0;feast 5 for 0;", 7, 6, 7);
        moved(x, "feast 2 for 9;feast 0 for 0;feast 1 for 0;feast 2 for 0;feast 3 for 0;feast 4 for 0;feast 5 for 0;feast 6 for 0;", 5, 7);
        moved(x, "feast 2 for 4;feast 0 for 0;feast 1 for 0;feast 2 for 0;feast 3 for 0;feast 4 for 0;feast 5 for 0;feast 6 for 0;", NONE, NONE);
        moved(x, "feast 30 for 9;feast 30 for 0;feast 29 for 0;", 1, 31, 30, 29);
    }

    @Sentence("WORKS, up to 8 told, of 1 .. 24 hours each:")
    static void worksUpTo8Of1To24Hours() {
        DeerDays x = Check.herd(0, 0);
        Check.told(x, 0, "long 24;", 1);
        due("0 hours", x.work(0), NONE);
        due("25 hours", x.work(25), NONE);
        due("below", x.work(-2), NONE);
        int[] hours = {1, 2, 23, 24, 24, 24, 24};
        for (int i = 0; i < 7; i++) {
            due("told", x.work(hours[i]), i + 1);
        }
        due("days of seven", x.works(0), 6);
        due("the 8th", x.work(24), 8);
        due("days of eight", x.works(0), 7);
        due("the 9th", x.work(24), NONE);
        due("how many", x.look(16), 8);
        due("days of eight still", x.works(0), 7);
    }

    private static void worked(DeerDays x, int days, int deer, int... hours) {
        x.work(NONE);
        for (int h : hours) {
            x.work(h);
        }
        due("days of " + hours.length + " works", x.works(0), days);
        due("the DEER of " + hours.length + " works", x.works(1), deer);
    }

    @Sentence("one behind the other in their order, on days as long as long of the ALIVE DEER by turns (by number, from LIKELIEST on, round; as now), "
        + "none parted, on the first day from then on that has room for it:")
    static void worksOnTheFirstDayWithRoom() {
        DeerDays x = Check.herd(0, 0, 0, 1, 0, 2, 0, 3);
        Check.told(x, 0, "come 2 when deer = 2; come 1; long 8 when deer = 0; long 20 when deer = 1; long 5 when deer = 2; long 6;", 6);
        x.eat(1, true);
        worked(x, 1, 2, 4);
        worked(x, 1, 2, 5);
        worked(x, 2, 3, 6);
        worked(x, 3, 0, 7);
        worked(x, 3, 0, 8);
        worked(x, NONE, NONE, 9);
        worked(x, 1, 2, 2, 3);
        worked(x, 2, 3, 2, 4);
        worked(x, 2, 3, 3, 3, 3);
        worked(x, 3, 0, 3, 3, 4);
        worked(x, 4, 2, 8, 1);
        worked(x, 4, 2, 8, 5);
        worked(x, 5, 3, 8, 6);
        worked(x, 6, 0, 8, 7);
        worked(x, 6, 0, 8, 8);
        worked(x, 3, 0, 7, 1);
        worked(x, 4, 2, 7, 2);
        x.eat(2, true);
        worked(x, 1, 0, 8);
        worked(x, 2, 3, 5, 4);
        Check.told(x, 1, "on 0 eat 0;", 1);
        worked(x, 1, 0, 8);
        Check.told(x, 0, "come deer; long salt;", 2);
        x.set(0, 0, 7);
        worked(x, 1, 3, 7);
        worked(x, 2, 0, 4, 4);
        worked(x, 3, 3, 4, 4, 4);
        worked(x, NONE, NONE, 8);
    }

    @Sentence("how many days it takes (from the first dawn on to the day of the last one); the DEER of that day.")
    static void worksFromTheFirstDawnOn() {
        DeerDays x = Check.herd(0, 0, 0, 0);
        Check.told(x, 0, "come 1; long 3 when deer = 0; long 9;", 3);
        worked(x, 0, NONE);
        worked(x, 1, 0, 3);
        worked(x, 2, 1, 4);
        worked(x, 2, 1, 9);
        worked(x, 4, 1, 9, 9);
        worked(x, 16, 1, 9, 9, 9, 9, 9, 9, 9, 9);
        worked(x, 15, 0, 9, 9, 9, 9, 9, 9, 9, 3);
        x.days(7);
        worked(x, 1, 0, 3);
    }

    @Sentence("ORDERED best: the fewest days in whatever order.")
    static void worksOrderedBest() {
        DeerDays x = Check.herd(0, 0, 0, 0);
        Check.told(x, 0, "long 3 when deer = 0; long 9;", 2);
        due("none", x.works(2), 0);
        worked(x, 4, 1, 9, 9);
        due("either order", x.works(2), 4);
        worked(x, 3, 0, 9, 3);
        due("3, 9", x.works(2), 2);
        worked(x, 5, 0, 9, 3, 9, 3);
        due("3, 9, 3, 9", x.works(2), 4);
        worked(x, 2, 1, 1, 5, 2, 1);
        due("no order in one day", x.works(2), 2);
        worked(x, 3, 0, 4, 5, 2, 1);
        due("1 and 2, 4 and 5", x.works(2), 2);
        worked(x, 9, 0, 9, 3, 9, 3, 9, 3, 9, 3);
        due("by turns", x.works(2), 8);
        x.work(NONE);
        x.work(10);
        due("fits no day", x.works(2), NONE);
    }

    // ---- GATES, ATE, VOTES

    @Sentence("GATES 0 .. 9: up to 14 paths between two of them are told.")
    static void gates0To9And14Paths() {
        DeerDays x = new DeerDays();
        due("below", x.gate(-2, 0), NONE);
        due("below", x.gate(0, -1), NONE);
        due("above", x.gate(10, 0), NONE);
        due("above", x.gate(0, 10), NONE);
        due("of one", x.gate(0, 0), NONE);
        due("of one", x.gate(9, 9), NONE);
        due("least and most", x.gate(0, 9), 1);
        due("most and least", x.gate(9, 0), 2);
        due("next to them", x.gate(1, 8), 3);
        for (int i = 4; i <= 13; i++) {
            due("told", x.gate(1, 8), i);
        }
        due("the 14th", x.gate(2, 3), 14);
        due("the 15th", x.gate(4, 5), NONE);
        due("how many", x.look(17), 14);
        due("watched", x.watch(1), 1 + 2 + 4);
    }

    @Sentence("WATCH: the fewest GATES so that each path has a watched end: how many; the set (of several the least).")
    static void watchTheFewest() {
        DeerDays x = new DeerDays();
        due("no path: how many", x.watch(0), 0);
        due("no path: the set", x.watch(1), 0);
        x.gate(9, 8);
        due("one path: how many", x.watch(0), 1);
        due("one path: the lesser end", x.watch(1), 256);
        x.gate(9, 7);
        due("two paths with one end", x.watch(1), 512);
        x.gate(8, 7);
        due("a ring of three: how many", x.watch(0), 2);
        due("a ring of three: the least", x.watch(1), 128 + 256);
        x.gate(NONE, 0);
        for (int i = 0; i < 10; i += 2) {
            x.gate(i, i + 1);
        }
        due("five apart: how many", x.watch(0), 5);
        due("five apart: the lesser ends", x.watch(1), 1 + 4 + 16 + 64 + 256);
        x.gate(NONE, 0);
        for (int i = 6; i <= 9; i++) {
            for (int j = i + 1; j <= 9; j++) {
                x.gate(i, j);
            }
        }
        due("each of four to each", x.watch(1), 64 + 128 + 256);
        x.gate(9, 0);
        due("one more at the last of them", x.watch(1), 64 + 128 + 512);
    }

    @Sentence("ATE: up to 20 times is told that poacher a (0 .. 6) can have eaten DEER b:")
    static void ateUpTo20Times() {
        DeerDays x = Check.herd(0, 0, 0, 0);
        due("below", x.ate(-2, 0), NONE);
        due("above", x.ate(7, 0), NONE);
        due("DEER below", x.ate(0, -1), NONE);
        due("DEER above", x.ate(0, 2), NONE);
        due("least", x.ate(0, 0), 1);
        due("most", x.ate(6, 1), 2);
        due("next to them", x.ate(5, 1), 3);
        for (int i = 4; i <= 19; i++) {
            due("told", x.ate(5, 1), i);
        }
        due("the 20th", x.ate(1, 1), 20);
        due("the 21st", x.ate(2, 1), NONE);
        due("how many", x.look(18), 20);
        x.ate(NONE, 0);
        x.eat(1, true);
        due("one that is not ALIVE", x.ate(6, 1), 1);
    }

    @Sentence("in how many ways each poacher of whom something is told ate one such, no two the same one; "
        + "SURE: how many told couples are so in all of these (none, if there are none).")
    static void waysAndSure() {
        DeerDays x = Check.herd(0, 0, 0, 0, 0, 0);
        due("nothing told: one way", x.ways(0), 1);
        due("nothing told: none SURE", x.ways(1), 0);
        x.ate(0, 0);
        due("one", x.ways(0), 1);
        due("one SURE", x.ways(1), 1);
        x.ate(0, 1);
        due("one of two", x.ways(0), 2);
        due("none SURE", x.ways(1), 0);
        x.ate(6, 1);
        due("no two the same one", x.ways(0), 1);
        due("both SURE", x.ways(1), 2);
        x.ate(6, 2);
        due("two by two", x.ways(0), 3);
        due("none SURE", x.ways(1), 0);
        x.ate(3, 0);
        due("three", x.ways(0), 1);
        due("3 ate 0, 0 ate 1, 6 ate 2: SURE", x.ways(1), 3);
    }

    @Sentence("VOTES, up to 9 told, 0 .. 24, for the hour of dusk:")
    static void votesUpTo9From0To24() {
        DeerDays x = new DeerDays();
        due("below", x.vote(-2), NONE);
        due("above", x.vote(25), NONE);
        int[] hours = {0, 1, 23, 24, 0, 0, 0, 24};
        for (int i = 0; i < 8; i++) {
            due("told", x.vote(hours[i]), i + 1);
        }
        due("of eight the least", x.votes(0), 0);
        due("the 9th", x.vote(24), 9);
        due("of nine the middle", x.votes(0), 1);
        due("the 10th", x.vote(24), NONE);
        due("how many", x.look(19), 9);
        due("of nine still", x.votes(0), 1);
    }

    @Sentence("the hour from which all together are nearest (the sum of how far; of several the least); that sum.")
    static void voteOfTheNearestHour() {
        DeerDays x = new DeerDays();
        x.vote(0);
        due("one of 0: the hour", x.votes(0), 0);
        due("one of 0: the sum", x.votes(1), 0);
        x.vote(24);
        due("0 and 24: of all the least", x.votes(0), 0);
        due("0 and 24: the sum", x.votes(1), 24);
        x.vote(24);
        due("0, 24, 24: the hour", x.votes(0), 24);
        due("0, 24, 24: the sum", x.votes(1), 24);
        x.vote(9);
        due("0, 9, 24, 24: of 9 to 24 the least", x.votes(0), 9);
        due("0, 9, 24, 24: the sum", x.votes(1), 39);
        x.vote(10);
        due("0, 9, 10, 24, 24: the hour", x.votes(0), 10);
        due("0, 9, 10, 24, 24: the sum", x.votes(1), 39);
    }

    // ---- SALTS, NODS, GAME

    @Sentence("SALTS of s (1 .. 20): s given out to ALIVE DEER so that the sum of their come, each with SALT and what it is given as its own salt "
        + "(99 at most), is greatest: that sum;")
    static void saltsOf1To20() {
        DeerDays x = Check.herd(0, 0, 0, 0);
        Check.told(x, 0, "come salt * 2 when deer = 1; come salt;", 2);
        due("s 0", x.salts(0, 0), NONE);
        due("s below 0", x.salts(-1, 0), NONE);
        due("s 1", x.salts(1, 0), 2);
        due("s 2", x.salts(2, 0), 4);
        due("s 19", x.salts(19, 0), 38);
        due("s 20", x.salts(20, 0), 40);
        due("s 21", x.salts(21, 0), NONE);
        x.set(0, 0, 96);
        due("SALT 96 and 1", x.salts(1, 0), 96 + 194);
        due("SALT 96 and 3", x.salts(3, 0), 96 + 198);
        due("SALT 96 and 4, 99 at most", x.salts(4, 0), 97 + 198);
        due("SALT 96 and 6", x.salts(6, 0), 99 + 198);
        due("SALT 96 and 7", x.salts(7, 0), 99 + 198);
        x.set(0, 0, 99);
        due("SALT 99", x.salts(20, 0), 99 + 198);
        x.eat(1, true);
        due("the ALIVE one alone", x.salts(5, 0), 99);
        x.set(0, 0, 0);
        due("the ALIVE one alone", x.salts(5, 0), 5);
        due("SALT stays", x.look(5), 0);
        x.eat(0, true);
        due("none ALIVE", x.salts(5, 0), NONE);
    }

    @Sentence("what one is given (not ALIVE: 0): of several ways the first (DEER by DEER, the fewer).")
    static void saltsTheFirstWay() {
        DeerDays x = Check.herd(0, 0, 0, 0, 0, 0);
        Check.told(x, 0, "come salt;", 1);
        int[] alike = {0, 0, 5, NONE};
        for (int i = 0; i <= 3; i++) {
            due("all alike: the fewer ahead, to " + i, x.salts(5, 10 + i), alike[i]);
        }
        x.eat(2, true);
        int[] eaten = {0, 5, 0, NONE};
        for (int i = 0; i <= 3; i++) {
            due("not ALIVE: 0, to " + i, x.salts(5, 10 + i), eaten[i]);
        }
        x.eat(2, false);
        Check.told(x, 0, "come 9 when deer = 0 and salt > 2; come 9 when deer = 1 and salt > 1; come 0 when deer < 2; come salt;", 4);
        int[] both = {3, 2, 0};
        int[] more = {3, 2, 1};
        for (int i = 0; i <= 2; i++) {
            due("s 5, to " + i, x.salts(5, 10 + i), both[i]);
            due("s 6, to " + i, x.salts(6, 10 + i), more[i]);
        }
        due("s 2: to 0 nothing", x.salts(2, 10), 0);
        due("s 2: to 1 all", x.salts(2, 11), 2);
        due("s 1: to the last", x.salts(1, 12), 1);
        x.set(0, 0, 98);
        Check.told(x, 0, "come salt;", 1);
        int[] most = {1, 1, 18};
        for (int i = 0; i <= 2; i++) {
            due("99 at most, to " + i, x.salts(20, 10 + i), most[i]);
        }
    }

    @Sentence("NODS of two MARKS: how many couples of ALIVE DEER have them.")
    static void nodsOfTwoMarks() {
        DeerDays x = new DeerDays();
        due("of none", x.nods(0, 5), 0);
        x.deer(0, 0);
        due("one alone", x.nods(0, 0), 0);
        x.deer(5, 0);
        due("a couple", x.nods(0, 5), 1);
        due("a couple the other way", x.nods(5, 0), 1);
        due("no couple alike", x.nods(5, 5), 0);
        x.deer(0, 0);
        due("two couples", x.nods(0, 5), 2);
        due("a couple alike", x.nods(0, 0), 1);
        x.deer(0, 0);
        due("three couples alike", x.nods(0, 0), 3);
        x.eat(3, true);
        due("ALIVE ones alone", x.nods(0, 0), 1);
        due("MARK below", x.nods(-1, 0), NONE);
        due("MARK below", x.nods(0, -1), NONE);
        due("MARK above", x.nods(6, 0), NONE);
        due("MARK above", x.nods(0, 6), NONE);
    }

    private static void played(DeerDays x, int a, int b, int deer, int taken) {
        x.set(8, 0, a);
        x.set(8, 1, b);
        due("from " + a + " and " + b + ": the DEER", x.game(0), deer);
        due("from " + a + " and " + b + ": how many", x.game(1), taken);
    }

    @Sentence("GAME: from CAME of ALIVE DEER two by turns take 1, 2 or 3 of one's; who takes the last one of all wins: the DEER (of several the least), "
        + "how many (the fewest) who begins well takes.")
    static void gameOfOneTwoOrThree() {
        DeerDays x = Check.herd(0, 0, 0, 0);
        played(x, 0, 0, NONE, NONE);
        played(x, 1, 0, 0, 1);
        played(x, 2, 0, 0, 2);
        played(x, 3, 0, 0, 3);
        played(x, 4, 0, NONE, NONE);
        played(x, 5, 0, 0, 1);
        played(x, 0, 7, 1, 3);
        played(x, 0, 8, NONE, NONE);
        played(x, 1, 1, NONE, NONE);
        played(x, 1, 2, 1, 1);
        played(x, 2, 1, 0, 1);
        played(x, 1, 3, 1, 2);
        played(x, 4, 1, 0, 3);
        played(x, 5, 6, 0, 3);
        played(x, 5, 5, NONE, NONE);
        played(x, 999, 999, NONE, NONE);
        played(x, 999, 998, 0, 1);
        x.eat(1, true);
        played(x, 3, 3, 0, 3);
        x.eat(0, true);
        played(x, 3, 3, NONE, NONE);
        DeerDays y = Check.herd(0, 0, 0, 0, 0, 0);
        y.set(8, 2, 3);
        played(y, 1, 2, NONE, NONE);
        played(y, 1, 1, 2, 3);
        played(y, 3, 1, 0, 1);
        y.set(8, 2, 2);
        played(y, 6, 1, 0, 3);
        played(y, 4, 2, NONE, NONE);
    }

    // ---- UNDO, THE IMAGE

    @Sentence("UNDO: the latest DAY, EATING, FREEING not undone yet goes back (STATE, THE BOOK, too): 6 are kept;")
    static void undoSix() {
        DeerDays x = Check.herd(0, 9, 0, 9);
        due("nothing yet", x.undo(), false);
        Check.told(x, 1, "on 3 gate; on 4 noise 30; on 5 eat 1;", 3);
        Check.told(x, 2, "due 7 on 0; due 8 on 1;", 2);
        x.set(3, 0, 100);
        x.set(4, 0, 100);
        int[][] was = new int[8][];
        for (int act = 0; act < 8; act++) {
            was[act] = looks(x);
            due("how many", was[act][20], Math.min(6, act));
            if (act == 2) {
                x.eat(0, true);
            } else if (act == 3) {
                x.eat(0, false);
            } else {
                x.days(1);
            }
        }
        due("six of eight", x.look(20), 6);
        for (int act = 7; act >= 2; act--) {
            due("undone", x.undo(), true);
            int[] back = looks(x);
            due("how many", back[20], act - 2);
            back[20] = was[act][20];
            alike("ahead of act " + act, back, was[act]);
        }
        due("the 7th", x.undo(), false);
        was[2][20] = 0;
        alike("as ahead of act 2", looks(x), was[2]);
        x.days(5);
        due("five", x.look(20), 5);
        x.undo();
        x.days(2);
        due("six", x.look(20), 6);
        x.days(1);
        due("six of seven", x.look(20), 6);
    }

    @Sentence("whatever else is told (refused: not) but the TAPE, THE LAW, FEASTS, SEEN, WORKS, GATES, ATE, VOTES (the taking of THE IMAGE does not) forgets them.")
    static void whatElseForgets() {
        DeerDays x = Check.herd(0, 0, 0, 0);
        x.image(true);
        Runnable[] leave = {
            () -> x.feed(1, 2, 3, 4, 5), () -> x.end(0), () -> Check.text(x, 0, "come 3;"), () -> Check.text(x, 0, "come"), () -> Check.text(x, 3, "feast 1 for 1;"),
            () -> Check.text(x, 3, ""), () -> x.seen(0, 1), () -> x.seen(NONE, 0), () -> x.work(3), () -> x.work(NONE), () -> x.gate(0, 1), () -> x.gate(NONE, 0),
            () -> x.ate(0, 1), () -> x.ate(NONE, 0), () -> x.vote(3), () -> x.vote(NONE), () -> x.image(true),
            () -> x.deer(6, 0), () -> x.deer(0, 10), () -> x.set(0, 0, 100), () -> x.set(5, 2, 0), () -> x.set(9, 0, 0), () -> x.eat(2, true), () -> x.days(0), () -> x.days(61),
            () -> x.waitFor(2), () -> Check.text(x, 1, "on 1000 gate;"), () -> Check.text(x, 2, "due 0 on 0;"), () -> x.text(4)};
        x.days(1);
        for (int i = 0; i < leave.length; i++) {
            leave[i].run();
            due("left by " + i, x.look(20), 1);
        }
        due("undone", x.undo() && x.look(1) == 0, true);
        Runnable[] forget = {
            () -> x.state(x.look(10)), () -> x.set(0, 0, 0), () -> x.set(3, 0, 0), () -> x.set(8, 1, 0), () -> Check.text(x, 1, ""), () -> Check.text(x, 1, "on 999 gate;"),
            () -> Check.text(x, 2, ""), () -> Check.text(x, 2, "due 1 on 1;"), () -> x.deer(0, 0), () -> x.image(false)};
        for (int i = 0; i < forget.length; i++) {
            x.days(2);
            due("two", x.look(20), 2);
            forget[i].run();
            due("forgotten by " + i, x.look(20), 0);
            due("nothing", x.undo(), false);
        }
        DeerDays y = new DeerDays();
        y.days(1);
        due("no IMAGE to go back to", y.image(false), false);
        due("left", y.look(20), 1);
    }

    @Sentence("THE IMAGE: all that is and was told but the TAPE, fault() and what can be undone (nothing then), as it was when it was taken; "
        + "gone back to it may be more than once.")
    static void imageMoreThanOnce() {
        DeerDays x = Check.herd(0, 5, 1, 6);
        due("none yet", x.image(false), false);
        Check.told(x, 0, "come 5;", 1);
        Check.told(x, 1, "on 9 gate;", 1);
        Check.told(x, 2, "due 1 on 0; due 2 on 1;", 2);
        Check.told(x, 3, "feast 1 for 2; feast 1 for 0;", 2);
        x.seen(1, 0);
        x.work(2);
        x.gate(3, 4);
        x.ate(2, 1);
        x.vote(7);
        x.days(3);
        int[] was = looks(x);
        due("three can be undone", was[20], 3);
        was[20] = 0;
        due("taken", x.image(true), true);
        due("the taking leaves what can be undone", x.look(20), 3);
        for (int turn = 1; turn <= 3; turn++) {
            x.undo();
            x.days(turn);
            x.eat(0, true);
            due("the third DEER, in each turn", x.deer(2, 2), 2);
            due("it never came", x.of(2, 3) + x.of(2, 4), 0);
            for (int what = 0; what <= 8; what++) {
                x.set(what, 1, what == 2 ? 1 : 3);
            }
            x.set(3, 0, 1000);
            x.set(4, 0, 1000);
            x.state(turn);
            Check.told(x, 0, "", 0);
            Check.told(x, 1, "", 0);
            Check.told(x, 2, "", 0);
            Check.told(x, 3, "", 0);
            x.seen(NONE, 0);
            x.work(NONE);
            x.gate(NONE, 0);
            x.ate(NONE, 0);
            x.vote(NONE);
            x.days(turn);
            Check.faulty(x, 0, "come 1/0;", 2, 7);
            Check.feed(x, 0, "come 8;");
            due("gone back to", x.image(false), true);
            alike("as it was when it was taken", looks(x), was);
            due("nothing to undo", x.undo(), false);
            due("FAULT stays", x.fault(0), 2);
            due("its place stays", x.fault(1), 7);
            due("the TAPE stays", x.end(8), false);
            due("the TAPE stays", x.end(7), true);
            due("FEASTS", x.moves(10), 0);
            due("SEEN", x.orders(10), 1);
            due("WORKS", x.works(0), 1);
            due("paths", x.watch(1), 8);
            due("ATE", x.ways(1), 1);
            due("VOTES", x.votes(0), 7);
            due("the TAPE can be told", x.text(0), 1);
            due("THE LAW", x.of(0, 5), 8);
            x.image(false);
            due("THE LAW of THE IMAGE", x.of(0, 5), 5);
            due("no MIST", x.days(1), 0);
            due("no WOLVES", x.look(8), 3);
            due("DUES", x.due(0, 0) * 10 + x.due(1, 0), 12);
            x.image(false);
        }
        x.days(2);
        due("taken anew", x.image(true), true);
        x.days(2);
        x.image(false);
        due("the latest taken", x.look(1), 5);
    }
}
