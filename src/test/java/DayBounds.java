/** Part 3 of the terms: how a day goes by, and what THE BOOK tells of it. */
final class DayBounds {
    private static final int NONE = DeerDays.NONE;

    private static final int CAME = 0;
    private static final int MIST = 1;
    private static final int PAID = 2;
    private static final int EATEN = 3;
    private static final int WOLVES = 4;
    private static final int FREED = 5;

    private DayBounds() { }

    private static void due(String what, long got, long want) {
        Check.due(what, got, want);
    }

    private static void due(String what, boolean got, boolean want) {
        Check.due(what, got, want);
    }

    private static void line(DeerDays x, int i, int day, int what, int which, int many) {
        int[] want = {day, what, which, many};
        for (int part = 0; part < 4; part++) {
            due("line " + i + " of THE BOOK, part " + part, x.book(i, part), want[part]);
        }
    }

    // ---- (a)

    @Sentence("(a) Line by line of A PLAN for this DAY: salt, noise: so much then; gate: GATE is the other one;")
    static void planOnItsDayAlone() {
        DeerDays x = Check.herd(0, 0);
        Check.told(x, 1, "on 1 salt 40; on 1 noise 50; on 1 gate; on 3 salt 7; on 3 salt 9; on 3 noise 8; on 3 noise 6; on 3 gate; on 3 gate; on 4 gate;", 10);
        x.days(1);
        due("SALT the day before", x.look(5), 0);
        due("NOISE the day before", x.look(6), 0);
        due("GATE the day before", x.look(7), 0);
        x.days(1);
        due("SALT on the day, one less behind it", x.look(5), 39);
        due("NOISE on the day, one less behind it", x.look(6), 49);
        due("GATE on the day", x.look(7), 1);
        x.days(1);
        due("SALT the day behind", x.look(5), 38);
        due("NOISE the day behind", x.look(6), 48);
        due("GATE the day behind", x.look(7), 1);
        x.days(1);
        due("SALT, the later line", x.look(5), 8);
        due("NOISE, the later line", x.look(6), 5);
        due("GATE, the other one of the other one", x.look(7), 1);
        x.days(1);
        due("GATE, 0 again", x.look(7), 0);
        DeerDays y = Check.herd(0, 0);
        y.eat(0, true);
        Check.told(y, 1, "on 0 salt 40; on 1 noise 50; on 2 gate;", 3);
        int[][] want = {{39, 0, 0}, {38, 49, 0}, {37, 48, 1}};
        for (int day = 0; day <= 2; day++) {
            y.days(1);
            for (int what = 0; what <= 2; what++) {
                due("each line its own alone, on DAY " + day, y.look(5 + what), want[day][what]);
            }
            due("none freed", y.look(8), 0);
        }
    }

    @Sentence("eat: ALIVE 0, if it is; free: ALIVE 1, if it is not.")
    static void planEatsTheAliveAndFreesTheOthers() {
        DeerDays x = Check.herd(0, 0, 0, 0);
        Check.told(x, 0, "come 0;", 1);
        Check.told(x, 1, "on 0 free 0; on 1 eat 0; on 1 eat 0; on 2 eat 0; on 3 free 0; on 3 free 0; on 4 eat 1; on 4 free 1; on 4 eat 1;", 9);
        x.days(1);
        due("freed who is", x.look(8), 3);
        due("nothing to tell", x.look(9), 1);
        x.days(1);
        due("eaten", x.look(8), 2);
        line(x, 1, 1, EATEN, 0, 0);
        line(x, 2, 1, MIST, NONE, 5);
        x.days(1);
        due("eaten who is not", x.look(8), 2);
        due("nothing to tell", x.look(9), 4);
        x.days(1);
        due("freed", x.look(8), 3);
        line(x, 4, 3, FREED, 0, 0);
        line(x, 5, 3, MIST, NONE, 5);
        x.days(1);
        due("line by line", x.look(8), 1);
        line(x, 6, 4, EATEN, 1, 0);
        line(x, 7, 4, FREED, 1, 0);
        line(x, 8, 4, EATEN, 1, 0);
        due("lines", x.look(9), 10);
    }

    // ---- (b)

    private static void mistDrawn(int mist, int drawn, boolean isMist) {
        DeerDays x = Check.herd(0, 0);
        x.set(4, 0, mist);
        int state = Check.stateThatDraws(1000, drawn);
        x.state(state);
        due("MIST " + mist + " with " + drawn, x.days(1), isMist ? 1 : 0);
        due("TODAY", x.look(2), isMist ? NONE : 0);
        int behind = Check.stateBehind(state);
        due("DRAWS", x.look(10), isMist ? behind : Check.stateBehind(behind));
    }

    @Sentence("(b) If MIST is above 0, a DRAW of 1000: below MIST it is a day of mist: none comes.")
    static void mistBelowItsDraw() {
        DeerDays x = Check.herd(0, 0);
        x.state(Check.stateThatDraws(1000, 0));
        due("MIST of 0 is no mist", x.days(1), 0);
        due("without its DRAW", x.look(10), 0);
        mistDrawn(1, 0, true);
        mistDrawn(1, 1, false);
        mistDrawn(2, 1, true);
        mistDrawn(2, 2, false);
        mistDrawn(500, 499, true);
        mistDrawn(500, 500, false);
        mistDrawn(500, 501, false);
        mistDrawn(999, 998, true);
        mistDrawn(999, 999, false);
        mistDrawn(1000, 0, true);
        mistDrawn(1000, 999, true);
    }

    @Sentence("Else a DRAW of the sum of come of all ALIVE ones (asked ahead; without any, or a sum of 0, mist, without a DRAW):")
    static void drawOfTheSumOrMist() {
        DeerDays x = Check.herd(0, 0, 0, 0);
        int state = Check.stateThatDraws(1000, 5, 3, 2);
        x.state(state);
        Check.told(x, 0, "come 0;", 1);
        due("a sum of 0", x.days(1), 1);
        due("without a DRAW", x.look(10), state);
        Check.told(x, 0, "come 0-5;", 1);
        due("a sum of what is held to 0", x.days(1), 1);
        due("without a DRAW", x.look(10), state);
        Check.onlyComes(x, 1);
        due("a sum of 1", x.days(1), 0);
        due("a DRAW", x.look(10), Check.stateBehind(state));
        due("comes", x.look(2), 1);
        x.state(state);
        x.eat(1, true);
        due("a sum of 0 without the one", x.days(1), 1);
        x.eat(0, true);
        Check.told(x, 0, "come 9;", 1);
        due("without any ALIVE", x.days(1), 1);
        due("without a DRAW", x.look(10), state);
        x.set(4, 0, 5);
        due("no mist by MIST, but without any", x.days(1), 1);
        due("the one DRAW of 1000", x.look(10), Check.stateBehind(state));
        DeerDays y = Check.herd(0, 0, 0, 0);
        Check.told(y, 0, "come 1 when deer = 0; come salt;", 2);
        Check.told(y, 1, "on 0 salt 2;", 1);
        y.set(4, 0, 5);
        y.state(state);
        due("no mist", y.days(1), 0);
        due("asked behind A PLAN, a DRAW of 3: 2", y.look(2), 1);
        due("both DRAWS", y.look(10), Check.stateBehind(Check.stateBehind(state)));
    }

    @Sentence("the first one by which the sum of come up to it is above that comes.")
    static void firstOneAboveTheDraw() {
        int[] comes = {0, 0, 2, 2, 2, 4};
        for (int drawn = 0; drawn < 6; drawn++) {
            DeerDays x = Check.herd(0, 0, 0, 0, 0, 0, 0, 0, 0, 0);
            Check.told(x, 0, "come 2 when deer = 0; come 7 when deer = 1; come 3 when deer = 2; come 0 when deer = 3; come 1;", 5);
            x.eat(1, true);
            x.state(Check.stateThatDraws(6, drawn));
            due("no mist", x.days(1), 0);
            due("comes with 2, not ALIVE, 3, 0, 1 by " + drawn, x.look(2), comes[drawn]);
        }
        DeerDays x = Check.herd(new int[20]);
        Check.told(x, 0, "come 999;", 1);
        x.state(Check.stateThatDraws(9990, 9989));
        x.days(1);
        due("the last by the greatest of the greatest sum", x.look(2), 9);
        x.state(Check.stateThatDraws(9990, 998));
        x.days(1);
        due("the first by 998", x.look(2), 0);
        x.state(Check.stateThatDraws(9990, 999));
        x.days(1);
        due("the second by 999", x.look(2), 1);
    }

    // ---- (c)

    @Sentence("(c) Who came is TODAY (mist: none); its SINCE is 0, CAME one more; HOURS are long more (mist: 5 more), asked behind (b), ahead of these;")
    static void whoCameAndItsHours() {
        DeerDays x = Check.herd(0, 0, 0, 0);
        Check.told(x, 0, "come 1 when deer = 0; come 0; long since + came * 2 + today * 4;", 3);
        x.set(7, 0, 9);
        x.set(8, 0, 3);
        x.days(1);
        due("TODAY", x.look(2), 0);
        due("SINCE", x.of(0, 3), 0);
        due("CAME", x.of(0, 4), 4);
        due("HOURS by SINCE 9, CAME 3, another TODAY", x.look(4), 15);
        x.days(1);
        due("CAME", x.of(0, 4), 5);
        due("HOURS by SINCE 0, CAME 4, that of TODAY", x.look(4), 15 + 12);
        x.eat(0, true);
        due("mist", x.days(1), 1);
        due("TODAY", x.look(2), NONE);
        due("HOURS", x.look(4), 27 + 5);
        due("CAME stays", x.of(0, 4), 5);
        due("CAME of the other", x.of(1, 4), 0);
        DeerDays y = Check.herd(0, 0, 0, 0);
        Check.told(y, 0, "come 1 when deer = 0; come 0; long noise;", 3);
        Check.told(y, 1, "on 0 noise 20; on 1 noise 0;", 2);
        y.days(1);
        due("long behind A PLAN", y.look(4), 20);
        y.days(1);
        due("long of 0", y.look(4), 20);
    }

    @Sentence("its CALM is shy less (0 at least; asked likewise).")
    static void calmIsShyLess() {
        int[] calms = {5, 4, 3, 0, 9};
        int[] left = {1, 0, 0, 0, 5};
        for (int i = 0; i < calms.length; i++) {
            DeerDays x = Check.herd(0, calms[i]);
            Check.told(x, 0, "shy 4;", 1);
            x.days(1);
            due("CALM " + calms[i] + " with shy 4", x.of(0, 1), left[i]);
        }
        DeerDays x = Check.herd(0, 9, 0, 9);
        Check.told(x, 0, "come 1 when deer = 0; come 0; shy since + came * 2 + today * 4;", 3);
        x.set(7, 0, 1);
        x.days(1);
        due("by SINCE 1, CAME 0, another TODAY", x.of(0, 1), 8);
        x.days(1);
        due("by SINCE 0, CAME 1, that of TODAY", x.of(0, 1), 2);
        x.days(1);
        due("0 at least", x.of(0, 1), 0);
        due("the other one's", x.of(1, 1), 9);
        DeerDays y = Check.herd(0, 9);
        Check.told(y, 0, "long calm; shy 9;", 2);
        y.days(1);
        due("long ahead of what shy takes", y.look(4), 9);
        due("to 0", y.of(0, 1), 0);
    }

    @Sentence("SINCE of each other ALIVE one is one more (999 at most).")
    static void sinceOfTheOthers() {
        DeerDays x = Check.herd(0, 0, 0, 0, 0, 0, 0, 0, 0, 0);
        Check.onlyComes(x, 4);
        x.set(7, 0, 997);
        x.set(7, 1, 998);
        x.set(7, 2, 999);
        x.set(7, 3, 50);
        x.eat(3, true);
        x.set(7, 4, 999);
        x.days(1);
        int[] want = {998, 999, 999, 50, 0};
        for (int i = 0; i < 5; i++) {
            due("SINCE of " + i, x.of(i, 3), want[i]);
        }
        x.set(4, 0, 1000);
        x.days(1);
        int[] inMist = {999, 999, 999, 50, 1};
        for (int i = 0; i < 5; i++) {
            due("SINCE in mist of " + i, x.of(i, 3), inMist[i]);
        }
    }

    // ---- (d), (e), (f)

    @Sentence("(d) Line by line of DUES not paid yet, on TODAY's DEER, above its DAY: paid: COIN is N less.")
    static void duesArePaidOnce() {
        DeerDays x = Check.herd(0, 0, 0, 0);
        Check.onlyComes(x, 0);
        Check.told(x, 2, "due 1 on 0 after 1; due 2 on 1; due 4 on 0; due 8 on 0 after 0; due 16 on 0 after 2;", 5);
        x.days(1);
        due("on DAY 0: that on any", x.look(3), -4);
        x.days(1);
        due("on DAY 1: above 0", x.look(3), -12);
        x.days(1);
        due("on DAY 2: above 1", x.look(3), -13);
        x.days(1);
        due("on DAY 3: above 2", x.look(3), -29);
        x.days(5);
        due("not paid twice, nor on another", x.look(3), -29);
        int[] paid = {1, 0, 1, 1, 1};
        for (int i = 0; i < 5; i++) {
            due("paid " + i, x.due(i, 3), paid[i]);
        }
        x.set(4, 0, 1000);
        Check.told(x, 2, "due 1 on 0; due 2 on 1; due 3 on 0;", 3);
        x.days(1);
        due("mist pays nothing", x.look(3), -29);
        x.set(4, 0, 0);
        int lines = x.look(9);
        x.days(1);
        due("both of one day", x.look(3), -33);
        line(x, lines, 10, CAME, 0, 6);
        line(x, lines + 1, 10, PAID, 0, 1);
        line(x, lines + 2, 10, PAID, 2, 3);
    }

    private static void wolvesDrawn(int wolves, int drawn, boolean isEaten) {
        DeerDays x = Check.herd(0, 5);
        Check.told(x, 0, "come 0;", 1);
        x.set(3, 0, wolves);
        int state = Check.stateThatDraws(1000, drawn);
        x.state(state);
        x.days(1);
        due("WOLVES " + wolves + " with " + drawn, x.look(8), isEaten ? 0 : 1);
        due("one DRAW", x.look(10), Check.stateBehind(state));
    }

    @Sentence("(e) If WOLVES are above 0 and some are ALIVE, a DRAW of 1000: below WOLVES the ALIVE one with least CALM (of several the least) is ALIVE no more.")
    static void wolvesBelowTheirDraw() {
        wolvesDrawn(1, 0, true);
        wolvesDrawn(1, 1, false);
        wolvesDrawn(2, 1, true);
        wolvesDrawn(2, 2, false);
        wolvesDrawn(500, 499, true);
        wolvesDrawn(500, 500, false);
        wolvesDrawn(500, 501, false);
        wolvesDrawn(999, 998, true);
        wolvesDrawn(999, 999, false);
        wolvesDrawn(1000, 999, true);
        DeerDays x = Check.herd(0, 5, 0, 4, 0, 4, 0, 3);
        Check.told(x, 0, "come 0;", 1);
        x.state(7);
        x.days(1);
        due("no DRAW with WOLVES of 0", x.look(10), 7);
        x.set(3, 0, 1000);
        int[] left = {7, 5, 1, 0};
        for (int i = 0; i < 4; i++) {
            x.days(1);
            due("least CALM, of several the least", x.look(8), left[i]);
        }
        line(x, 2, 1, WOLVES, 3, 0);
        line(x, 4, 2, WOLVES, 1, 0);
        int state = x.look(10);
        x.days(1);
        due("no DRAW without any ALIVE", x.look(10), state);
        DeerDays y = Check.herd(0, 5, 0, 4);
        Check.told(y, 0, "come 1 when deer = 0; come 0; shy 2;", 3);
        y.set(3, 0, 1000);
        y.days(1);
        due("CALM behind what shy took", y.look(8), 2);
        due("TODAY's DEER, ALIVE no more", y.look(2), 0);
    }

    @Sentence("(f) SALT and NOISE are one less (0 at least); DAY is one more.")
    static void saltAndNoiseOneLess() {
        DeerDays x = Check.herd(0, 0);
        x.set(0, 0, 2);
        x.set(1, 0, 1);
        int[] salt = {1, 0, 0};
        for (int i = 0; i < 3; i++) {
            x.days(1);
            due("SALT", x.look(5), salt[i]);
            due("NOISE", x.look(6), 0);
            due("DAY", x.look(1), i + 1);
        }
        x.set(0, 0, 99);
        x.set(1, 0, 99);
        x.days(1);
        due("SALT of 99", x.look(5), 98);
        due("NOISE of 99", x.look(6), 98);
        due("GATE stays", x.look(7), 0);
    }

    // ---- to EAT, to FREE, to WAIT; THE BOOK

    private static int waits(int comesOn) {
        DeerDays x = Check.herd(0, 0, 0, 0);
        Check.onlyComes(x, 0);
        x.eat(0, true);
        Check.told(x, 1, "on " + comesOn + " free 0;", 1);
        int waited = x.waitFor(0);
        due("days that went by", x.look(1), waited == NONE ? 30 : waited);
        due("acts", x.look(20), waited == NONE ? 6 : Math.min(6, waited));
        return waited;
    }

    @Sentence("To EAT, to FREE one by hand (as in A PLAN); to WAIT for one (ALIVE or not): days go by till it comes, 30 at most (one act each).")
    static void waitingFor30DaysAtMost() {
        due("on the first day", waits(0), 1);
        due("on the 2nd", waits(1), 2);
        due("on the 5th", waits(4), 5);
        due("on the 29th", waits(28), 29);
        due("on the 30th", waits(29), 30);
        due("on the 31st", waits(30), NONE);
        DeerDays x = Check.herd(0, 0);
        x.days(3);
        due("eaten by hand", x.eat(0, true), true);
        line(x, 3, 3, EATEN, 0, 0);
        due("to wait for one that is not", x.waitFor(0), NONE);
        due("they went by", x.look(1), 33);
        due("freed by hand", x.eat(0, false), true);
        line(x, 34, 33, FREED, 0, 0);
        due("to wait for one that is", x.waitFor(0), 1);
        DeerDays y = Check.herd(0, 5, 0, 4);
        Check.told(y, 0, "come 1;", 1);
        y.set(3, 0, 1);
        int state = Check.stateThatDraws(2, 1, 1000, 0);
        y.state(state);
        due("to wait for the one that is drawn, not the LIKELIEST", y.waitFor(1), 1);
        due("its DRAW and that of WOLVES", y.look(10), Check.stateBehind(Check.stateBehind(state)));
        due("WOLVES go on", y.look(8), 1);
    }

    @Sentence("THE BOOK (150 lines; no more then):")
    static void bookOf150Lines() {
        DeerDays x = Check.herd(0, 0);
        due("at first", x.look(9), 0);
        x.days(60);
        x.days(60);
        x.days(29);
        due("149", x.look(9), 149);
        x.days(1);
        due("150", x.look(9), 150);
        line(x, 149, 149, CAME, 0, 6);
        x.days(1);
        due("no more", x.look(9), 150);
        due("but the day went by", x.look(1), 151);
        due("no line 150", x.book(150, 0), NONE - 1);
        due("eaten without a line", x.eat(0, true), true);
        due("no more", x.look(9), 150);
        line(x, 149, 149, CAME, 0, 6);
        DeerDays y = Check.herd(0, 0);
        Check.told(y, 2, "due 1 on 0 after 147; due 2 on 0 after 147;", 2);
        y.days(60);
        y.days(60);
        y.days(29);
        due("149 came, the first due with them", y.look(9), 150);
        line(y, 148, 148, CAME, 0, 6);
        line(y, 149, 148, PAID, 0, 1);
        due("paid without a line", y.look(3), -3);
    }

    @Sentence("DAY, what (0 came, 1 mist, 2 paid, 3 eaten, 4 by wolves, 5 freed), which (0, 3, 4, 5: the DEER; 1: NONE; 2: the line), "
        + "how many (0, 1: hours; 2: N; else 0).")
    static void whatTheBookTells() {
        DeerDays x = Check.herd(0, 4, 0, 9);
        Check.told(x, 0, "come 1 when deer = 1; come 0; long 0 when noise = 3; long 24;", 4);
        Check.told(x, 1, "on 1 eat 0; on 1 free 0; on 2 eat 1;", 3);
        Check.told(x, 2, "due 500 on 0; due 999 on 1; due 1 on 1 after 0;", 3);
        x.set(1, 0, 3);
        x.days(1);
        x.set(3, 0, 1000);
        x.days(2);
        line(x, 0, 0, CAME, 1, 0);
        line(x, 1, 0, PAID, 1, 999);
        line(x, 2, 1, EATEN, 0, 0);
        line(x, 3, 1, FREED, 0, 0);
        line(x, 4, 1, CAME, 1, 24);
        line(x, 5, 1, PAID, 2, 1);
        line(x, 6, 1, WOLVES, 0, 0);
        line(x, 7, 2, EATEN, 1, 0);
        line(x, 8, 2, MIST, NONE, 5);
        due("lines", x.look(9), 9);
        x.eat(0, false);
        line(x, 9, 3, FREED, 0, 0);
    }
}
