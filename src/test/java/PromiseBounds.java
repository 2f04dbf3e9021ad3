/** Promises 1 to 35: what each call answers at its bounds, and what it answers and leaves as it is where it is refused. */
final class PromiseBounds {
    private static final int NONE = DeerDays.NONE;
    private static final int MIN = Integer.MIN_VALUE;
    private static final int MAX = Integer.MAX_VALUE;

    private PromiseBounds() { }

    private static void due(String what, long got, long want) {
        Check.due(what, got, want);
    }

    private static void due(String what, boolean got, boolean want) {
        Check.due(what, got, want);
    }

    private static DeerDays onDay(int day) {
        DeerDays x = Check.herd(0, 0);
        for (int i = 0; i < day / 60; i++) {
            x.days(60);
        }
        x.days(day % 60);
        due("DAY", x.look(1), day);
        return x;
    }

    @Sentence("The constants: `NONE = -1`: None.")
    static void noneIsBelow0() {
        due("NONE", DeerDays.NONE, -1);
        due("NONE - 1", new DeerDays().due(0, 0), -2);
        due("NONE - 99999", new DeerDays().goes(0, 0), -100000);
        due("NONE - 999999", new DeerDays().look(21), -1000000);
    }

    @Sentence(promise = 1, value = "An empty wood.")
    static void p1EmptyWood() {
        DeerDays x = new DeerDays();
        for (int what = 0; what <= 20; what++) {
            due("look " + what, x.look(what), what == 2 ? NONE : 0);
        }
        due("the TAPE", x.end(0), true);
        due("the TAPE", x.end(1), false);
        due("fault", x.fault(0), 0);
        due("its place", x.fault(1), NONE);
        due("no IMAGE", x.image(false), false);
        due("nothing to undo", x.undo(), false);
        due("LIKELIEST", x.likeliest(), NONE);
        due("goes on", x.goes(99, 1), 99 * 5);
        due("days of mist", x.days(60), 60);
        DeerDays y = new DeerDays();
        due("another one is empty still", y.look(1), 0);
    }

    @Sentence(promise = 2, value = "STATE is told: what it was.")
    static void p2WhatItWas() {
        DeerDays x = Check.herd(0, 0);
        due("at first", x.state(MAX), 0);
        due("what was told", x.state(MIN), MAX);
        x.days(1);
        due("what a DRAW left", x.state(0), -1133579425);
        due("0", x.state(0), 0);
    }

    @Sentence(promise = 3, value = "A DEER: the number; NONE if one can't be, or there are ten.")
    static void p3TenDeer() {
        DeerDays x = new DeerDays();
        int[][] wrong = {{-1, 0}, {6, 0}, {0, -1}, {0, 10}, {-1, -1}, {6, 10}, {MIN, 5}, {5, MAX}};
        for (int[] w : wrong) {
            due("can't be", x.deer(w[0], w[1]), NONE);
        }
        due("none yet", x.look(0), 0);
        for (int i = 0; i <= 8; i++) {
            due("the number", x.deer(i % 2 * 5, i % 2 * 9), i);
        }
        due("can't be", x.deer(6, 0), NONE);
        due("the tenth", x.deer(0, 9), 9);
        due("there are ten", x.deer(0, 9), NONE);
        due("ten", x.look(0), 10);
        x.eat(0, true);
        due("there are ten, though one is eaten", x.deer(0, 0), NONE);
        due("refused, it forgets no act", x.undo(), true);
    }

    @Sentence(promise = 4, value = "What 0 SALT, 1 NOISE, 2 GATE, 3 WOLVES, 4 MIST (who not asked), 5 MARK, 6 CALM, 7 SINCE, 8 CAME (0 .. 999) of DEER who: true;")
    static void p4Set() {
        DeerDays x = Check.herd(0, 0, 0, 0);
        int[] most = {99, 99, 1, 1000, 1000, 5, 9, 999, 999};
        for (int what = 0; what <= 8; what++) {
            for (int v : new int[] {0, 1, most[what] - 1, most[what]}) {
                due("what " + what + " to " + v, x.set(what, 1, v), true);
                if (what < 3) {
                    due("SALT, NOISE, GATE", x.look(5 + what), v);
                } else if (what > 4) {
                    due("of DEER 1", x.of(1, new int[] {0, 1, 3, 4}[what - 5]), v);
                }
            }
            int[] nobody = {MIN, -1, 2, MAX};
            for (int who : nobody) {
                due("who not asked below 5 alone: " + what, x.set(what, who, 0), what < 5);
            }
        }
        for (int of = 0; of <= 4; of++) {
            due("of DEER 0", x.of(0, of), of == 2 ? 1 : 0);
        }
    }

    @Sentence(promise = 4, value = "false if one can't be, or another what.")
    static void p4SetRefused() {
        DeerDays x = Check.herd(3, 4);
        int[] at = {7, 8, 1, 0, 0, 3, 4, 5, 6};
        int[] most = {99, 99, 1, 1000, 1000, 5, 9, 999, 999};
        for (int what = 0; what <= 8; what++) {
            x.set(what, 0, at[what]);
            for (int v : new int[] {MIN, -1, most[what] + 1, MAX}) {
                due("what " + what + " to " + v, x.set(what, 0, v), false);
            }
        }
        int[] others = {MIN, -1, 9, 10, MAX};
        for (int what : others) {
            due("another what", x.set(what, 0, 0), false);
        }
        for (int what = 5; what <= 8; what++) {
            due("no such DEER", x.set(what, 1, 0), false);
            due("no such DEER", x.set(what, -1, 0), false);
        }
        int[] looks = {x.look(5), x.look(6), x.look(7), 0, 0, x.of(0, 0), x.of(0, 1), x.of(0, 3), x.of(0, 4)};
        for (int what = 0; what <= 8; what++) {
            due("as it was", looks[what], at[what]);
        }
        x.days(1);
        due("no MIST, no WOLVES", x.look(2) == 0 && x.look(8) == 1, true);
    }

    @Sentence(promise = 5, value = "To EAT (true), to FREE (false): true; false if it can't be.")
    static void p5EatAndFree() {
        DeerDays x = Check.herd(0, 0, 0, 0);
        int[] nobody = {MIN, -1, 2, 9, 10, MAX};
        for (int who : nobody) {
            due("no such one to EAT", x.eat(who, true), false);
            due("no such one to FREE", x.eat(who, false), false);
        }
        due("to FREE who is", x.eat(0, false), false);
        due("nothing told", x.look(9) + x.look(20), 0);
        due("to EAT", x.eat(0, true), true);
        due("to EAT who is not", x.eat(0, true), false);
        due("the other one is", x.look(8), 2);
        due("to EAT the last", x.eat(1, true), true);
        due("none is", x.look(8), 0);
        due("to FREE", x.eat(1, false), true);
        due("to FREE who is", x.eat(1, false), false);
        due("three acts", x.look(20), 3);
        due("three lines", x.look(9), 3);
    }

    @Sentence(promise = 6, value = "DAYS go by (1 .. 60): how many of mist in these.")
    static void p6DaysFrom1To60() {
        DeerDays x = Check.herd(0, 0);
        due("1", x.days(1), 0);
        due("DAY", x.look(1), 1);
        due("2", x.days(2), 0);
        due("DAY", x.look(1), 3);
        due("59", x.days(59), 0);
        due("60", x.days(60), 0);
        due("DAY", x.look(1), 122);
        Check.told(x, 1, "on 124 eat 0; on 127 free 0;", 2);
        due("two, three of mist, one", x.days(6), 3);
        x.eat(0, true);
        due("1 of mist", x.days(1), 1);
        due("60 of mist", x.days(60), 60);
    }

    @Sentence(promise = 6, value = "NONE, and nothing is done, if one can't be, or DAY would be above 9999.")
    static void p6DaysRefused() {
        DeerDays x = onDay(9939);
        int state = x.look(10);
        int[] wrong = {MIN, -1, 0, 61, MAX};
        for (int n : wrong) {
            due("can't be", x.days(n), NONE);
        }
        due("nothing is done", x.look(1), 9939);
        due("nothing is done", x.look(10), state);
        due("to 9999", x.days(60), 0);
        due("DAY", x.look(1), 9999);
        due("to 10000", x.days(1), NONE);
        due("to 10059", x.days(60), NONE);
        due("DAY", x.look(1), 9999);
        x.undo();
        due("DAY", x.look(1), 9998);
        due("to 10000", x.days(2), NONE);
        due("nothing is done", x.look(1), 9998);
        due("to 9999", x.days(1), 0);
    }

    @Sentence(promise = 7, value = "To WAIT: how many days (NONE: not in 30; they went by all the same);")
    static void p7Wait() {
        DeerDays x = Check.herd(0, 0, 0, 0);
        Check.told(x, 0, "come salt when deer = 0; come 0;", 2);
        Check.told(x, 1, "on 0 salt 1; on 30 salt 1; on 60 salt 1; on 91 salt 1;", 4);
        due("at once", x.waitFor(0), 1);
        due("on the 30th", x.waitFor(0), 30);
        due("DAY", x.look(1), 31);
        due("on the 30th", x.waitFor(0), 30);
        due("DAY", x.look(1), 61);
        due("on the 31st: not in 30", x.waitFor(0), NONE);
        due("they went by", x.look(1), 91);
        due("at once", x.waitFor(0), 1);
        due("the other one never", x.waitFor(1), NONE);
        due("they went by", x.look(1), 122);
    }

    @Sentence(promise = 7, value = "NONE - 1, and nothing is done, if there is none such, or DAY would be above 9999 behind 30.")
    static void p7WaitRefused() {
        DeerDays x = onDay(9968);
        int[] nobody = {MIN, -1, 1, 10, MAX};
        for (int who : nobody) {
            due("none such", x.waitFor(who), NONE - 1);
        }
        due("nothing is done", x.look(1), 9968);
        due("30 behind 9968", x.waitFor(0), 1);
        due("30 behind 9969", x.waitFor(0), 1);
        due("DAY", x.look(1), 9970);
        int state = x.look(10);
        due("30 behind 9970", x.waitFor(0), NONE - 1);
        due("nothing is done", x.look(1), 9970);
        due("nothing is done", x.look(10), state);
        x.undo();
        x.eat(0, true);
        due("30 behind 9969, all gone by", x.waitFor(0), NONE);
        due("DAY", x.look(1), 9999);
    }

    @Sentence(promise = 8, value = "Twenty bytes come behind the TAPE, of each number the highest first: how many it has.")
    static void p8TwentyBytes() {
        DeerDays x = Check.herd(0, 0);
        due("20", x.feed(0x636f6d65, 0x20372077, 0x68656e20, 0x313d313b, 0x73687920), 20);
        due("40", x.feed(0x393b6c6f, 0x6e672032, 0x303b2020, 0x20202020, 0x20202020), 40);
        due("come 7 when 1=1;shy 9;long 20;", x.text(0), 3);
        due("come", x.of(0, 5), 7);
        due("long", x.of(0, 6), 20);
        due("shy", x.of(0, 7), 9);
        due("20 anew", x.feed(-1, -1, -1, -1, -1), 20);
        due("20 of a whole", x.end(20), true);
        due("not 21", x.end(21), false);
        due("behind the cut", x.end(3) && x.feed(0, 0, 0, 0, 0) == 23, true);
    }

    @Sentence(promise = 8, value = "NONE, and nothing comes, if there would be more than 400.")
    static void p8NoMoreThan400() {
        DeerDays x = Check.herd(0, 0);
        for (int had = 20; had <= 400; had += 20) {
            due("has", x.feed(0x20202020, 0x20202020, 0x20202020, 0x20202020, 0x20202020), had);
        }
        due("420", x.feed(0, 0, 0, 0, 0), NONE);
        due("400 still", x.end(400) && !x.end(401), true);
        due("381", x.end(381), true);
        due("401", x.feed(0, 0, 0, 0, 0), NONE);
        due("381 still", x.end(381) && !x.end(382), true);
        due("380", x.end(380), true);
        due("400 in all", x.feed(0x636f6d65, 0x20373b20, 0x20202020, 0x20202020, 0x6c6f6e67), 400);
        due("the last one is there", x.text(0), NONE);
        due("its place", x.fault(1), 400);
    }

    @Sentence(promise = 9, value = "The TAPE has its first n bytes alone: true; false, changing nothing, if it has not so many, or n is below 0.")
    static void p9End() {
        DeerDays x = new DeerDays();
        due("0 of 0", x.end(0), true);
        due("1 of 0", x.end(1), false);
        due("-1 of 0", x.end(-1), false);
        Check.feed(x, 0, "come 7;come 8;come 9");
        due("21 of 20", x.end(21), false);
        due("MAX of 20", x.end(MAX), false);
        due("-1 of 20", x.end(-1), false);
        due("MIN of 20", x.end(MIN), false);
        due("20 of 20", x.end(20), true);
        due("14 of 20", x.end(14), true);
        due("15 of 14", x.end(15), false);
        due("its first 14", x.text(0), 2);
        Check.feed(x, 0, "come 7;come 8;come 9");
        due("0 of 20", x.end(0), true);
        due("its first 0", x.text(0), 0);
    }

    @Sentence(promise = 10, value = "The TAPE, empty then (with no such k, too), is TEXT k: how many lines.")
    static void p10Text() {
        DeerDays x = Check.herd(0, 0);
        String[] texts = {"shy 1;", "on 1 gate;", "due 1 on 0;", "feast 1 for 1;"};
        for (int k = 0; k <= 3; k++) {
            Check.told(x, k, texts[k], 1);
            due("the TAPE is empty", x.end(1), false);
            due("a line", x.look(11 + k), 1);
        }
        for (int i = 0; i <= 9; i++) {
            Check.told(x, 0, "shy " + "0+".repeat(197) + i + ";", 1);
            due("of a whole TAPE, again and again", x.of(0, 7), i);
        }
        for (int k = 0; k <= 3; k++) {
            due("an empty TAPE", x.text(k), 0);
            due("no line", x.look(11 + k), 0);
        }
        int[] others = {MIN, -1, 4, MAX};
        for (int k : others) {
            Check.feed(x, 0, "shy 1;");
            due("no such k", x.text(k), NONE);
            due("the TAPE is empty", x.end(1), false);
        }
    }

    @Sentence(promise = 10, value = "NONE: no such one (fault() tells 0), or a FAULT (the TEXT stays as it was; the TAPE is empty in each case).")
    static void p10TextRefused() {
        DeerDays x = Check.herd(0, 0);
        String[] texts = {"come 7;", "on 1 gate;", "due 9 on 0;", "feast 8 for 1;"};
        String[] faulty = {"come 8;come 1/0;", "on 0 gate;on 1 eat 1;", "due 8 on 0;due 8 on 1;", "feast 9 for 1;feast 31 for 1;"};
        int[] places = {14, 19, 20, 20};
        for (int k = 0; k <= 3; k++) {
            Check.told(x, k, texts[k], 1);
        }
        for (int k = 0; k <= 3; k++) {
            Check.faulty(x, k, faulty[k], 2, places[k]);
            due("the TAPE is empty", x.end(1), false);
            due("the TEXT stays", x.look(11 + k), 1);
            Check.feed(x, 0, texts[k]);
            due("no such one", x.text(k == 0 ? -1 : k + 3), NONE);
            due("fault() tells 0", x.fault(0), 0);
            due("no place", x.fault(1), NONE);
            due("the TAPE is empty", x.end(1), false);
        }
        due("THE LAW stays", x.of(0, 5), 7);
        due("DUES stay", x.due(0, 0), 9);
        due("FEASTS stay", x.moves(10), 8);
        x.days(1);
        due("A PLAN stays: not on 0", x.look(7), 0);
        x.days(1);
        due("A PLAN stays: on 1", x.look(7), 1);
    }

    @Sentence(promise = 11, value = "Of the latest text(): what 0 the FAULT (0 without one), 1 its place (NONE).")
    static void p11Fault() {
        DeerDays x = Check.herd(0, 0);
        due("no text() yet", x.fault(0), 0);
        due("no text() yet", x.fault(1), NONE);
        Check.faulty(x, 0, "shy", 1, 3);
        Check.faulty(x, 0, "?", 1, 0);
        Check.faulty(x, 0, "shy 1/0;", 2, 6);
        Check.faulty(x, 0, "shy 1;".repeat(17), 3, 96);
        Check.told(x, 0, "shy 1;", 1);
        due("without one", x.fault(0), 0);
        due("without one", x.fault(1), NONE);
        Check.faulty(x, 0, "?", 1, 0);
        due("no such TEXT", x.text(4), NONE);
        due("without one", x.fault(0), 0);
        due("without one", x.fault(1), NONE);
    }

    @Sentence(promise = 11, value = "NONE for another what.")
    static void p11FaultRefused() {
        DeerDays x = Check.herd(0, 0);
        String[] texts = {"", "?", "shy 1/0;", "shy 1;".repeat(17), "shy 1;"};
        int[] others = {MIN, -1, 2, 3, MAX};
        for (String text : texts) {
            Check.text(x, 0, text);
            for (int what : others) {
                due("another what", x.fault(what), NONE);
            }
        }
    }

    @Sentence(promise = 12, value = "Of a DEER what 0 MARK, 1 CALM, 2 ALIVE, 3 SINCE, 4 CAME, 5 come, 6 long, 7 shy.")
    static void p12Of() {
        DeerDays x = Check.herd(5, 9, 1, 2);
        x.set(7, 1, 33);
        x.set(8, 1, 44);
        Check.told(x, 0, "come 55; long 16; shy 7;", 3);
        x.eat(1, true);
        int[][] want = {{5, 9, 1, 0, 0, 55, 16, 7}, {1, 2, 0, 33, 44, 55, 16, 7}};
        for (int deer = 0; deer <= 1; deer++) {
            for (int what = 0; what <= 7; what++) {
                due("of " + deer + " what " + what, x.of(deer, what), want[deer][what]);
            }
        }
    }

    @Sentence(promise = 12, value = "NONE if there is none such, or another what.")
    static void p12OfRefused() {
        DeerDays x = new DeerDays();
        due("none at all", x.of(0, 0), NONE);
        x.deer(0, 0);
        int[] nobody = {MIN, -1, 1, 10, MAX};
        for (int who : nobody) {
            due("none such", x.of(who, 0), NONE);
            due("none such", x.of(who, 7), NONE);
        }
        int[] others = {MIN, -1, 8, 10, MAX};
        for (int what : others) {
            due("another what", x.of(0, what), NONE);
        }
    }

    @Sentence(promise = 13, value = "Of a DUE what 0 N, 1 the DEER, 2 its DAY (NONE), 3 1 if it is paid, else 0.")
    static void p13Due() {
        DeerDays x = Check.herd(0, 0, 0, 0);
        Check.onlyComes(x, 1);
        Check.told(x, 2, "due 999 on 0; due 1 on 1 after 0; due 2 on 1; due 3 on 1 after 999;", 4);
        x.days(1);
        int[][] want = {{999, 0, NONE, 0}, {1, 1, 0, 0}, {2, 1, NONE, 1}, {3, 1, 999, 0}};
        for (int i = 0; i <= 3; i++) {
            for (int what = 0; what <= 3; what++) {
                due("of " + i + " what " + what, x.due(i, what), want[i][what]);
            }
        }
        x.days(1);
        due("paid then", x.due(1, 3), 1);
        due("undone", x.undo() && x.due(1, 3) == 0, true);
    }

    @Sentence(promise = 13, value = "NONE - 1 if there is none such, or another what.")
    static void p13DueRefused() {
        DeerDays x = Check.herd(0, 0);
        due("none at all", x.due(0, 0), NONE - 1);
        Check.told(x, 2, "due 1 on 0;".repeat(16), 16);
        due("the last", x.due(15, 0), 1);
        int[] none = {MIN, -1, 16, MAX};
        for (int i : none) {
            due("none such", x.due(i, 0), NONE - 1);
            due("none such", x.due(i, 3), NONE - 1);
        }
        int[] others = {MIN, -1, 4, MAX};
        for (int what : others) {
            due("another what", x.due(0, what), NONE - 1);
        }
    }

    @Sentence(promise = 14, value = "Of line i of THE BOOK what 0 DAY, 1 what, 2 which, 3 how many.")
    static void p14Book() {
        DeerDays x = Check.herd(0, 4, 0, 5);
        Check.onlyComes(x, 1);
        x.days(1);
        x.eat(1, true);
        x.days(1);
        int[][] want = {{0, 0, 1, 11}, {1, 3, 1, 0}, {1, 1, NONE, 5}};
        for (int i = 0; i <= 2; i++) {
            for (int what = 0; what <= 3; what++) {
                due("of line " + i + " what " + what, x.book(i, what), want[i][what]);
            }
        }
    }

    @Sentence(promise = 14, value = "NONE - 1 if there is none such, or another what.")
    static void p14BookRefused() {
        DeerDays x = Check.herd(0, 0);
        due("none at all", x.book(0, 0), NONE - 1);
        for (int i = 0; i < 3; i++) {
            x.days(60);
        }
        due("the last", x.book(149, 0), 149);
        int[] none = {MIN, -1, 150, 151, MAX};
        for (int i : none) {
            due("none such", x.book(i, 0), NONE - 1);
            due("none such", x.book(i, 3), NONE - 1);
        }
        int[] others = {MIN, -1, 4, MAX};
        for (int what : others) {
            due("another what", x.book(0, what), NONE - 1);
        }
        DeerDays y = Check.herd(0, 0);
        y.days(2);
        due("the last", y.book(1, 0), 1);
        due("none such", y.book(2, 0), NONE - 1);
        y.undo();
        due("none such any more", y.book(1, 0), NONE - 1);
    }

    @Sentence(promise = 15, value = "NEXT (n 0), BY n days (1 .. 60); NONE if one can't be (not ALIVE: 0).")
    static void p15Next() {
        DeerDays x = new DeerDays();
        due("none such", x.next(0, 0), NONE);
        x.deer(0, 0);
        x.deer(0, 0);
        due("n 0", x.next(1, 0), 500000);
        due("n 1", x.next(1, 1), 500000);
        due("n 2", x.next(1, 2), 750000);
        due("n 60", x.next(1, 60), 999999);
        int[] wrong = {MIN, -1, 61, MAX};
        for (int n : wrong) {
            due("n can't be", x.next(1, n), NONE);
        }
        int[] nobody = {MIN, -1, 2, 10, MAX};
        for (int who : nobody) {
            due("none such", x.next(who, 0), NONE);
            due("none such", x.next(who, 1), NONE);
        }
        x.eat(1, true);
        due("not ALIVE, n 0", x.next(1, 0), 0);
        due("not ALIVE, n 60", x.next(1, 60), 0);
        due("not ALIVE, n can't be", x.next(1, 61), NONE);
        due("the other one", x.next(0, 0), 1000000);
    }

    @Sentence(promise = 16, value = "LIKELIEST; NONE if none is ALIVE.")
    static void p16Likeliest() {
        DeerDays x = new DeerDays();
        due("none", x.likeliest(), NONE);
        x.deer(0, 0);
        due("the only one", x.likeliest(), 0);
        x.deer(0, 0);
        x.set(7, 1, 1);
        due("the greatest", x.likeliest(), 1);
        x.eat(1, true);
        due("the ALIVE one", x.likeliest(), 0);
        x.eat(0, true);
        due("none is ALIVE", x.likeliest(), NONE);
        x.eat(1, false);
        due("freed", x.likeliest(), 1);
    }

    @Sentence(promise = 17, value = "GOES (the DAY may be above 9999 in thought) what 0 COIN, 1 HOURS, 2 DUES paid, 3 TODAY (NONE).")
    static void p17GoesAbove9999() {
        DeerDays x = onDay(9999);
        int hours = x.look(4);
        Check.told(x, 0, "long season;", 1);
        Check.told(x, 2, "due 7 on 0 after 999;", 1);
        due("COIN", x.goes(1, 0), -7);
        due("HOURS on DAY 9999", x.goes(1, 1), hours + 9);
        due("HOURS on to DAY 10019", x.goes(21, 1), hours + 21 * 9);
        due("HOURS on to DAY 10020", x.goes(22, 1), hours + 21 * 9 + 10);
        due("HOURS on to DAY 10097", x.goes(99, 1), hours + 21 * 9 + 30 * 10 + 30 * 11 + 18 * 0);
        due("DUES paid", x.goes(99, 2), 1);
        due("TODAY", x.goes(99, 3), 0);
        due("DAY stays", x.look(1), 9999);
        x.eat(0, true);
        due("COIN of mist", x.goes(99, 0), 0);
        due("HOURS of mist", x.goes(99, 1), hours + 99 * 5);
        due("DUES paid in mist", x.goes(99, 2), 0);
        due("TODAY in mist", x.goes(99, 3), NONE);
    }

    @Sentence(promise = 17, value = "NONE - 99999 if one can't be, or another what.")
    static void p17GoesRefused() {
        DeerDays x = Check.herd(0, 0);
        int[] wrong = {MIN, -1, 0, 100, MAX};
        for (int n : wrong) {
            due("n can't be", x.goes(n, 0), NONE - 99999);
            due("n can't be", x.goes(n, 3), NONE - 99999);
        }
        int[] others = {MIN, -1, 4, MAX};
        for (int what : others) {
            due("another what", x.goes(1, what), NONE - 99999);
        }
        due("the least of both", x.goes(1, 0), 0);
        due("the most of both", x.goes(99, 3), 0);
    }

    @Sentence(promise = 18, value = "READS; NONE if there is none such, it is ALIVE, or none is.")
    static void p18Reads() {
        DeerDays x = Check.herd(0, 0, 0, 0);
        due("no DUE", x.reads(0), NONE);
        Check.told(x, 2, "due 1 on 0; due 1 on 1;", 2);
        int[] none = {MIN, -1, 2, 16, MAX};
        x.eat(0, true);
        for (int i : none) {
            due("none such", x.reads(i), NONE);
        }
        due("READS", x.reads(0), 1);
        due("it is ALIVE", x.reads(1), NONE);
        x.eat(1, true);
        due("none is", x.reads(0), NONE);
        due("none is", x.reads(1), NONE);
        x.eat(0, false);
        due("it is ALIVE", x.reads(0), NONE);
        due("READS", x.reads(1), 0);
    }

    @Sentence(promise = 19, value = "SEEN (a NONE: nothing is then): how many;")
    static void p19SeenNone() {
        DeerDays x = Check.herd(0, 0, 0, 0);
        due("nothing yet", x.seen(NONE, 0), 0);
        int[] seconds = {NONE, 0, 1, 2, MIN, MAX};
        for (int b : seconds) {
            due("one", x.seen(0, 1), 1);
            due("two", x.seen(1, 0), 2);
            due("no order is so", x.orders(0), 0);
            due("nothing", x.seen(NONE, b), 0);
            due("nothing", x.look(15), 0);
            due("both orders", x.orders(0), 2);
        }
        for (int i = 1; i <= 12; i++) {
            x.seen(0, 1);
        }
        due("nothing of twelve", x.seen(NONE, 0), 0);
        due("one", x.seen(1, 0), 1);
    }

    @Sentence(promise = 19, value = "NONE if one can't be (alike), or there are twelve.")
    static void p19SeenRefused() {
        DeerDays x = Check.herd(0, 0, 0, 0);
        x.seen(0, 1);
        int[][] wrong = {{0, 0}, {1, 1}, {0, 2}, {2, 0}, {0, NONE}, {-2, 0}, {MIN, 0}, {0, MIN}, {MAX, 0}, {0, MAX}};
        for (int[] w : wrong) {
            due("can't be", x.seen(w[0], w[1]), NONE);
        }
        due("one still", x.look(15), 1);
        x.eat(1, true);
        due("one that is not ALIVE can be", x.seen(0, 1), 2);
        for (int i = 3; i <= 12; i++) {
            due("told", x.seen(0, 1), i);
        }
        due("there are twelve", x.seen(0, 1), NONE);
        due("twelve still", x.look(15), 12);
    }

    @Sentence(promise = 20, value = "ORDERS what 0 how many (0, too),")
    static void p20OrdersHowMany() {
        DeerDays x = new DeerDays();
        due("of none", x.orders(0), 1);
        x.deer(0, 0);
        due("of one", x.orders(0), 1);
        x.deer(0, 0);
        due("of two", x.orders(0), 2);
        x.seen(0, 1);
        due("one", x.orders(0), 1);
        x.seen(1, 0);
        due("0", x.orders(0), 0);
    }

    @Sentence(promise = 20, value = "1, 2 the couple of ASK (NONE: fewer than two orders),")
    static void p20Ask() {
        DeerDays x = new DeerDays();
        due("of none: a", x.orders(1), NONE);
        due("of none: b", x.orders(2), NONE);
        x.deer(0, 0);
        due("one order: a", x.orders(1), NONE);
        due("one order: b", x.orders(2), NONE);
        x.deer(0, 0);
        due("two orders: a", x.orders(1), 0);
        due("two orders: b", x.orders(2), 1);
        x.seen(1, 0);
        due("one order: a", x.orders(1), NONE);
        due("one order: b", x.orders(2), NONE);
        x.seen(0, 1);
        due("no order: a", x.orders(1), NONE);
        due("no order: b", x.orders(2), NONE);
        DeerDays y = Check.herd(new int[20]);
        due("all orders of ten: a", y.orders(1), 0);
        due("all orders of ten: b", y.orders(2), 1);
        for (int i = 0; i < 8; i++) {
            y.seen(i, i + 1);
        }
        due("ten orders, the last one anywhere: a", y.orders(1), 4);
        due("ten orders, the last one anywhere: b", y.orders(2), 9);
        y.seen(9, 1);
        due("two orders: a", y.orders(1), 0);
        due("two orders: b", y.orders(2), 9);
    }

    @Sentence(promise = 20, value = "10 + i the i-th of the first one (NONE without one).")
    static void p20FirstOne() {
        DeerDays x = new DeerDays();
        due("of none", x.orders(10), NONE);
        x.deer(0, 0);
        due("the 0th", x.orders(10), 0);
        due("the 1st of one", x.orders(11), NONE);
        x.deer(0, 0);
        x.deer(0, 0);
        x.seen(2, 1);
        int[] want = {0, 2, 1, NONE};
        for (int i = 0; i <= 3; i++) {
            due("the " + i + "-th", x.orders(10 + i), want[i]);
        }
        x.seen(1, 2);
        for (int i = 0; i <= 3; i++) {
            due("without one", x.orders(10 + i), NONE);
        }
        DeerDays y = Check.herd(new int[20]);
        due("the last of ten", y.orders(19), 9);
        due("behind the last of ten", y.orders(20), NONE);
    }

    @Sentence(promise = 20, value = "NONE for another what.")
    static void p20OrdersRefused() {
        DeerDays x = Check.herd(new int[20]);
        int[] others = {MIN, -1, 3, 9, 20, 30, MAX};
        for (int what : others) {
            due("another what", x.orders(what), NONE);
        }
    }

    @Sentence(promise = 21, value = "MOVES what 0 the days, 10 + i the DAY of FEAST i.")
    static void p21Moves() {
        DeerDays x = new DeerDays();
        due("no FEAST: no days", x.moves(0), 0);
        Check.told(x, 3, "feast 0 for 0;", 1);
        due("the days", x.moves(0), 0);
        due("the DAY", x.moves(10), 0);
        Check.told(x, 3, "feast 20 for 9;".repeat(8), 8);
        due("the days of eight", x.moves(0), 16);
        for (int i = 0; i <= 7; i++) {
            due("the DAY of FEAST " + i, x.moves(10 + i), 16 + i);
        }
    }

    @Sentence(promise = 21, value = "NONE if there is no way, or another what.")
    static void p21MovesRefused() {
        DeerDays x = new DeerDays();
        due("no FEAST", x.moves(10), NONE);
        Check.told(x, 3, "feast 20 for 9;".repeat(8), 8);
        int[] others = {MIN, -1, 1, 2, 9, 18, 19, MAX};
        for (int what : others) {
            due("another what", x.moves(what), NONE);
        }
        Check.told(x, 3, "feast 1 for 0; feast 1 for 0;", 2);
        due("no way", x.moves(0), NONE);
        due("no way", x.moves(10), NONE);
        due("no way", x.moves(11), NONE);
        due("another what", x.moves(12), NONE);
    }

    @Sentence(promise = 22, value = "A WORK (NONE: none is then): how many;")
    static void p22WorkNone() {
        DeerDays x = Check.herd(0, 0);
        due("none yet", x.work(NONE), 0);
        due("one", x.work(24), 1);
        due("two", x.work(1), 2);
        due("fits no day", x.works(0), NONE);
        due("none", x.work(NONE), 0);
        due("none", x.look(16), 0);
        due("no days", x.works(0), 0);
        for (int i = 1; i <= 8; i++) {
            due("told", x.work(1), i);
        }
        due("none of eight", x.work(NONE), 0);
        due("one", x.work(6), 1);
    }

    @Sentence(promise = 22, value = "NONE if one can't be, or there are eight.")
    static void p22WorkRefused() {
        DeerDays x = new DeerDays();
        int[] wrong = {MIN, -2, 0, 25, MAX};
        for (int hours : wrong) {
            due("can't be", x.work(hours), NONE);
        }
        due("none", x.look(16), 0);
        int[] hours = {1, 2, 23, 24, 1, 1, 1, 1};
        for (int i = 0; i < 8; i++) {
            due("told", x.work(hours[i]), i + 1);
        }
        due("there are eight", x.work(1), NONE);
        due("can't be", x.work(25), NONE);
        due("eight still", x.look(16), 8);
    }

    @Sentence(promise = 23, value = "WORKS what 0 how many days, 1 the DEER (NONE without WORKS), 2 ORDERED best.")
    static void p23Works() {
        DeerDays x = Check.herd(0, 0, 0, 0);
        Check.told(x, 0, "come deer; long 2 when deer = 0; long 5;", 3);
        due("without WORKS: days", x.works(0), 0);
        due("without WORKS: the DEER", x.works(1), NONE);
        due("without WORKS: best", x.works(2), 0);
        x.work(1);
        due("one: days", x.works(0), 1);
        due("one: the DEER", x.works(1), 1);
        due("one: best", x.works(2), 1);
        x.work(5);
        x.work(1);
        due("three: days", x.works(0), 4);
        due("three: the DEER", x.works(1), 0);
        due("three: best, 5 and 1 and 1", x.works(2), 2);
        x.work(NONE);
        due("none again: the DEER", x.works(1), NONE);
    }

    @Sentence(promise = 23, value = "NONE if some fits no day, none is ALIVE, or another what.")
    static void p23WorksRefused() {
        DeerDays x = new DeerDays();
        due("none is ALIVE", x.works(0), NONE);
        x.deer(0, 2);
        x.deer(0, 4);
        x.work(10);
        due("fits", x.works(0), 2);
        x.work(11);
        for (int what = 0; what <= 2; what++) {
            due("some fits no day", x.works(what), NONE);
        }
        x.work(NONE);
        int[] others = {MIN, -1, 3, 10, MAX};
        for (int what : others) {
            due("another what", x.works(what), NONE);
        }
        x.work(10);
        x.eat(1, true);
        due("the day that it fits is not ALIVE", x.works(0), NONE);
        Check.told(x, 0, "long 0;", 1);
        due("days of 0 hours", x.works(0), NONE);
        x.work(NONE);
        x.work(1);
        for (int what = 0; what <= 2; what++) {
            due("1 hour on days of 0 hours", x.works(what), NONE);
        }
        x.work(NONE);
        due("no WORKS, days of 0 hours", x.works(0), 0);
        x.eat(0, true);
        for (int what = 0; what <= 2; what++) {
            due("none is ALIVE", x.works(what), NONE);
        }
    }

    @Sentence(promise = 24, value = "A path (a NONE: none is then; alike: can't be): how many;")
    static void p24GateNone() {
        DeerDays x = new DeerDays();
        due("none yet", x.gate(NONE, 0), 0);
        int[] seconds = {NONE, 0, 9, 10, MIN, MAX};
        for (int b : seconds) {
            due("one", x.gate(0, 1), 1);
            due("two", x.gate(2, 3), 2);
            due("watched", x.watch(0), 2);
            due("none", x.gate(NONE, b), 0);
            due("none", x.look(17), 0);
            due("none watched", x.watch(0), 0);
        }
        for (int i = 0; i <= 9; i++) {
            due("alike", x.gate(i, i), NONE);
        }
        for (int i = 1; i <= 14; i++) {
            x.gate(0, 1);
        }
        due("none of fourteen", x.gate(NONE, 0), 0);
        due("one", x.gate(9, 0), 1);
    }

    @Sentence(promise = 24, value = "NONE if one can't be, or there are fourteen.")
    static void p24GateRefused() {
        DeerDays x = new DeerDays();
        int[][] wrong = {{0, 10}, {10, 0}, {0, NONE}, {-2, 0}, {MIN, 0}, {0, MIN}, {MAX, 0}, {0, MAX}, {10, 10}};
        for (int[] w : wrong) {
            due("can't be", x.gate(w[0], w[1]), NONE);
        }
        due("none", x.look(17), 0);
        for (int i = 1; i <= 14; i++) {
            due("told", x.gate(9, 0), i);
        }
        due("there are fourteen", x.gate(9, 0), NONE);
        due("fourteen still", x.look(17), 14);
    }

    @Sentence(promise = 25, value = "WATCH what 0 how many, 1 the set.")
    static void p25Watch() {
        DeerDays x = new DeerDays();
        due("no path: how many", x.watch(0), 0);
        due("no path: the set", x.watch(1), 0);
        x.gate(9, 0);
        due("the first of the GATES: how many", x.watch(0), 1);
        due("the first of the GATES: the set", x.watch(1), 1);
        x.gate(NONE, 0);
        x.gate(9, 8);
        x.gate(9, 7);
        due("the last of the GATES: how many", x.watch(0), 1);
        due("the last of the GATES: the set", x.watch(1), 512);
    }

    @Sentence(promise = 25, value = "NONE for another what.")
    static void p25WatchRefused() {
        DeerDays x = new DeerDays();
        int[] others = {MIN, -1, 2, 10, MAX};
        for (int turn = 0; turn <= 1; turn++) {
            for (int what : others) {
                due("another what", x.watch(what), NONE);
            }
            x.gate(9, 0);
        }
    }

    @Sentence(promise = 26, value = "ATE is told (a NONE: nothing is then): how many;")
    static void p26AteNone() {
        DeerDays x = Check.herd(0, 0);
        due("nothing yet", x.ate(NONE, 0), 0);
        int[] seconds = {NONE, 0, 1, 10, MIN, MAX};
        for (int deer : seconds) {
            due("one", x.ate(0, 0), 1);
            due("two", x.ate(1, 0), 2);
            due("no way", x.ways(0), 0);
            due("nothing", x.ate(NONE, deer), 0);
            due("nothing", x.look(18), 0);
            due("one way", x.ways(0), 1);
        }
        for (int i = 1; i <= 20; i++) {
            x.ate(0, 0);
        }
        due("nothing of twenty", x.ate(NONE, 0), 0);
        due("one", x.ate(6, 0), 1);
    }

    @Sentence(promise = 26, value = "NONE if one can't be, or there are twenty.")
    static void p26AteRefused() {
        DeerDays x = Check.herd(0, 0, 0, 0);
        int[][] wrong = {{7, 0}, {-2, 0}, {MIN, 0}, {MAX, 0}, {0, 2}, {0, NONE}, {0, MIN}, {0, MAX}};
        for (int[] w : wrong) {
            due("can't be", x.ate(w[0], w[1]), NONE);
        }
        due("nothing", x.look(18), 0);
        for (int i = 1; i <= 20; i++) {
            due("told", x.ate(6, 1), i);
        }
        due("there are twenty", x.ate(6, 1), NONE);
        due("twenty still", x.look(18), 20);
    }

    @Sentence(promise = 27, value = "ATE what 0 in how many ways, 1 SURE (couples told twice count once).")
    static void p27Ways() {
        DeerDays x = Check.herd(new int[20]);
        due("nothing told: ways", x.ways(0), 1);
        due("nothing told: SURE", x.ways(1), 0);
        for (int i = 1; i <= 3; i++) {
            x.ate(0, 0);
            due("told " + i + " times: ways", x.ways(0), 1);
            due("told " + i + " times: SURE", x.ways(1), 1);
        }
        x.ate(6, 9);
        x.ate(6, 9);
        due("both told again: ways", x.ways(0), 1);
        due("both told again: SURE", x.ways(1), 2);
        x.ate(6, 8);
        due("one of two: ways", x.ways(0), 2);
        due("one of two: SURE", x.ways(1), 1);
        x.ate(5, 0);
        due("no way", x.ways(0), 0);
        due("none SURE of no way", x.ways(1), 0);
        x.ate(NONE, 0);
        x.ate(0, 1);
        x.ate(1, 0);
        due("crosswise: ways", x.ways(0), 1);
        due("crosswise: SURE", x.ways(1), 2);
        x.ate(NONE, 0);
        for (int i = 0; i < 20; i++) {
            x.ate(i % 7, i / 7 + i % 7);
        }
        due("twenty told, of seven: ways", x.ways(0), 54);
        due("twenty told, of seven: SURE", x.ways(1), 0);
    }

    @Sentence(promise = 27, value = "NONE for another what.")
    static void p27WaysRefused() {
        DeerDays x = Check.herd(0, 0);
        int[] others = {MIN, -1, 2, 10, MAX};
        for (int turn = 0; turn <= 1; turn++) {
            for (int what : others) {
                due("another what", x.ways(what), NONE);
            }
            x.ate(0, 0);
        }
    }

    @Sentence(promise = 28, value = "A VOTE (NONE: none is then): how many;")
    static void p28VoteNone() {
        DeerDays x = new DeerDays();
        due("none yet", x.vote(NONE), 0);
        due("one", x.vote(24), 1);
        due("two", x.vote(0), 2);
        due("none", x.vote(NONE), 0);
        due("none", x.look(19), 0);
        due("no hour", x.votes(0), NONE);
        for (int i = 1; i <= 9; i++) {
            due("told", x.vote(24), i);
        }
        due("none of nine", x.vote(NONE), 0);
        due("one", x.vote(5), 1);
        due("its hour", x.votes(0), 5);
    }

    @Sentence(promise = 28, value = "NONE if one can't be, or there are nine.")
    static void p28VoteRefused() {
        DeerDays x = new DeerDays();
        int[] wrong = {MIN, -2, 25, MAX};
        for (int hour : wrong) {
            due("can't be", x.vote(hour), NONE);
        }
        due("none", x.look(19), 0);
        int[] hours = {0, 1, 23, 24, 0, 0, 0, 0, 0};
        for (int i = 0; i < 9; i++) {
            due("told", x.vote(hours[i]), i + 1);
        }
        due("there are nine", x.vote(0), NONE);
        due("nine still", x.look(19), 9);
    }

    @Sentence(promise = 29, value = "VOTES what 0 the hour, 1 the sum.")
    static void p29Votes() {
        DeerDays x = new DeerDays();
        x.vote(24);
        due("one: the hour", x.votes(0), 24);
        due("one: the sum", x.votes(1), 0);
        x.vote(0);
        due("two: the hour", x.votes(0), 0);
        due("two: the sum", x.votes(1), 24);
        for (int i = 3; i <= 9; i++) {
            x.vote(24);
        }
        due("nine: the hour", x.votes(0), 24);
        due("nine: the sum", x.votes(1), 24);
    }

    @Sentence(promise = 29, value = "NONE without VOTES, or for another what.")
    static void p29VotesRefused() {
        DeerDays x = new DeerDays();
        int[] others = {MIN, -1, 2, 10, MAX};
        for (int turn = 0; turn <= 1; turn++) {
            due("without VOTES: the hour", x.votes(0), NONE);
            due("without VOTES: the sum", x.votes(1), NONE);
            x.vote(5);
            due("with one", x.votes(0), 5);
            for (int what : others) {
                due("another what", x.votes(what), NONE);
            }
            x.vote(NONE);
        }
    }

    @Sentence(promise = 30, value = "SALTS what 0 the sum, 10 + i what DEER i is given.")
    static void p30Salts() {
        DeerDays x = Check.herd(new int[20]);
        Check.told(x, 0, "come salt when deer = 9; come 0;", 2);
        due("the sum", x.salts(1, 0), 1);
        due("the last is given", x.salts(1, 19), 1);
        due("the first is given", x.salts(1, 10), 0);
        due("the sum", x.salts(20, 0), 20);
        due("the last is given", x.salts(20, 19), 20);
        Check.told(x, 0, "come salt when deer = 0; come 0;", 2);
        due("the sum", x.salts(20, 0), 20);
        due("the first is given", x.salts(20, 10), 20);
        due("the last is given", x.salts(20, 19), 0);
    }

    @Sentence(promise = 30, value = "NONE if none is ALIVE, s can't be, or another what.")
    static void p30SaltsRefused() {
        DeerDays x = new DeerDays();
        due("none is ALIVE", x.salts(1, 0), NONE);
        x.deer(0, 0);
        int[] wrong = {MIN, -1, 0, 21, MAX};
        for (int s : wrong) {
            due("s can't be", x.salts(s, 0), NONE);
            due("s can't be", x.salts(s, 10), NONE);
        }
        int[] others = {MIN, -1, 1, 2, 9, 11, 20, MAX};
        for (int what : others) {
            due("another what", x.salts(1, what), NONE);
        }
        due("s 1", x.salts(1, 10), 1);
        due("s 20", x.salts(20, 10), 20);
        x.eat(0, true);
        due("none is ALIVE", x.salts(1, 0), NONE);
        due("none is ALIVE", x.salts(1, 10), NONE);
    }

    @Sentence(promise = 31, value = "NODS; NONE if one can't be (alike: couples of two such).")
    static void p31Nods() {
        DeerDays x = Check.herd(new int[20]);
        due("alike: couples of ten", x.nods(0, 0), 45);
        x.set(5, 9, 5);
        due("alike: couples of nine", x.nods(0, 0), 36);
        due("of nine and one", x.nods(0, 5), 9);
        due("of one and nine", x.nods(5, 0), 9);
        due("alike: of one", x.nods(5, 5), 0);
        due("of nine and none", x.nods(0, 4), 0);
        int[] wrong = {MIN, -1, 6, MAX};
        for (int mark : wrong) {
            due("can't be", x.nods(mark, 0), NONE);
            due("can't be", x.nods(0, mark), NONE);
            due("can't be", x.nods(mark, mark), NONE);
        }
    }

    @Sentence(promise = 32, value = "GAME what 0 the DEER, 1 how many.")
    static void p32Game() {
        DeerDays x = Check.herd(new int[20]);
        x.set(8, 9, 3);
        due("the last DEER", x.game(0), 9);
        due("how many", x.game(1), 3);
        x.set(8, 9, 0);
        x.set(8, 0, 1);
        due("the first DEER", x.game(0), 0);
        due("how many", x.game(1), 1);
    }

    @Sentence(promise = 32, value = "NONE if who begins loses, or for another what.")
    static void p32GameRefused() {
        DeerDays x = new DeerDays();
        due("of none: who begins loses", x.game(0), NONE);
        due("of none: who begins loses", x.game(1), NONE);
        x.deer(0, 0);
        due("of none to take: who begins loses", x.game(0), NONE);
        x.set(8, 0, 3);
        due("from 3: the DEER", x.game(0), 0);
        int[] others = {MIN, -1, 2, 10, MAX};
        for (int what : others) {
            due("another what", x.game(what), NONE);
        }
        x.set(8, 0, 4);
        due("from 4: who begins loses", x.game(0), NONE);
        due("from 4: who begins loses", x.game(1), NONE);
        x.set(8, 0, 5);
        due("from 5: the DEER", x.game(0), 0);
        due("from 5: how many", x.game(1), 1);
    }

    @Sentence(promise = 33, value = "UNDO: true; false if there is nothing.")
    static void p33Undo() {
        DeerDays x = Check.herd(0, 0);
        due("nothing", x.undo(), false);
        x.days(1);
        due("one", x.undo(), true);
        due("nothing any more", x.undo(), false);
        due("DAY", x.look(1), 0);
        x.days(5);
        x.eat(0, true);
        for (int i = 6; i >= 1; i--) {
            due("what can be undone", x.look(20), i);
            due("one of six", x.undo(), true);
        }
        due("nothing any more", x.undo(), false);
        due("DAY", x.look(1), 0);
        x.days(7);
        for (int i = 6; i >= 1; i--) {
            due("one of six", x.undo(), true);
        }
        due("nothing any more", x.undo(), false);
        due("DAY", x.look(1), 1);
    }

    @Sentence(promise = 34, value = "THE IMAGE is taken (true), or gone back to (false): true; false if there is none.")
    static void p34Image() {
        DeerDays x = Check.herd(0, 0);
        x.days(1);
        due("none", x.image(false), false);
        due("nothing changed", x.look(1) == 1 && x.look(20) == 1, true);
        due("taken", x.image(true), true);
        x.days(1);
        due("gone back to", x.image(false), true);
        due("DAY", x.look(1), 1);
        due("gone back to", x.image(false), true);
        x.days(2);
        due("taken again", x.image(true), true);
        x.days(1);
        due("gone back to", x.image(false), true);
        due("DAY", x.look(1), 3);
    }

    @Sentence(promise = 35, value = "What 0 DEER, 1 DAY, 2 TODAY (NONE), 3 COIN, 4 HOURS, 5 SALT, 6 NOISE, 7 GATE, 8 those ALIVE (a set), 9 lines of THE BOOK, "
        + "10 STATE, 11 lines of THE LAW, 12 of A PLAN, 13 DUES, 14 FEASTS, 15 SEEN, 16 WORKS, 17 paths, 18 ATE, 19 VOTES, 20 what can be undone.")
    static void p35Look() {
        DeerDays x = Check.herd(new int[20]);
        Check.told(x, 0, "come 1 when deer = 9; come 0; long 7;", 3);
        Check.told(x, 1, "on 0 gate; on 500 gate; on 500 gate; on 500 gate;", 4);
        Check.told(x, 2, "due 9 on 9;".repeat(5), 5);
        Check.told(x, 3, "feast 1 for 9;".repeat(6), 6);
        x.set(0, 0, 99);
        x.set(1, 0, 50);
        x.state(0);
        x.days(1);
        x.eat(0, true);
        int[] told = {7, 8, 14, 13, 9};
        for (int i = 0; i < told[0]; i++) {
            x.seen(0, 1);
        }
        for (int i = 0; i < told[1]; i++) {
            x.work(1);
        }
        for (int i = 0; i < told[2]; i++) {
            x.gate(0, 1);
        }
        for (int i = 0; i < told[3]; i++) {
            x.ate(0, 1);
        }
        for (int i = 0; i < told[4]; i++) {
            x.vote(1);
        }
        int[] want = {10, 1, 9, -45, 7, 98, 49, 1, 1022, 7, 1013904223, 3, 4, 5, 6, 7, 8, 14, 13, 9, 2};
        for (int what = 0; what <= 20; what++) {
            due("what " + what, x.look(what), want[what]);
        }
        Check.told(x, 0, "come 0;", 1);
        x.days(1);
        due("TODAY", x.look(2), NONE);
        for (int i = 1; i <= 9; i++) {
            x.eat(i, true);
        }
        due("none ALIVE", x.look(8), 0);
    }

    @Sentence(promise = 35, value = "NONE - 999999 for another what.")
    static void p35LookRefused() {
        DeerDays x = Check.herd(0, 0);
        int[] others = {MIN, -2, -1, 21, 22, MAX};
        for (int what : others) {
            due("another what", x.look(what), NONE - 999999);
        }
        due("the least", x.look(0), 1);
        due("the most", x.look(20), 0);
    }

    @Sentence(promise = 35, value = "(STATE, COIN, HOURS as they are.)")
    static void p35LookAsTheyAre() {
        DeerDays x = Check.herd(0, 0);
        x.state(NONE - 999999);
        due("STATE as it is", x.look(10), NONE - 999999);
        x.state(MIN);
        due("STATE as it is", x.look(10), MIN);
        x.state(NONE);
        due("STATE as it is", x.look(10), NONE);
        Check.told(x, 2, "due 1 on 0;", 1);
        x.days(1);
        due("COIN as it is", x.look(3), -1);
        due("HOURS as they are", x.look(4), 6);
    }
}
