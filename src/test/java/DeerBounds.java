/** The terms' first words, and their part 1: the deer, the wood, the calendar. */
final class DeerBounds {
    private static final int NONE = DeerDays.NONE;
    private static final int MIN = Integer.MIN_VALUE;
    private static final int MAX = Integer.MAX_VALUE;

    private DeerBounds() { }

    private static void due(String what, long got, long want) {
        Check.due(what, got, want);
    }

    private static void due(String what, boolean got, boolean want) {
        Check.due(what, got, want);
    }

    /** Every call of the 512 is answered as ever; those behind answer anything, but they answer. */
    @Sentence("An object is used for at most 512 calls after it has been made; what later calls answer is free.")
    static void usedFor512Calls() {
        DeerDays x = new DeerDays();
        due("call 1", x.deer(0, 0), 0);
        for (int call = 2; call <= 510; call++) {
            due("call " + call, x.days(1), 0);
        }
        due("call 511", x.look(1), 509);
        due("call 512", x.days(1), 0);
        for (int call = 513; call <= 600; call++) {
            x.days(60);
            x.goes(99, 0);
            x.orders(1);
        }
    }

    @Sentence("Quotients go downwards.")
    static void quotientsGoDownwards() {
        DeerDays x = Check.herd(0, 0, 0, 0, 0, 0);
        int[] noises = {0, 8, 9, 10, 17, 18, 26, 27};
        int[] byNine = {0, 0, 1, 1, 1, 2, 2, 3};
        for (int i = 0; i < noises.length; i++) {
            x.set(1, 0, noises[i]);
            due("noise " + noises[i] + " by 9", x.of(0, 7), byNine[i]);
        }
        due("a million by 3", x.next(0, 0), 333333);
        Check.told(x, 0, "come 2 when deer = 0; come 1 when deer = 1; come 0;", 3);
        due("two million by 3", x.next(0, 0), 666666);
        due("a million by 3", x.next(1, 0), 333333);
        due("0 by 3", x.next(2, 0), 0);
    }

    @Sentence("STATE of draws (an int, 0 at first);")
    static void stateIsAnyInt() {
        DeerDays x = new DeerDays();
        due("at first", x.look(10), 0);
        int[] told = {MAX, MIN, -1, 0, 1};
        int was = 0;
        for (int v : told) {
            due("told " + v, x.state(v), was);
            due("told " + v, x.look(10), v);
            was = v;
        }
    }

    /** 682 is the least STATE above 0 at which the sum goes beyond an int. */
    @Sentence("a DRAW of m: it becomes 1664525 times itself + 1013904223 (ints, which wrap),")
    static void drawWraps() {
        int[] states = {0, 1, 681, 682, 683, -1, MAX, MIN};
        int[] nexts = {1013904223, 1015568748, 2147445748, -2145857023, -2144192498, 1012239698, -1135243950, -1133579425};
        for (int i = 0; i < states.length; i++) {
            DeerDays x = Check.herd(0, 0);
            x.state(states[i]);
            x.days(1);
            due("behind " + states[i], x.look(10), nexts[i]);
        }
    }

    /** Three come alike, so the DRAW is of 3. The lowest 8 bits never matter; 2 ^ 24 less 1 is a multiple of 3. */
    @Sentence("then it is its highest 24 bits (without sign) modulo m.")
    static void drawIsTheHighest24BitsWithoutSign() {
        int[] nexts = {0, 0xff, 0x100, 0x1ff, 0x200, 0x2ff, 0x300, 0x7fffff00, MAX, MIN, 0x800000ff, 0x80000100, 0xfffffe00, 0xffffff00, -1};
        int[] comes = {0, 0, 1, 1, 2, 2, 0, 1, 1, 2, 2, 0, 2, 0, 0};
        for (int i = 0; i < nexts.length; i++) {
            DeerDays x = Check.herd(0, 0, 0, 0, 0, 0);
            x.state(Check.stateAheadOf(nexts[i]));
            x.days(1);
            due("STATE", x.look(10), nexts[i]);
            due("comes by " + nexts[i], x.look(2), comes[i]);
        }
    }

    @Sentence("DEER 0 .. 9 as they come:")
    static void deerZeroToNine() {
        DeerDays x = new DeerDays();
        due("none yet", x.of(0, 0), NONE);
        for (int i = 0; i <= 9; i++) {
            due("number", x.deer(i % 6, 9 - i), i);
            due("how many", x.look(0), i + 1);
        }
        due("the eleventh", x.deer(0, 0), NONE);
        due("how many", x.look(0), 10);
        due("below", x.of(-1, 1), NONE);
        due("the first", x.of(0, 1), 9);
        due("the last", x.of(9, 1), 0);
        due("above", x.of(10, 1), NONE);
    }

    @Sentence("MARK 0 .. 5,")
    static void markZeroToFive() {
        DeerDays x = new DeerDays();
        due("below", x.deer(-1, 0), NONE);
        due("least", x.deer(0, 0), 0);
        due("next", x.deer(1, 0), 1);
        due("ahead of most", x.deer(4, 0), 2);
        due("most", x.deer(5, 0), 3);
        due("above", x.deer(6, 0), NONE);
        due("far", x.deer(MIN, 0), NONE);
        due("far", x.deer(MAX, 0), NONE);
        due("least", x.of(0, 0), 0);
        due("most", x.of(3, 0), 5);
        due("set below", x.set(5, 0, -1), false);
        due("set above", x.set(5, 0, 6), false);
        due("still", x.of(0, 0), 0);
        due("set most", x.set(5, 0, 5) && x.of(0, 0) == 5, true);
        due("set least", x.set(5, 0, 0) && x.of(0, 0) == 0, true);
    }

    @Sentence("CALM 0 .. 9,")
    static void calmZeroToNine() {
        DeerDays x = new DeerDays();
        due("below", x.deer(0, -1), NONE);
        due("least", x.deer(0, 0), 0);
        due("next", x.deer(0, 1), 1);
        due("ahead of most", x.deer(0, 8), 2);
        due("most", x.deer(0, 9), 3);
        due("above", x.deer(0, 10), NONE);
        due("far", x.deer(0, MIN), NONE);
        due("far", x.deer(0, MAX), NONE);
        due("least", x.of(0, 1), 0);
        due("most", x.of(3, 1), 9);
        due("set below", x.set(6, 0, -1), false);
        due("set above", x.set(6, 0, 10), false);
        due("still", x.of(0, 1), 0);
        due("set most", x.set(6, 0, 9) && x.of(0, 1) == 9, true);
        due("set least", x.set(6, 0, 0) && x.of(0, 1) == 0, true);
    }

    @Sentence("ALIVE 1, 0 (1 at first),")
    static void aliveAtFirst() {
        DeerDays x = Check.herd(0, 0, 0, 0);
        due("at first", x.of(0, 2), 1);
        due("at first", x.of(1, 2), 1);
        x.eat(1, true);
        due("the other one", x.of(0, 2), 1);
        due("eaten", x.of(1, 2), 0);
        due("a new one", x.deer(0, 0), 2);
        due("a new one", x.of(2, 2), 1);
        due("eaten still", x.of(1, 2), 0);
        x.eat(1, false);
        due("freed", x.of(1, 2), 1);
    }

    @Sentence("SINCE 0 .. 999 (days since it came; 0 at first),")
    static void sinceZeroTo999() {
        DeerDays x = Check.herd(0, 0, 0, 0);
        Check.onlyComes(x, 1);
        due("at first", x.of(0, 3), 0);
        x.days(1);
        due("a day", x.of(0, 3), 1);
        due("it came", x.of(1, 3), 0);
        x.days(2);
        due("days", x.of(0, 3), 3);
        due("it came", x.of(1, 3), 0);
        due("below", x.set(7, 0, -1), false);
        due("above", x.set(7, 0, 1000), false);
        due("still", x.of(0, 3), 3);
        due("least", x.set(7, 0, 0) && x.of(0, 3) == 0, true);
        due("most", x.set(7, 0, 999) && x.of(0, 3) == 999, true);
        due("ahead of most", x.set(7, 0, 998) && x.of(0, 3) == 998, true);
        x.days(1);
        due("up to most", x.of(0, 3), 999);
        x.days(1);
        due("never above", x.of(0, 3), 999);
    }

    @Sentence("CAME (how often, 0 at first).")
    static void cameHasNoEnd() {
        DeerDays x = Check.herd(0, 0);
        due("at first", x.of(0, 4), 0);
        x.days(1);
        due("once", x.of(0, 4), 1);
        x.days(1);
        due("twice", x.of(0, 4), 2);
        x.set(8, 0, 998);
        x.days(1);
        due("999", x.of(0, 4), 999);
        x.days(1);
        due("above what can be set", x.of(0, 4), 1000);
        x.days(1);
        due("and on", x.of(0, 4), 1001);
    }

    @Sentence("SALT 0 .. 99, NOISE 0 .. 99, GATE 0, 1 (0 each at first).")
    static void saltNoiseAndGate() {
        DeerDays x = new DeerDays();
        int[] most = {99, 99, 1};
        for (int what = 0; what <= 2; what++) {
            due("at first " + what, x.look(5 + what), 0);
            due("most " + what, x.set(what, 0, most[what]), true);
            due("above " + what, x.set(what, 0, most[what] + 1), false);
            due("below " + what, x.set(what, 0, -1), false);
            due("still " + what, x.look(5 + what), most[what]);
            due("ahead of most " + what, x.set(what, 0, most[what] - 1) && x.look(5 + what) == most[what] - 1, true);
            due("least " + what, x.set(what, 0, 0) && x.look(5 + what) == 0, true);
        }
    }

    /** At first there are none: a day with one DEER takes one DRAW alone. With 1000 each no DRAW spares anyone. */
    @Sentence("WOLVES 0 .. 1000, MIST 0 .. 1000 (0 each at first).")
    static void wolvesAndMist() {
        DeerDays x = Check.herd(0, 0);
        x.days(1);
        due("at first no wolves and no mist", x.look(10), 1013904223);
        for (int what = 3; what <= 4; what++) {
            due("below " + what, x.set(what, 0, -1), false);
            due("least " + what, x.set(what, 0, 0), true);
            due("ahead of most " + what, x.set(what, 0, 999), true);
            due("most " + what, x.set(what, 0, 1000), true);
            due("above " + what, x.set(what, 0, 1001), false);
            due("far " + what, x.set(what, 0, MAX), false);
        }
        x.state(Check.stateThatDraws(1000, 999, 1000, 999));
        due("mist of 1000", x.days(1), 1);
        due("wolves of 1000", x.look(8), 0);
    }

    @Sentence("TODAY: the DEER of the latest day, or none (mist, or at first).")
    static void todayOrNone() {
        DeerDays x = Check.herd(0, 0, 0, 0);
        due("at first", x.look(2), NONE);
        Check.onlyComes(x, 1);
        x.days(1);
        due("came", x.look(2), 1);
        Check.onlyComes(x, 0);
        x.days(1);
        due("came", x.look(2), 0);
        x.eat(0, true);
        due("eaten, but of the latest day", x.look(2), 0);
        x.days(1);
        due("mist", x.look(2), NONE);
        x.eat(0, false);
        due("freed, but of no day", x.look(2), NONE);
    }

    @Sentence("COIN (an int, 0 at first), HOURS (of all days together, an int, 0 at first), DAY 0 .. 9999 (0 at first).")
    static void coinHoursAndDay() {
        DeerDays x = Check.herd(0, 0);
        due("COIN at first", x.look(3), 0);
        due("HOURS at first", x.look(4), 0);
        due("DAY at first", x.look(1), 0);
        Check.told(x, 0, "long 24;", 1);
        Check.told(x, 2, "due 999 on 0;".repeat(16), 16);
        x.days(1);
        due("COIN below 0", x.look(3), -15984);
        due("HOURS", x.look(4), 24);
        due("DAY", x.look(1), 1);
        Check.told(x, 2, "due 999 on 0;".repeat(16), 16);
        for (int i = 0; i < 166; i++) {
            x.days(60);
        }
        due("COIN", x.look(3), -31968);
        due("DAY", x.look(1), 9961);
        due("DAY would be 10000", x.days(39), NONE);
        due("DAY will be 9999", x.days(38), 0);
        due("DAY", x.look(1), 9999);
        due("HOURS of all days together", x.look(4), 9999 * 24);
        due("DAY would be 10000", x.days(1), NONE);
        due("DAY", x.look(1), 9999);
    }
}
