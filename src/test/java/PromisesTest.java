/** Promise by promise: ordinary inputs, the edges that the document names, wrong inputs; each answer worked out by hand. */
public final class PromisesTest {
    private static final int NONE = DeerDays.NONE;
    private static final int MIN = Integer.MIN_VALUE;
    private static final int MAX = Integer.MAX_VALUE;

    public static void main(String[] args) {
        newObject();
        state();
        deer();
        set();
        eat();
        days();
        dayOfMist();
        dayLongAndShy();
        dayWolves();
        waitFor();
        feedAndEnd();
        text();
        textFaults();
        textDepth();
        textLines();
        lawTells();
        plan();
        due();
        book();
        next();
        likeliest();
        goes();
        reads();
        seen();
        orders();
        moves();
        work();
        works();
        gate();
        watch();
        ate();
        ways();
        vote();
        votes();
        salts();
        nods();
        game();
        undo();
        undoForgets();
        image();
        look();
        Check.finish();
    }

    private static void due(String what, long got, long want) {
        Check.due(what, got, want);
    }

    private static void due(String what, boolean got, boolean want) {
        Check.due(what, got, want);
    }

    private static void told(DeerDays x, int k, String text, int lines) {
        Check.told(x, k, text, lines);
    }

    private static void faulty(DeerDays x, int k, String text, int fault, int place) {
        Check.faulty(x, k, text, fault, place);
    }

    private static DeerDays herd(int... marksAndCalms) {
        return Check.herd(marksAndCalms);
    }

    private static int stateThatDraws(int m, int wanted) {
        return Check.stateThatDraws(m, wanted);
    }

    private static void newObject() {
        due("1 NONE", DeerDays.NONE, -1);
        DeerDays x = new DeerDays();
        for (int what = 0; what <= 20; what++) {
            due("1 look " + what, x.look(what), what == 2 ? NONE : 0);
        }
        due("1 undo", x.undo(), false);
        due("1 image", x.image(false), false);
        due("1 fault", x.fault(0), 0);
        due("1 place", x.fault(1), NONE);
    }

    private static void state() {
        DeerDays x = herd(0, 0, 0, 0);
        due("2 first", x.state(5), 0);
        due("2 second", x.state(MIN), 5);
        due("2 look", x.look(10), MIN);
        x.days(1);
        due("2 a draw wraps", x.look(10), MIN * 1664525 + 1013904223);
        DeerDays y = herd(0, 0, 0, 0, 0, 0, 0, 0, 0, 0);
        int negative = 0;
        while (negative * 1664525 + 1013904223 >= 0) {
            negative++;
        }
        y.state(negative);
        y.days(1);
        due("2 highest 24 bits without sign", y.look(2), (negative * 1664525 + 1013904223 >>> 8) % 5);
    }

    private static void deer() {
        DeerDays x = new DeerDays();
        int[][] wrong = {{-1, 0}, {6, 0}, {0, -1}, {0, 10}, {MIN, 0}, {0, MAX}};
        for (int[] w : wrong) {
            due("3 wrong", x.deer(w[0], w[1]), NONE);
        }
        for (int i = 0; i < 10; i++) {
            due("3", x.deer(i % 6, i), i);
        }
        due("3 eleventh", x.deer(0, 0), NONE);
        due("3 how many", x.look(0), 10);
        due("3 mark", x.of(9, 0), 3);
        due("3 calm", x.of(9, 1), 9);
        due("3 alive", x.of(9, 2), 1);
        due("3 since", x.of(9, 3), 0);
        due("3 came", x.of(9, 4), 0);
    }

    private static void set() {
        DeerDays x = herd(1, 1, 2, 2);
        int[] most = {99, 99, 1, 1000, 1000, 5, 9, 999, 999};
        for (int what = 0; what <= 8; what++) {
            due("4 most of " + what, x.set(what, 1, most[what]), true);
            due("4 above " + what, x.set(what, 1, most[what] + 1), false);
            due("4 below " + what, x.set(what, 1, -1), false);
            due("4 who not asked, or none such " + what, x.set(what, 2, 0), what < 5);
            due("4 who not asked, or none such " + what, x.set(what, -1, 0), what < 5);
        }
        due("4 another", x.set(9, 0, 0), false);
        due("4 another", x.set(-1, 0, 0), false);
        x.set(0, MIN, 7);
        x.set(1, MAX, 8);
        x.set(2, 0, 1);
        due("4 salt", x.look(5), 7);
        due("4 noise", x.look(6), 8);
        due("4 gate", x.look(7), 1);
        due("4 mark", x.of(1, 0), 5);
        due("4 calm", x.of(1, 1), 9);
        due("4 since", x.of(1, 3), 999);
        due("4 came", x.of(1, 4), 999);
        due("4 the other one's mark", x.of(0, 0), 1);
    }

    private static void eat() {
        DeerDays x = herd(0, 0, 0, 0);
        due("5 free who is free", x.eat(0, false), false);
        due("5 eat", x.eat(0, true), true);
        due("5 eat the eaten", x.eat(0, true), false);
        due("5 alive", x.look(8), 2);
        due("5 free", x.eat(0, false), true);
        due("5 alive", x.look(8), 3);
        due("5 none such", x.eat(2, true), false);
        due("5 none such", x.eat(-1, true), false);
        due("5 none such", x.eat(MAX, false), false);
        due("5 lines", x.look(9), 2);
        due("5 eaten", x.book(0, 1), 3);
        due("5 freed", x.book(1, 1), 5);
        due("5 how many", x.book(1, 3), 0);
    }

    private static void days() {
        DeerDays x = herd(0, 3, 0, 5, 0, 7);
        due("6 too few", x.days(0), NONE);
        due("6 too many", x.days(61), NONE);
        due("6 wrong", x.days(MIN), NONE);
        due("6 nothing done", x.look(1), 0);
        x.eat(1, true);
        x.state(stateThatDraws(2, 1));
        due("6 a day", x.days(1), 0);
        due("6 the second ALIVE one", x.look(2), 2);
        due("6 hours 6 and calm", x.look(4), 13);
        due("6 since of who came", x.of(2, 3), 0);
        due("6 came", x.of(2, 4), 1);
        due("6 since of another", x.of(0, 3), 1);
        due("6 since of one not alive", x.of(1, 3), 0);
        due("6 day", x.look(1), 1);
        x.set(7, 2, 999);
        x.set(7, 0, 999);
        x.state(stateThatDraws(1998, 0));
        x.days(1);
        due("6 the first one", x.look(2), 0);
        due("6 999 at most", x.of(2, 3), 999);
        for (int i = 0; i < 166; i++) {
            x.days(60);
        }
        due("6 day", x.look(1), 9962);
        due("6 above 9999", x.days(38), NONE);
        due("6 up to 9999", x.days(37) >= 0, true);
        due("6 day", x.look(1), 9999);
        due("6 no more", x.days(1), NONE);
    }

    private static void dayOfMist() {
        DeerDays x = herd(0, 3);
        x.set(4, 0, 500);
        x.state(stateThatDraws(1000, 499));
        due("6 mist", x.days(1), 1);
        due("6 none", x.look(2), NONE);
        due("6 hours of mist", x.look(4), 5);
        due("6 since in mist", x.of(0, 3), 1);
        due("6 one draw", x.look(10), stateThatDraws(1000, 499) * 1664525 + 1013904223);
        int s = stateThatDraws(1000, 500);
        x.state(s);
        due("6 no mist", x.days(1), 0);
        due("6 two draws", x.look(10), (s * 1664525 + 1013904223) * 1664525 + 1013904223);
        x.set(4, 0, 0);
        told(x, 0, "come 0;", 1);
        x.state(77);
        due("6 a sum of 0 is mist", x.days(3), 3);
        due("6 without a draw", x.look(10), 77);
        x.eat(0, true);
        told(x, 0, "", 0);
        due("6 none alive is mist", x.days(2), 2);
        due("6 without a draw", x.look(10), 77);
        due("6 since of one not alive", x.of(0, 3), 3);
        x.set(4, 0, 1);
        x.state(stateThatDraws(1000, 1));
        due("6 drawn for mist, then none", x.days(1), 1);
        due("6 one draw", x.look(10), stateThatDraws(1000, 1) * 1664525 + 1013904223);
    }

    private static void dayLongAndShy() {
        DeerDays x = herd(0, 9);
        told(x, 0, "long calm + since * 2 + came + today * 10; shy since + today * 3 + came * 0;", 2);
        x.set(7, 0, 2);
        x.days(1);
        due("6 long asked ahead of the rest", x.look(4), 13);
        due("6 shy asked ahead of the rest", x.of(0, 1), 7);
        x.days(1);
        due("6 long with today", x.look(4), 13 + 7 + 0 + 1 + 10);
        due("6 shy with today", x.of(0, 1), 4);
        x.days(1);
        x.days(1);
        due("6 calm 0 at least", x.of(0, 1), 0);
        DeerDays y = herd(0, 9);
        y.set(1, 0, 18);
        y.set(0, 0, 1);
        y.days(1);
        due("6 shy is noise by 9", y.of(0, 1), 7);
        due("6 noise one less", y.look(6), 17);
        due("6 salt one less", y.look(5), 0);
        y.days(1);
        due("6 salt 0 at least", y.look(5), 0);
    }

    private static void dayWolves() {
        DeerDays x = herd(0, 4, 0, 2, 0, 2);
        x.set(3, 0, 1000);
        x.set(4, 0, 1000);
        due("6 mist, and wolves", x.days(1), 1);
        due("6 least calm, the lesser", x.look(8), 5);
        due("6 book", x.book(1, 1), 4);
        due("6 book", x.book(1, 2), 1);
        due("6 book", x.book(1, 3), 0);
        x.days(2);
        due("6 all", x.look(8), 0);
        int state = x.look(10);
        x.set(4, 0, 0);
        x.days(1);
        due("6 no draw without any", x.look(10), state);
        DeerDays y = herd(0, 5);
        told(y, 0, "come 0;", 1);
        y.set(3, 0, 300);
        y.state(stateThatDraws(1000, 300));
        y.days(1);
        due("6 not below wolves", y.look(8), 1);
        y.state(stateThatDraws(1000, 299));
        y.days(1);
        due("6 below wolves", y.look(8), 0);
        DeerDays z = herd(0, 5);
        told(z, 0, "come 0;", 1);
        z.set(3, 0, 1);
        z.state(stateThatDraws(1000, 0));
        z.days(1);
        due("6 wolves of 1", z.look(8), 0);
    }

    private static void waitFor() {
        DeerDays x = herd(0, 0, 0, 0);
        told(x, 0, "come 0 when deer = 1; come 1;", 2);
        due("7 none such", x.waitFor(2), NONE - 1);
        due("7 none such", x.waitFor(-1), NONE - 1);
        due("7 at once", x.waitFor(0), 1);
        due("7 not in 30", x.waitFor(1), NONE);
        due("7 they went by", x.look(1), 31);
        x.eat(0, true);
        due("7 an eaten one", x.waitFor(0), NONE);
        due("7 they went by", x.look(1), 61);
        due("7 acts", x.look(20), 6);
        DeerDays y = herd(0, 0);
        y.eat(0, true);
        told(y, 1, "on 4 free 0;", 1);
        due("7 eaten, freed by A PLAN", y.waitFor(0), 5);
        for (int i = 0; i < 166; i++) {
            y.days(60);
        }
        due("7 day", y.look(1), 9965);
        y.days(4);
        due("7 up to 9999", y.waitFor(0), 1);
        due("7 DAY would be above 9999 behind 30", y.waitFor(0), NONE - 1);
        due("7 nothing done", y.look(1), 9970);
    }

    private static void feedAndEnd() {
        DeerDays x = new DeerDays();
        due("9 nothing yet", x.end(0), true);
        due("9 not so many", x.end(1), false);
        for (int i = 1; i <= 20; i++) {
            due("8", x.feed(0x20202020, 0x20202020, 0x20202020, 0x20202020, 0x2020203b), 20 * i);
        }
        due("8 too many", x.feed(0, 0, 0, 0, 0), NONE);
        due("9 below 0", x.end(-1), false);
        due("9 not so many", x.end(401), false);
        due("9 as many", x.end(400), true);
        due("9", x.end(381), true);
        due("8 too many still", x.feed(0, 0, 0, 0, 0), NONE);
        due("9", x.end(380), true);
        due("8 just so many", x.feed(0x3b202020, 0, 0, 0, 0), 400);
        due("9", x.end(20), true);
        due("10 ; is the 20th byte", x.text(0), NONE);
        due("11", x.fault(1), 19);
        x.feed(0x01020304, 0x6f6e2031, 0, 0, 0);
        x.end(4);
        x.text(1);
        due("8 the highest first, no blank", x.fault(1), 0);
    }

    private static void text() {
        DeerDays x = herd(0, 0);
        told(x, 0, "come 7;long 8 ; shy\n9 when 1 = 1 ;", 3);
        due("10 lines", x.look(11), 3);
        faulty(x, 0, "come 1", 1, 6);
        due("10 the TEXT stays", x.of(0, 5), 7);
        due("10 the TAPE is empty", x.end(1), false);
        Check.feed(x, 0, "come 3;");
        due("10 no such one", x.text(4), NONE);
        due("11 fault 0", x.fault(0), 0);
        due("11 no place", x.fault(1), NONE);
        due("10 the TAPE is empty", x.end(1), false);
        Check.feed(x, 0, "come 3;");
        due("10 no such one", x.text(-1), NONE);
        due("10 the TAPE is empty", x.end(1), false);
        due("11 another", x.fault(2), NONE);
        due("11 another", x.fault(-1), NONE);
        told(x, 1, "on 0 gate;", 1);
        told(x, 2, "due 1 on 0;", 1);
        told(x, 3, "feast 1 for 1;", 1);
        for (int k = 0; k < 4; k++) {
            told(x, k, k % 2 == 0 ? "" : " \n ", 0);
            due("10 none then", x.look(11 + k), 0);
        }
        due("10 none then", x.of(0, 5), 1);
    }

    private static void textFaults() {
        DeerDays x = herd(0, 0, 0, 0);
        faulty(x, 0, "Come 1;", 1, 0);
        faulty(x, 0, "comes 1;", 1, 0);
        faulty(x, 0, "comez 1;", 1, 0);
        faulty(x, 0, "comeA 1;", 1, 0);
        faulty(x, 0, "comeZ 1;", 1, 0);
        faulty(x, 0, "come{1;", 1, 4);
        faulty(x, 0, "come@1;", 1, 4);
        faulty(x, 0, "come[1;", 1, 4);
        faulty(x, 0, "come`1;", 1, 4);
        faulty(x, 0, "come:1;", 1, 4);
        told(x, 0, "come1;", 1);
        faulty(x, 0, "come 1;x", 1, 7);
        faulty(x, 0, "come 1\t;", 1, 6);
        faulty(x, 0, "come 1; \r", 1, 8);
        faulty(x, 0, "come \u00e9;", 1, 5);
        faulty(x, 0, "come 12345;", 1, 5);
        told(x, 0, "come 0001+9999;", 1);
        faulty(x, 0, "come 1+;", 1, 7);
        faulty(x, 0, "come -1;", 1, 5);
        faulty(x, 0, "come (1);", 1, 5);
        faulty(x, 0, "come 1 2;", 1, 7);
        faulty(x, 0, "come 1/calm;", 1, 7);
        faulty(x, 0, "come 1/0000;", 2, 7);
        faulty(x, 0, "come 1/00000;", 1, 7);
        faulty(x, 0, "come 1/0 0;", 2, 7);
        faulty(x, 0, "come 1 when;", 1, 11);
        faulty(x, 0, "come 1 when 1;", 1, 13);
        faulty(x, 0, "come 1 when 1=1=1;", 1, 15);
        faulty(x, 0, "come 1 when (1=1;", 1, 16);
        faulty(x, 0, "come 1 when 1=1);", 1, 15);
        faulty(x, 0, "come 1 when (1)=1;", 1, 14);
        faulty(x, 0, "come 1 when not;", 1, 15);
        faulty(x, 0, "come 1 when 1=1 and;", 1, 19);
        faulty(x, 0, "come 1 when 1=1 or or 1=1;", 1, 19);
        faulty(x, 0, "come 1 when 1=1 not 1=1;", 1, 16);
        faulty(x, 0, "come 1 when 1=1 when 1=1;", 1, 16);
        faulty(x, 0, "come on;", 1, 5);
        faulty(x, 0, "come 1 when 1=1  ", 1, 17);
        faulty(x, 1, "on 1 gate; come 1;", 1, 11);
        faulty(x, 1, "on 1000 gate;", 2, 3);
        told(x, 1, "on 999 salt 99; on 0 noise 0; on 5 eat 1;", 3);
        faulty(x, 1, "on 1 salt 100;", 2, 10);
        faulty(x, 1, "on 1 noise 100;", 2, 11);
        faulty(x, 1, "on 1 eat 2;", 2, 9);
        faulty(x, 1, "on 1 free 2;", 2, 10);
        faulty(x, 1, "on 1 on;", 1, 5);
        faulty(x, 1, "on 1 5;", 1, 5);
        faulty(x, 1, "on gate;", 1, 3);
        faulty(x, 1, "on 1 gate 1;", 1, 10);
        faulty(x, 1, "on 1 salt 1", 1, 11);
        faulty(new DeerDays(), 1, "on 1 eat 0;", 2, 9);
        faulty(x, 2, "due 0 on 0;", 2, 4);
        faulty(x, 2, "due 1000 on 0;", 2, 4);
        faulty(x, 2, "due 999 on 2;", 2, 11);
        faulty(x, 2, "due 1 on 0 after 1000;", 2, 17);
        faulty(x, 2, "due 1 on 0 after;", 1, 16);
        faulty(x, 2, "due 1 after 0;", 1, 6);
        faulty(x, 2, "due 1 on 0 after 0 after 0;", 1, 19);
        told(x, 2, "due 999 on 1 after 999;due 1 on 0 after 0;", 2);
        faulty(x, 3, "feast 31 for 1;", 2, 6);
        faulty(x, 3, "feast 30 for 10;", 2, 13);
        faulty(x, 3, "feast 30 on 1;", 1, 9);
        faulty(x, 3, "feast 30 for;", 1, 12);
        told(x, 3, "feast 30 for 9;feast 0 for 0;", 2);
    }

    private static void textDepth() {
        DeerDays x = herd(0, 0);
        told(x, 0, "come 1 when not not not not (((( 1=1 ))));", 1);
        told(x, 0, "come 1 when (((((((( 1=1 )))))))) and (((((((( 1=1 )))))))) or not not not not not not not not 1=1;", 1);
        faulty(x, 0, "come 1 when not not not not ((((( 1=1 )))));", 3, 32);
        faulty(x, 0, "come 1 when ((((((((not 1=1))))))));", 3, 20);
        faulty(x, 0, "come 1 when ((((((((( 1=1 )))))))));", 3, 20);
        faulty(x, 0, "come 1 when not not not not not not not not not", 3, 44);
        told(x, 0, "come 1 when (((((((not 1=1 and not 1=2)))))));", 1);
        faulty(x, 0, "come 1 when 1=1 ((((((((( 1=1;", 1, 16);
        faulty(x, 0, "come 1 when (not 1=1 or not", 1, 27);
        told(x, 0, "come 55 when 1=1; come 66;", 2);
        due("12 behind a fault", x.of(0, 5), 55);
        String deep = "1=2 or 1=1 and (".repeat(8) + "1=2 or 1=1 and 1+2*2=5" + ")".repeat(8);
        told(x, 0, "come 77 when " + deep + ";come 66;", 2);
        due("12 as deep as can be", x.of(0, 5), 77);
        told(x, 0, "come 77 when " + deep.replace("=5", "=6") + ";come 66;", 2);
        due("12 as deep as can be", x.of(0, 5), 66);
        for (int i = 0; i < 9; i++) {
            told(x, 0, "come 1" + "+1".repeat(195) + "+" + i + ";", 1);
            due("12 long ones, again and again", x.of(0, 5), 196 + i);
        }
    }

    private static void textLines() {
        DeerDays x = herd(0, 0);
        String[] lines = {"shy 1;", "on 1 gate;", "due 1 on 0;", "feast 1 for 9;"};
        for (int k = 0; k < 4; k++) {
            int most = k == 3 ? 8 : 16;
            told(x, k, lines[k].repeat(most), most);
            due("35 lines", x.look(11 + k), most);
            faulty(x, k, lines[k].repeat(most + 1), 3, lines[k].length() * most);
            faulty(x, k, lines[k].repeat(most) + ";", 1, lines[k].length() * most);
            faulty(x, k, lines[k].repeat(most) + (k == 0 ? "on" : "come"), 1, lines[k].length() * most);
        }
    }

    private static int come(DeerDays x, String law, int deer) {
        due("10 [" + law + "]", Check.text(x, 0, law) > 0, true);
        return x.of(deer, 5);
    }

    private static void lawTells() {
        DeerDays x = herd(3, 4, 2, 9);
        x.set(7, 1, 6);
        x.set(8, 1, 7);
        x.set(0, 0, 50);
        x.set(1, 0, 60);
        x.set(2, 0, 1);
        due("12 none: come", x.of(1, 5), 7);
        due("12 none: long", x.of(1, 6), 15);
        due("12 none: shy", x.of(1, 7), 6);
        due("12 facts", come(x, "come deer*100+mark*10+calm;", 1), 129);
        due("12 facts", come(x, "come since*100+came*10+gate;", 1), 671);
        due("12 facts", come(x, "come salt + noise+today;", 1), 110);
        due("12 left to right", come(x, "come 20 - 3 - 4;", 0), 13);
        due("12 products first", come(x, "come 20 - 3 * 4 + 1;", 0), 9);
        due("12 / towards 0", come(x, "come 10 + mark * 0 - 7 / 2;", 0), 7);
        due("12 / towards 0 below 0", come(x, "come 10 + calm - 5 * 3 / 2;", 0), 7);
        due("12 quotients of products", come(x, "come 7 / 2 * 2;", 0), 6);
        due("12 held below", come(x, "come 0 - 5;", 0), 0);
        due("12 held above", come(x, "come 1000;", 0), 999);
        due("12 wraps", come(x, "come 9999 * 9999 * 9999 * 9999 / 9999 ;", 0), Math.max(0, Math.min(999, 9999 * 9999 * 9999 * 9999 / 9999)));
        due("12 wraps", come(x, "come 5 when 9999*9999*9999 < 0 - 1000; come 6;", 0), 9999 * 9999 * 9999 < -1000 ? 5 : 6);
        due("12 and ahead of or", come(x, "come 1 when 1=1 or 1=1 and 1=2; come 2;", 0), 1);
        due("12 and ahead of or", come(x, "come 1 when 1=2 and 1=1 or 1=1; come 2;", 0), 1);
        due("12 brackets", come(x, "come 1 when (1=1 or 1=1) and 1=2; come 2;", 0), 2);
        due("12 not binds most", come(x, "come 1 when not 1=2 and 1=2; come 2;", 0), 2);
        due("12 not of brackets", come(x, "come 1 when not (1=2 and 1=2); come 2;", 0), 1);
        due("12 not not", come(x, "come 1 when not not 2<1; come 2 when 2>1;", 0), 2);
        due("12 first line with that word", come(x, "long 5; come 3; come 4; shy 30;", 0), 3);
        due("12 long", x.of(0, 6), 5);
        due("12 shy held", x.of(0, 7), 9);
        due("12 long held", Check.text(x, 0, "long 25; shy 0 - 1;") == 2 ? x.of(0, 6) : 0, 24);
        due("12 shy held", x.of(0, 7), 0);
        due("12 no line is so", come(x, "come 50 when calm > 99;", 1), 7);
        due("12 none such", x.of(2, 0), NONE);
        due("12 none such", x.of(-1, 0), NONE);
        due("12 another", x.of(0, 8), NONE);
        due("12 another", x.of(0, -1), NONE);
        told(x, 0, "come season; long 1; shy 0;", 3);
        x.days(60);
        due("12 season", x.of(0, 5), 2);
        for (int i = 0; i < 5; i++) {
            x.days(60);
        }
        due("12 season goes round", x.of(0, 5), 0);
        due("12 long of one not alive", x.eat(0, true) ? x.of(0, 6) : 0, 1);
        told(x, 0, "come today + 5;", 1);
        x.days(1);
        due("12 today", x.of(1, 5), 6);
        due("12 not today", x.of(0, 5), 5);
    }

    private static void plan() {
        DeerDays x = herd(0, 0, 0, 0);
        told(x, 0, "come salt when deer = 1; come 0;", 2);
        told(x, 1, "on 0 salt 40; on 0 salt 30; on 0 noise 9; on 1 gate; on 1 gate; on 2 gate; on 2 eat 0; on 2 eat 0; on 2 free 0; on 3 free 1;", 10);
        due("6 A PLAN ahead of the dawn", x.days(1), 0);
        due("6 salt", x.look(5), 29);
        due("6 noise", x.look(6), 8);
        due("6 shy of the noise of A PLAN", x.look(2), 1);
        x.days(1);
        due("6 gate twice", x.look(7), 0);
        x.days(1);
        due("6 gate", x.look(7), 1);
        due("6 eaten and freed", x.look(8), 3);
        due("6 lines", x.look(9), 5);
        due("6 eaten once", x.book(2, 1), 3);
        due("6 freed", x.book(3, 1), 5);
        due("6 came behind", x.book(4, 1), 0);
        x.days(1);
        due("6 freed who is free: no line", x.look(9), 6);
    }

    private static void due() {
        DeerDays x = herd(0, 0, 0, 0);
        told(x, 0, "come 1 when deer = 0; come 0;", 2);
        told(x, 2, "due 5 on 0; due 7 on 0 after 1; due 999 on 1; due 3 on 0 after 0;", 4);
        int[][] want = {{5, 0, NONE, 0}, {7, 0, 1, 0}, {999, 1, NONE, 0}, {3, 0, 0, 0}};
        for (int i = 0; i < 4; i++) {
            for (int what = 0; what < 4; what++) {
                due("13", x.due(i, what), want[i][what]);
            }
        }
        due("13 none such", x.due(4, 0), NONE - 1);
        due("13 none such", x.due(-1, 0), NONE - 1);
        due("13 another", x.due(0, 4), NONE - 1);
        due("13 another", x.due(0, -1), NONE - 1);
        x.days(1);
        due("13 paid on day 0", x.due(0, 3), 1);
        due("13 not above 0", x.due(3, 3), 0);
        due("13 coin", x.look(3), -5);
        x.days(1);
        due("13 above 0", x.due(3, 3), 1);
        due("13 not above 1", x.due(1, 3), 0);
        x.days(2);
        due("13 coin", x.look(3), -15);
        due("13 never came", x.due(2, 3), 0);
        due("14 paid behind came", x.book(1, 1), 2);
        due("14 the line", x.book(3, 2), 3);
        due("14 N", x.book(3, 3), 3);
        told(x, 2, "due 5 on 0;", 1);
        due("13 not paid anew", x.due(0, 3), 0);
        x.days(1);
        due("13 coin", x.look(3), -20);
    }

    private static void book() {
        DeerDays x = herd(0, 4);
        due("14 none such", x.book(0, 0), NONE - 1);
        x.days(1);
        int[] want = {0, 0, 0, 10};
        for (int what = 0; what < 4; what++) {
            due("14", x.book(0, what), want[what]);
        }
        due("14 another", x.book(0, 4), NONE - 1);
        due("14 another", x.book(0, -1), NONE - 1);
        due("14 none such", x.book(1, 0), NONE - 1);
        due("14 none such", x.book(-1, 0), NONE - 1);
        for (int i = 0; i < 3; i++) {
            x.days(60);
        }
        due("14 150 lines", x.look(9), 150);
        due("14 the last", x.book(149, 0), 149);
        due("14 no more then", x.book(150, 0), NONE - 1);
        x.undo();
        due("14 still", x.look(9), 150);
        DeerDays y = herd(0, 4);
        y.days(60);
        y.days(60);
        y.days(29);
        y.days(4);
        due("14", y.look(9), 150);
        y.undo();
        y.undo();
        y.undo();
        due("14 undone past the last line", y.look(9), 150);
        y.undo();
        due("14 undone", y.look(9), 149);
        due("14 undone", y.book(149, 0), NONE - 1);
    }

    private static void next() {
        DeerDays x = herd(0, 0, 0, 0, 0, 0);
        due("15 a third", x.next(0, 0), 333333);
        due("15 by 2", x.next(0, 2), 333333 + (666667L * 333333 / 1000000));
        due("15 none such", x.next(3, 0), NONE);
        due("15 none such", x.next(-1, 0), NONE);
        due("15 n", x.next(0, -1), NONE);
        due("15 n", x.next(0, 61), NONE);
        due("15 n 60", x.next(0, 60) > 999990, true);
        x.set(4, 0, 1);
        due("15 downwards each", x.next(0, 0), 333333 * 999 / 1000);
        x.set(4, 0, 1000);
        due("15 all mist", x.next(0, 7), 0);
        x.set(4, 0, 0);
        x.eat(1, true);
        due("15 not alive", x.next(1, 0), 0);
        due("15 not alive, n", x.next(1, 61), NONE);
        due("15 a half", x.next(0, 0), 500000);
        due("15 by 3", x.next(0, 3), 875000);
        told(x, 0, "come 0;", 1);
        due("15 a sum of 0", x.next(0, 0), 0);
        told(x, 0, "come 999 when deer = 0; come 0;", 2);
        due("15 sure", x.next(0, 1), 1000000);
        due("15 sure", x.next(0, 60), 1000000);
        told(x, 0, "", 0);
        told(x, 1, "on 0 eat 0;", 1);
        due("15 A PLAN aside", x.next(0, 0), 500000);
    }

    private static void likeliest() {
        DeerDays x = new DeerDays();
        due("16 none", x.likeliest(), NONE);
        x = herd(0, 1, 0, 2, 0, 2);
        due("16 of several the least", x.likeliest(), 0);
        told(x, 0, "come calm;", 1);
        due("16 the greatest", x.likeliest(), 1);
        x.eat(1, true);
        due("16 alive", x.likeliest(), 2);
        told(x, 0, "come 0;", 1);
        due("16 come of 0", x.likeliest(), 0);
        x.eat(0, true);
        x.eat(2, true);
        due("16 none alive", x.likeliest(), NONE);
    }

    private static void goes() {
        DeerDays x = herd(0, 0, 0, 3);
        told(x, 0, "long 7;", 1);
        told(x, 1, "on 1 eat 0; on 3 free 0;", 2);
        told(x, 2, "due 5 on 0; due 6 on 1; due 8 on 0 after 2;", 3);
        x.set(3, 0, 1000);
        x.set(4, 0, 1000);
        int state = x.look(10);
        due("17 coin", x.goes(1, 0), -5);
        due("17 hours", x.goes(1, 1), 7);
        due("17 paid", x.goes(1, 2), 1);
        due("17 today", x.goes(1, 3), 0);
        due("17 eaten by A PLAN", x.goes(2, 3), 1);
        due("17 eaten", x.goes(3, 3), 1);
        due("17 freed: since stayed", x.goes(4, 3), 0);
        due("17 coin", x.goes(4, 0), -19);
        due("17 paid of all", x.goes(99, 2), 3);
        due("17 hours", x.goes(99, 1), 693);
        due("17 no draws", x.look(10), state);
        due("17 nothing stays", x.look(1), 0);
        due("17 nothing stays", x.look(9), 0);
        due("17 nothing stays", x.look(20), 0);
        due("17 n", x.goes(0, 0), NONE - 99999);
        due("17 n", x.goes(100, 0), NONE - 99999);
        due("17 another", x.goes(1, 4), NONE - 99999);
        due("17 another", x.goes(1, -1), NONE - 99999);
        told(x, 0, "come 0;", 1);
        due("17 mist if the sum is 0", x.goes(2, 3), NONE);
        due("17 mist", x.goes(2, 1), 10);
        DeerDays y = herd(0, 0);
        for (int i = 0; i < 166; i++) {
            y.days(60);
        }
        y.days(39);
        due("17 above 9999 in thought", y.goes(99, 1), y.look(4) + 99 * 6);
    }

    private static void reads() {
        DeerDays x = herd(2, 5, 5, 5, 3, 9, 1, 2, 1, 8);
        told(x, 2, "due 1 on 0; due 2 on 1;", 2);
        due("18 alive", x.reads(0), NONE);
        x.eat(0, true);
        due("18 nearest mark, nearest calm, the least", x.reads(0), 3);
        x.set(6, 4, 7);
        due("18 nearest calm", x.reads(0), 4);
        x.set(5, 2, 2);
        due("18 mark ahead of calm", x.reads(0), 2);
        due("18 another's is alive", x.reads(1), NONE);
        x.eat(0, false);
        x.eat(1, true);
        x.set(5, 0, 5);
        due("18 the first one", x.reads(1), 0);
        x.eat(0, true);
        x.eat(1, false);
        due("18 none such", x.reads(2), NONE);
        due("18 none such", x.reads(-1), NONE);
        for (int i = 1; i < 5; i++) {
            x.eat(i, true);
        }
        due("18 none alive", x.reads(0), NONE);
    }

    private static void seen() {
        DeerDays x = herd(0, 0, 0, 0);
        due("19 alike", x.seen(1, 1), NONE);
        due("19 none such", x.seen(0, 2), NONE);
        due("19 none such", x.seen(2, 0), NONE);
        due("19 none such", x.seen(0, -1), NONE);
        due("19 none such", x.seen(-2, 0), NONE);
        for (int i = 1; i <= 12; i++) {
            due("19", x.seen(0, 1), i);
        }
        due("19 twelve", x.seen(0, 1), NONE);
        due("19", x.look(15), 12);
        due("19 nothing is then", x.seen(NONE, 99), 0);
        due("19", x.look(15), 0);
    }

    private static void orders() {
        DeerDays x = new DeerDays();
        due("20 of none", x.orders(0), 1);
        due("20 fewer than two", x.orders(2), NONE);
        due("20 no first", x.orders(10), NONE);
        int all = 1;
        for (int i = 1; i <= 10; i++) {
            x.deer(0, 0);
            all *= i;
            due("20 all", x.orders(0), all);
        }
        due("20 ask", x.orders(1), 0);
        due("20 ask", x.orders(2), 1);
        due("20 the last", x.orders(19), 9);
        due("20 another", x.orders(20), NONE);
        due("20 another", x.orders(3), NONE);
        due("20 another", x.orders(9), NONE);
        due("20 another", x.orders(-1), NONE);
        due("20 another", x.orders(MIN), NONE);
        for (int i = 9; i > 0; i--) {
            x.seen(i, i - 1);
        }
        due("20 one", x.orders(0), 1);
        due("20 the first", x.orders(10), 9);
        due("20 fewer than two", x.orders(1), NONE);
        x.seen(0, 9);
        due("20 none", x.orders(0), 0);
        due("20 none", x.orders(10), NONE);
        DeerDays y = herd(0, 0, 0, 0, 0, 0, 0, 0);
        y.seen(0, 1);
        y.seen(1, 2);
        y.eat(3, true);
        due("20 eaten ones, too", y.orders(0), 4);
        due("20 halved at once", y.orders(1), 1);
        due("20 halved at once", y.orders(2), 3);
        y.seen(NONE, 0);
        y.seen(3, 0);
        due("20 the lesser ahead", y.orders(10), 1);
        due("20 the lesser ahead", y.orders(11), 2);
        due("20 the lesser ahead", y.orders(12), 3);
        due("20 the lesser ahead", y.orders(13), 0);
        due("20 none such", y.orders(14), NONE);
        y.seen(NONE, 0);
        y.seen(0, 1);
        y.seen(2, 3);
        due("20 asked behind another one", y.orders(0), 6);
        due("20 asked behind another one", y.orders(1) * 10 + y.orders(2), 2);
        y.seen(0, 3);
        due("20 asked behind another one", y.orders(0), 5);
        due("20 asked behind another one", y.orders(1) * 10 + y.orders(2), 2);
    }

    private static void moves() {
        DeerDays x = new DeerDays();
        due("21 none", x.moves(0), 0);
        due("21 none", x.moves(10), NONE);
        told(x, 3, "feast 0 for 3; feast 0 for 3; feast 0 for 0;", 3);
        due("21 days", x.moves(0), 3);
        due("21 the lesser for the first", x.moves(10), 1);
        due("21", x.moves(11), 2);
        due("21", x.moves(12), 0);
        due("21 another", x.moves(13), NONE);
        due("21 another", x.moves(1), NONE);
        due("21 another", x.moves(9), NONE);
        due("21 another", x.moves(-1), NONE);
        told(x, 3, "feast 30 for 9;".repeat(8), 8);
        due("21 eight on one day", x.moves(0), 1 + 1 + 2 + 2 + 3 + 3 + 4);
        for (int i = 0; i < 8; i++) {
            due("21 FEAST by FEAST, the lesser", x.moves(10 + i), 26 + i);
        }
        told(x, 3, "feast 5 for 9; feast 5 for 0; feast 6 for 1; feast 4 for 0;", 4);
        due("21", x.moves(0), 2);
        due("21 fewest ahead of lesser", x.moves(10), 3);
        due("21", x.moves(12), 6);
        told(x, 3, "feast 5 for 0; feast 5 for 0;", 2);
        due("21 no way", x.moves(0), NONE);
        due("21 no way", x.moves(10), NONE);
    }

    private static void work() {
        DeerDays x = new DeerDays();
        due("22 hours", x.work(0), NONE);
        due("22 hours", x.work(25), NONE);
        due("22 hours", x.work(-2), NONE);
        for (int i = 1; i <= 8; i++) {
            due("22", x.work(i == 1 ? 1 : 24), i);
        }
        due("22 eight", x.work(1), NONE);
        due("22", x.look(16), 8);
        due("22 none is then", x.work(NONE), 0);
        due("22", x.look(16), 0);
    }

    private static void works() {
        DeerDays x = new DeerDays();
        due("23 none alive", x.works(0), NONE);
        x = herd(0, 0, 0, 1, 0, 2);
        told(x, 0, "long 4 when deer = 0; long 6 when deer = 1; long 9; come 2 when deer = 1; come 1;", 5);
        due("23 no works", x.works(0), 0);
        due("23 no works", x.works(1), NONE);
        due("23 no works", x.works(2), 0);
        x.work(9);
        due("23 from the likeliest on", x.works(0), 2);
        due("23 the deer", x.works(1), 2);
        x.work(5);
        due("23 round: 9, 4, 6", x.works(0), 4);
        due("23 round", x.works(1), 1);
        due("23 best: 5, 9", x.works(2), 2);
        x.work(1);
        due("23 on the same day", x.works(0), 4);
        x.work(2);
        due("23 behind, never ahead", x.works(0), 5);
        due("23 the deer", x.works(1), 2);
        due("23 best: 5 and 1, 9, 2", x.works(2), 3);
        due("23 another", x.works(3), NONE);
        due("23 another", x.works(-1), NONE);
        DeerDays y = herd(0, 2, 0, 1);
        y.work(8);
        due("23 a whole day", y.works(0), 1);
        due("23 a whole day", y.works(2), 1);
        y.work(7);
        due("23 two whole days", y.works(0), 2);
        due("23 two whole days", y.works(2), 2);
        y.work(NONE);
        y.work(7);
        y.work(8);
        due("23 best: 8, 7", y.works(2), 2);
        due("23 7, 8", y.works(0), 3);
        y.work(NONE);
        y.work(24);
        due("23 fits no day", y.works(0), NONE);
        told(y, 0, "long 0;", 1);
        y.work(NONE);
        y.work(1);
        due("23 days of no hour", y.works(1), NONE);
        x.eat(2, true);
        due("23 fits no day", x.works(0), NONE);
        due("23 fits no day", x.works(2), NONE);
        x.eat(0, true);
        x.eat(1, true);
        x.work(NONE);
        due("23 none alive", x.works(0), NONE);
        due("23 none alive", x.works(2), NONE);
    }

    private static void gate() {
        DeerDays x = new DeerDays();
        due("24 alike", x.gate(3, 3), NONE);
        due("24 none such", x.gate(10, 3), NONE);
        due("24 none such", x.gate(3, 10), NONE);
        due("24 none such", x.gate(3, -1), NONE);
        due("24 none such", x.gate(-2, 3), NONE);
        for (int i = 1; i <= 14; i++) {
            due("24", x.gate(9, i % 9), i);
        }
        due("24 fourteen", x.gate(0, 1), NONE);
        due("24", x.look(17), 14);
        due("24 GATE stays", x.look(7), 0);
        due("25 the middle", x.watch(1), 512);
        due("24 none is then", x.gate(NONE, NONE), 0);
        due("24", x.look(17), 0);
    }

    private static void watch() {
        DeerDays x = new DeerDays();
        due("25 none", x.watch(0), 0);
        for (int i = 0; i < 5; i++) {
            x.gate(i, (i + 1) % 5);
        }
        due("25 a ring of five", x.watch(0), 3);
        due("25 of several the least", x.watch(1), 1 | 2 | 8);
        x.gate(8, 9);
        due("25", x.watch(1), 1 | 2 | 8 | 256);
        due("25 another", x.watch(2), NONE);
        due("25 another", x.watch(-1), NONE);
    }

    private static void ate() {
        DeerDays x = herd(0, 0);
        due("26 none such", x.ate(7, 0), NONE);
        due("26 none such", x.ate(-2, 0), NONE);
        due("26 none such", x.ate(0, 1), NONE);
        due("26 none such", x.ate(0, -1), NONE);
        for (int i = 1; i <= 20; i++) {
            due("26", x.ate(i % 7, 0), i);
        }
        due("26 twenty", x.ate(0, 0), NONE);
        due("26", x.look(18), 20);
        due("26 nothing is then", x.ate(NONE, 5), 0);
        due("26", x.look(18), 0);
    }

    private static void ways() {
        DeerDays x = herd(0, 0, 0, 0, 0, 0);
        due("27 nothing told", x.ways(0), 1);
        due("27 nothing told", x.ways(1), 0);
        x.ate(6, 2);
        x.ate(6, 2);
        due("27 told twice", x.ways(0), 1);
        due("27 told twice", x.ways(1), 1);
        x.ate(3, 2);
        due("27 the same one", x.ways(0), 0);
        due("27 none, if there are none", x.ways(1), 0);
        x.ate(3, 1);
        x.ate(0, 0);
        x.ate(0, 1);
        due("27", x.ways(0), 1);
        due("27", x.ways(1), 3);
        x.ate(6, 0);
        due("27", x.ways(0), 2);
        due("27", x.ways(1), 0);
        x.ate(NONE, 0);
        x.ate(1, 1);
        due("27 nothing of what was told ahead", x.ways(0), 1);
        due("27 nothing of what was told ahead", x.ways(1), 1);
        for (int i = 3; i < 10; i++) {
            x.deer(0, 0);
        }
        for (int i = 0; i < 7; i++) {
            x.ate(i, 9 - i);
        }
        due("27 the last deer, the last poacher", x.ways(0), 2);
        due("27 the last deer, the last poacher", x.ways(1), 6);
        due("27 another", x.ways(2), NONE);
        due("27 another", x.ways(-1), NONE);
    }

    private static void vote() {
        DeerDays x = new DeerDays();
        due("28 hour", x.vote(25), NONE);
        due("28 hour", x.vote(-2), NONE);
        for (int i = 1; i <= 9; i++) {
            due("28", x.vote(i == 1 ? 0 : 24), i);
        }
        due("28 nine", x.vote(3), NONE);
        due("28", x.look(19), 9);
        due("28 none is then", x.vote(NONE), 0);
        due("28", x.look(19), 0);
    }

    private static void votes() {
        DeerDays x = new DeerDays();
        due("29 without", x.votes(0), NONE);
        due("29 without", x.votes(1), NONE);
        x.vote(24);
        due("29 one", x.votes(0), 24);
        due("29 one", x.votes(1), 0);
        x.vote(10);
        due("29 of several the least", x.votes(0), 10);
        due("29 the sum", x.votes(1), 14);
        x.vote(11);
        due("29", x.votes(0), 11);
        due("29", x.votes(1), 14);
        for (int hour = 0; hour <= 24; hour++) {
            x.vote(NONE);
            x.vote(hour);
            due("29 each hour", x.votes(0), hour);
        }
        due("29 another", x.votes(2), NONE);
        due("29 another", x.votes(-1), NONE);
    }

    private static void salts() {
        DeerDays x = new DeerDays();
        due("30 none alive", x.salts(1, 0), NONE);
        x = herd(0, 0, 1, 0, 2, 0);
        due("30 all alike: the sum", x.salts(4, 0), 3);
        due("30 the fewer first", x.salts(4, 10), 0);
        due("30 all is given out", x.salts(4, 12), 4);
        told(x, 0, "come 10 when deer = 0 and salt > 1; come 9 when deer = 1 and salt > 2; come 3 * salt when deer = 2; come 0;", 4);
        due("30", x.salts(1, 0), 3);
        due("30", x.salts(2, 0), 10);
        due("30", x.salts(3, 0), 13);
        due("30", x.salts(5, 0), 19);
        due("30 of several the first", x.salts(5, 10), 2);
        due("30 of several the first", x.salts(5, 11), 0);
        due("30 of several the first", x.salts(5, 12), 3);
        x.eat(2, true);
        due("30 not alive", x.salts(5, 12), 0);
        due("30 not alive", x.salts(5, 0), 19);
        x.set(0, 0, 98);
        told(x, 0, "come salt;", 1);
        due("30 99 at most", x.salts(20, 0), 198);
        due("30 99 at most", x.salts(20, 10), 1);
        due("30 99 at most", x.salts(20, 11), 19);
        due("30 s", x.salts(0, 0), NONE);
        due("30 s", x.salts(21, 0), NONE);
        due("30 another", x.salts(1, 1), NONE);
        due("30 another", x.salts(1, 9), NONE);
        due("30 another", x.salts(1, 13), NONE);
        due("30 another", x.salts(1, -1), NONE);
        due("30 nothing stays", x.look(5), 98);
    }

    private static void nods() {
        DeerDays x = herd(0, 0, 0, 0, 0, 0, 5, 0, 5, 0);
        due("31 alike", x.nods(0, 0), 3);
        due("31", x.nods(0, 5), 6);
        due("31", x.nods(5, 0), 6);
        due("31", x.nods(5, 5), 1);
        due("31", x.nods(1, 0), 0);
        x.eat(0, true);
        due("31 alive", x.nods(0, 5), 4);
        due("31", x.nods(6, 0), NONE);
        due("31", x.nods(0, 6), NONE);
        due("31", x.nods(-1, 0), NONE);
        due("31", x.nods(0, -1), NONE);
    }

    private static void game() {
        DeerDays x = herd(0, 0, 0, 0, 0, 0);
        due("32 nothing to take", x.game(0), NONE);
        x.set(8, 1, 999);
        due("32", x.game(0), 1);
        due("32", x.game(1), 3);
        x.set(8, 0, 3);
        due("32 who begins loses", x.game(0), NONE);
        due("32 who begins loses", x.game(1), NONE);
        x.set(8, 0, 4);
        due("32 of several the least", x.game(0), 0);
        due("32 to 3", x.game(1), 1);
        x.set(8, 0, 1);
        x.set(8, 1, 2);
        due("32 the first has too few for it", x.game(0), 1);
        due("32", x.game(1), 1);
        x.eat(1, true);
        due("32 alive", x.game(0), 0);
        due("32 another", x.game(2), NONE);
        due("32 another", x.game(-1), NONE);
    }

    private static void undo() {
        DeerDays x = herd(0, 5, 0, 5);
        told(x, 2, "due 1 on 0; due 2 on 1;", 2);
        told(x, 1, "on 7 gate; on 7 salt 50; on 7 noise 70; on 7 eat 0;", 4);
        x.set(3, 0, 200);
        x.set(4, 0, 300);
        int[][] was = new int[9][];
        for (int i = 0; i <= 8; i++) {
            was[i] = looks(x);
            if (i < 8) {
                x.days(1);
            }
        }
        due("33 six are kept", x.look(20), 6);
        for (int i = 7; i >= 2; i--) {
            due("33", x.undo(), true);
            int[] back = looks(x);
            for (int j = 0; j < back.length; j++) {
                due("33 as it was " + j, back[j], was[i][j]);
            }
        }
        due("33 nothing", x.undo(), false);
        due("33 nothing", x.look(1), 2);
        x.days(3);
        due("33 one act each", x.look(20), 3);
        x.eat(1, x.of(1, 2) == 1);
        due("33", x.look(20), 4);
        x.undo();
        due("33", x.look(20), 3);
    }

    /** What can be looked at, but for what can be undone. */
    private static int[] looks(DeerDays x) {
        int[] all = new int[60];
        for (int i = 0; i < 20; i++) {
            all[i] = x.look(i);
        }
        for (int i = 0; i < 16; i++) {
            all[20 + i] = x.of(i / 8, i % 8);
        }
        all[36] = x.due(0, 3);
        all[37] = x.due(1, 3);
        all[38] = x.next(0, 0);
        for (int i = 0; i < 20; i++) {
            all[40 + i] = x.book(x.look(9) - 1 - i / 4, i % 4);
        }
        return all;
    }

    private static void undoForgets() {
        DeerDays x = herd(0, 5);
        Runnable[] keeps = {
            () -> Check.text(x, 0, "come 3;"), () -> Check.text(x, 3, "feast 1 for 1;"), () -> x.deer(6, 0), () -> x.set(0, 0, 100),
            () -> x.set(5, 1, 0), () -> x.eat(0, false), () -> x.days(0), () -> x.waitFor(1), () -> Check.text(x, 1, "on 1;"),
            () -> Check.text(x, 2, "due"), () -> x.text(4), () -> x.seen(NONE, 0), () -> x.work(3), () -> x.work(NONE), () -> x.gate(0, 1),
            () -> x.gate(NONE, 1), () -> x.ate(0, 0), () -> x.ate(NONE, 0), () -> x.vote(3), () -> x.vote(NONE), () -> x.image(true),
            () -> x.goes(9, 1), () -> x.salts(3, 0), () -> x.orders(0), () -> x.look(20), () -> x.feed(0, 0, 0, 0, 0), () -> x.end(0)};
        for (int i = 0; i < keeps.length; i++) {
            x.set(0, 0, 0);
            x.days(1);
            keeps[i].run();
            due("33 does not forget " + i, x.look(20), 1);
        }
        due("33 the law stays", x.undo() && x.of(0, 5) == 3, true);
        Runnable[] forgets = {
            () -> x.state(0), () -> x.set(0, 0, 0), () -> x.set(8, 0, 0), () -> Check.text(x, 1, ""), () -> Check.text(x, 2, ""),
            () -> x.image(false), () -> x.deer(0, 0)};
        for (int i = 0; i < forgets.length; i++) {
            x.days(1);
            due("33", x.look(20), 1);
            forgets[i].run();
            due("33 forgets " + i, x.look(20), 0);
            due("33 forgets " + i, x.undo(), false);
        }
    }

    private static void image() {
        DeerDays x = herd(0, 5, 1, 6);
        told(x, 0, "come 5; long 3;", 2);
        told(x, 1, "on 1 gate;", 1);
        told(x, 2, "due 1 on 0; due 2 on 1;", 2);
        told(x, 3, "feast 1 for 2;", 1);
        x.seen(1, 0);
        x.work(2);
        x.gate(3, 4);
        x.ate(2, 1);
        x.vote(7);
        x.set(0, 0, 9);
        x.days(3);
        int[] was = looks(x);
        due("34 taken", x.image(true), true);
        due("34 what can be undone stays", x.look(20), 3);
        for (int turn = 0; turn < 2; turn++) {
            faulty(x, 0, "come 1+", 1, 7);
            told(x, 0, "", 0);
            told(x, 1, "", 0);
            told(x, 2, "due 9 on 0;", 1);
            told(x, 3, "", 0);
            x.deer(3, 3);
            x.seen(NONE, 0);
            x.seen(0, 1);
            x.work(NONE);
            x.work(5);
            x.gate(NONE, 0);
            x.gate(1, 2);
            x.ate(NONE, 0);
            x.ate(5, 0);
            x.vote(NONE);
            x.vote(20);
            for (int what = 0; what <= 4; what++) {
                x.set(what, 0, what > 2 ? 1000 : 1);
            }
            for (int what = 5; what <= 8; what++) {
                x.set(what, 1, 4);
            }
            x.days(5);
            x.eat(0, x.of(0, 2) == 1);
            x.state(turn);
            faulty(x, 0, "come 1+", 1, 7);
            Check.feed(x, 0, "long");
            due("34 gone back to", x.image(false), true);
            int[] back = looks(x);
            for (int j = 0; j < back.length; j++) {
                due("34 as it was " + j, back[j], was[j]);
            }
            due("34 nothing can be undone", x.look(20), 0);
            due("34 fault stays", x.fault(1), 7);
            due("34 the TAPE stays", x.end(4) && !x.end(5), true);
            x.end(0);
            due("34 the law", x.of(1, 5) * 100 + x.of(1, 6), 503);
            due("34 feasts", x.moves(10), 1);
            due("34 seen", x.orders(10), 1);
            due("34 works", x.works(0), 1);
            due("34 paths", x.watch(1), 8);
            due("34 votes", x.votes(0), 7);
            due("34 dues", x.due(1, 0), 2);
            int alive = x.look(8);
            x.days(1);
            due("34 no mist", x.look(2) != NONE, true);
            due("34 no wolves", x.look(8), alive);
            x.image(false);
        }
    }

    private static void look() {
        DeerDays x = herd(0, 5, 1, 6);
        due("35 another", x.look(21), NONE - 999999);
        due("35 another", x.look(-1), NONE - 999999);
        due("35 another", x.look(MIN), NONE - 999999);
        due("35 deer", x.look(0), 2);
        due("35 alive", x.look(8), 3);
        x.state(-5);
        due("35 STATE as it is", x.look(10), -5);
        told(x, 0, "come 1 when deer = 1; come 0;", 2);
        told(x, 1, "on 1 gate; on 2 gate; on 3 gate;", 3);
        told(x, 2, "due 1 on 1; due 1 on 1; due 1 on 1; due 1 on 1;", 4);
        told(x, 3, "feast 1 for 1;".repeat(5), 5);
        x.days(2);
        x.seen(0, 1);
        x.work(1);
        x.work(1);
        x.gate(0, 1);
        x.gate(0, 1);
        x.gate(0, 1);
        x.ate(0, 1);
        x.ate(0, 1);
        x.ate(0, 1);
        x.ate(0, 1);
        for (int i = 0; i < 5; i++) {
            x.vote(3);
        }
        int[] want = {2, 2, 1, -4, 24, 0, 0, 1, 3, 6, x.look(10), 2, 3, 4, 5, 1, 2, 3, 4, 5, 2};
        for (int i = 0; i < want.length; i++) {
            due("35 look " + i, x.look(i), want[i]);
        }
    }
}
