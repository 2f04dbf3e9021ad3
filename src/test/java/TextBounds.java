/** Part 2 of the terms: what a TEXT can be, where it is at FAULT, what THE LAW tells. */
final class TextBounds {
    private static final int NONE = DeerDays.NONE;
    private static final int LAW = 0;
    private static final int PLAN = 1;
    private static final int DUES = 2;
    private static final int FEASTS = 3;

    /** The greatest int as E, and 1 below and above it: 9999 * 9999 * 21 is 2099580021, 9999 * 4790 is 47895210. */
    private static final String MOST = "9999*9999*21+9999*4790+8416";
    private static final String BELOW_MOST = "9999*9999*21+9999*4790+8415";
    private static final String ABOVE_MOST = "9999*9999*21+9999*4790+8417";

    private TextBounds() { }

    private static void due(String what, long got, long want) {
        Check.due(what, got, want);
    }

    private static void told(DeerDays x, int k, String text, int lines) {
        Check.told(x, k, text, lines);
    }

    private static void faulty(DeerDays x, int k, String text, int fault, int place) {
        Check.faulty(x, k, text, fault, place);
    }

    /** What THE LAW of these lines tells as come of the DEER. */
    private static void comes(DeerDays x, int deer, String law, int want) {
        due("law [" + law + "] is told", Check.text(x, LAW, law) > 0 ? 1 : 0, 1);
        due("come of " + deer + " by [" + law + "]", x.of(deer, 5), want);
    }

    private static void isSo(DeerDays x, String b, boolean want) {
        comes(x, 0, "come 7 when " + b + "; come 8;", want ? 7 : 8);
    }

    @Sentence("TEXTS (empty at first).")
    static void textsAreEmptyAtFirst() {
        DeerDays x = Check.herd(0, 0);
        for (int what = 11; what <= 14; what++) {
            due("lines " + what, x.look(what), 0);
        }
        due("no DUE", x.due(0, 0), NONE - 1);
        due("no FEAST", x.moves(10), NONE);
        due("no line of THE LAW", x.of(0, 5), 1);
        x.days(1);
        due("no line of A PLAN", x.look(5) + x.look(6) + x.look(7), 0);
    }

    // ---- what each TEXT is made of

    @Sentence("0 THE LAW = {(come | long | shy) E [when B] ;}.")
    static void linesOfTheLaw() {
        DeerDays x = Check.herd(0, 0);
        told(x, LAW, "", 0);
        told(x, LAW, "come 1;", 1);
        told(x, LAW, "long 1;shy 1;", 2);
        told(x, LAW, "come 1 when 1=1;", 1);
        told(x, LAW, "come 1 when 1=1;long 1;shy 1 when 1=2;", 3);
        faulty(x, LAW, ";", 1, 0);
        faulty(x, LAW, "1;", 1, 0);
        faulty(x, LAW, "when 1=1;", 1, 0);
        faulty(x, LAW, "come;", 1, 4);
        faulty(x, LAW, "come when 1=1;", 1, 5);
        faulty(x, LAW, "come 1 when;", 1, 11);
        faulty(x, LAW, "come 1 1=1;", 1, 7);
        faulty(x, LAW, "come long 1;", 1, 5);
        faulty(x, LAW, "come 1 when 1=1 when 1=1;", 1, 16);
        faulty(x, LAW, "come 1;;", 1, 7);
        faulty(x, LAW, "come 1 long 1;", 1, 7);
    }

    @Sentence("B = A {or A}.")
    static void orNoneOnceAndTwice() {
        DeerDays x = Check.herd(0, 0);
        isSo(x, "1=1", true);
        isSo(x, "1=2", false);
        isSo(x, "1=2 or 1=2", false);
        isSo(x, "1=1 or 1=2", true);
        isSo(x, "1=2 or 1=1", true);
        isSo(x, "1=1 or 1=1", true);
        isSo(x, "1=2 or 1=2 or 1=2", false);
        isSo(x, "1=2 or 1=2 or 1=1", true);
        isSo(x, "1=1 or 1=2 or 1=2", true);
        isSo(x, "1=1 or 1=1 and 1=2", true);
        isSo(x, "1=2 and 1=1 or 1=1", true);
        isSo(x, "1=2 and 1=1 or 1=1 and 1=2", false);
        faulty(x, LAW, "come 1 when or 1=1;", 1, 12);
        faulty(x, LAW, "come 1 when 1=1 or;", 1, 18);
        faulty(x, LAW, "come 1 when 1=1 or or 1=1;", 1, 19);
    }

    @Sentence("A = C {and C}.")
    static void andNoneOnceAndTwice() {
        DeerDays x = Check.herd(0, 0);
        isSo(x, "1=1 and 1=1", true);
        isSo(x, "1=1 and 1=2", false);
        isSo(x, "1=2 and 1=1", false);
        isSo(x, "1=2 and 1=2", false);
        isSo(x, "1=1 and 1=1 and 1=1", true);
        isSo(x, "1=1 and 1=1 and 1=2", false);
        isSo(x, "1=2 and 1=1 and 1=1", false);
        faulty(x, LAW, "come 1 when and 1=1;", 1, 12);
        faulty(x, LAW, "come 1 when 1=1 and;", 1, 19);
        faulty(x, LAW, "come 1 when 1=1 and and 1=1;", 1, 20);
    }

    @Sentence("C = E (< | = | >) E | not C | ( B ).")
    static void comparedBelowAtAndAbove() {
        DeerDays x = Check.herd(0, 5);
        String[] below = {"calm<6", "5<calm+1", "not calm=4", "not calm>5"};
        String[] isNot = {"calm<5", "calm<4", "calm=4", "calm=6", "calm>5", "calm>6", "not calm=5", "not calm<6", "not calm>4", "not (calm=5)", "not not calm=4"};
        for (String b : below) {
            isSo(x, b, true);
        }
        for (String b : isNot) {
            isSo(x, b, false);
        }
        isSo(x, "calm=5", true);
        isSo(x, "calm>4", true);
        isSo(x, "(calm=5)", true);
        isSo(x, "not not calm=5", true);
        isSo(x, "calm<6 and calm=5 and calm>4", true);
        isSo(x, "not calm=4 and calm=4", false);
        isSo(x, "not (calm=4 and calm=4)", true);
        isSo(x, "(calm=5 or calm=5) and calm=4", false);
        isSo(x, BELOW_MOST + "<" + MOST, true);
        isSo(x, ABOVE_MOST + "<" + MOST, true);
        isSo(x, ABOVE_MOST + "=" + MOST, false);
        faulty(x, LAW, "come 1 when calm;", 1, 16);
        faulty(x, LAW, "come 1 when calm=;", 1, 17);
        faulty(x, LAW, "come 1 when =calm;", 1, 12);
        faulty(x, LAW, "come 1 when calm=5=5;", 1, 18);
        faulty(x, LAW, "come 1 when not;", 1, 15);
        faulty(x, LAW, "come 1 when ();", 1, 13);
        faulty(x, LAW, "come 1 when (calm=5;", 1, 19);
        faulty(x, LAW, "come 1 when calm=5);", 1, 18);
        faulty(x, LAW, "come 1 when (calm)=5;", 1, 17);
        faulty(x, LAW, "come 1 when calm=5 not calm=5;", 1, 19);
    }

    @Sentence("E = T {(+ | -) T}.")
    static void sumsOfOneTwoAndThree() {
        DeerDays x = Check.herd(0, 9);
        comes(x, 0, "come 20;", 20);
        comes(x, 0, "come 20+3;", 23);
        comes(x, 0, "come 20-3;", 17);
        comes(x, 0, "come 20-3-4;", 13);
        comes(x, 0, "come 20-3+4;", 21);
        comes(x, 0, "come 20-3*4-4*2;", 0);
        comes(x, 0, "come 20-3*4-4+1;", 5);
        faulty(x, LAW, "come +1;", 1, 5);
        faulty(x, LAW, "come -1;", 1, 5);
        faulty(x, LAW, "come 1+;", 1, 7);
        faulty(x, LAW, "come 1--1;", 1, 7);
        faulty(x, LAW, "come (1);", 1, 5);
    }

    @Sentence("T = U {* U | / NUMBER}.")
    static void productsOfOneTwoAndThree() {
        DeerDays x = Check.herd(0, 9);
        comes(x, 0, "come 2*3;", 6);
        comes(x, 0, "come 2*3*calm;", 54);
        comes(x, 0, "come 7/2*2;", 6);
        comes(x, 0, "come 2*7/2;", 7);
        comes(x, 0, "come 100/5/4;", 5);
        comes(x, 0, "come calm/1;", 9);
        comes(x, 0, "come calm/8;", 1);
        comes(x, 0, "come calm/9;", 1);
        comes(x, 0, "come calm/10;", 0);
        comes(x, 0, "come calm/9999;", 0);
        faulty(x, LAW, "come *2;", 1, 5);
        faulty(x, LAW, "come 2*;", 1, 7);
        faulty(x, LAW, "come 2/;", 1, 7);
        faulty(x, LAW, "come 2/calm;", 1, 7);
        faulty(x, LAW, "come 2**2;", 1, 7);
        faulty(x, LAW, "come 2*-2;", 1, 7);
        faulty(x, LAW, "come 2/2 2;", 1, 9);
    }

    @Sentence("U = NUMBER | deer | mark | calm | since | came | salt | noise | gate | season | today.")
    static void eachFactAndNoOther() {
        DeerDays x = Check.herd(0, 0);
        String[] facts = {"0", "9999", "deer", "mark", "calm", "since", "came", "salt", "noise", "gate", "season", "today"};
        for (String fact : facts) {
            told(x, LAW, "come " + fact + ";", 1);
        }
        String[] others = {"come", "long", "shy", "when", "or", "and", "not", "eat", "free", "on", "due", "after", "feast", "for", "day", "alive", "wolves"};
        for (String other : others) {
            faulty(x, LAW, "come " + other + ";", 1, 5);
        }
    }

    // ---- the numbers in a TEXT

    @Sentence("1 A PLAN = {on DAY (salt N | noise N | gate | eat DEER | free DEER) ;} (DAY 0 .. 999; N 0 .. 99.)")
    static void planFromDay0To999() {
        DeerDays x = Check.herd(0, 0, 0, 0);
        told(x, PLAN, "", 0);
        String[] acts = {"salt 0", "salt 1", "salt 98", "salt 99", "noise 0", "noise 1", "noise 98", "noise 99", "gate", "eat 0", "eat 1", "free 0", "free 1"};
        for (String act : acts) {
            told(x, PLAN, "on 0 " + act + ";", 1);
            told(x, PLAN, "on 1 " + act + ";on 998 " + act + ";", 2);
            told(x, PLAN, "on 999 " + act + ";", 1);
            faulty(x, PLAN, "on 1000 " + act + ";", 2, 3);
        }
        faulty(x, PLAN, "on 1 salt 100;", 2, 10);
        faulty(x, PLAN, "on 1 noise 100;", 2, 11);
        faulty(x, PLAN, "on 1 salt -1;", 1, 10);
        faulty(x, PLAN, "on 1 salt;", 1, 9);
        faulty(x, PLAN, "on 1 noise;", 1, 10);
        faulty(x, PLAN, "on 1 gate 0;", 1, 10);
        faulty(x, PLAN, "on 1 eat;", 1, 8);
        faulty(x, PLAN, "on 1 free;", 1, 9);
        faulty(x, PLAN, "on 1;", 1, 4);
        faulty(x, PLAN, "on -1 gate;", 1, 3);
        faulty(x, PLAN, "on gate;", 1, 3);
    }

    @Sentence("2 DUES = {due N on DEER [after DAY] ;} (N 1 .. 999;")
    static void duesOf1To999() {
        DeerDays x = Check.herd(0, 0);
        told(x, DUES, "", 0);
        faulty(x, DUES, "due 0 on 0;", 2, 4);
        faulty(x, DUES, "due 1000 on 0;", 2, 4);
        told(x, DUES, "due 1 on 0;due 2 on 0;due 998 on 0;due 999 on 0;", 4);
        int[] n = {1, 2, 998, 999};
        for (int i = 0; i < 4; i++) {
            due("N", x.due(i, 0), n[i]);
        }
        faulty(x, DUES, "due -1 on 0;", 1, 4);
        faulty(x, DUES, "due on 0;", 1, 4);
        faulty(x, DUES, "due 1 on;", 1, 8);
        faulty(x, DUES, "due 1 0;", 1, 6);
        faulty(x, DUES, "due 1 on 0 after;", 1, 16);
        faulty(x, DUES, "due 1 on 0 1;", 1, 11);
        faulty(x, DUES, "due 1 after 0 on 0;", 1, 6);
        faulty(x, DUES, "due 1 on 0 after 0 after 0;", 1, 19);
    }

    @Sentence("the first time it comes on a DAY above that one, 0 .. 999, or on any.)")
    static void dueAfterDay0To999() {
        DeerDays x = Check.herd(0, 0);
        faulty(x, DUES, "due 1 on 0 after 1000;", 2, 17);
        faulty(x, DUES, "due 1 on 0 after -1;", 1, 17);
        told(x, DUES, "due 1 on 0;due 2 on 0 after 0;due 4 on 0 after 1;due 8 on 0 after 998;due 16 on 0 after 999;", 5);
        int[] days = {NONE, 0, 1, 998, 999};
        for (int i = 0; i < 5; i++) {
            due("its DAY", x.due(i, 2), days[i]);
        }
        x.days(1);
        due("on DAY 0: that on any", x.look(3), -1);
        x.days(1);
        due("on DAY 1: above 0", x.look(3), -3);
        x.days(1);
        due("on DAY 2: above 1", x.look(3), -7);
        for (int i = 0; i < 16; i++) {
            x.days(60);
        }
        x.days(36);
        due("DAY", x.look(1), 999);
        due("on DAY 998: none", x.look(3), -7);
        x.days(1);
        due("on DAY 999: above 998", x.look(3), -15);
        x.days(1);
        due("on DAY 1000: above 999", x.look(3), -31);
        x.days(9);
        due("the first time alone", x.look(3), -31);
    }

    /** Nothing is asked of a FEAST but its MOVES: one alone is not moved, a second one tells how far it can be. */
    @Sentence("3 FEASTS = {feast N for N ;} (on DAY N 0 .. 30 of a month, it can be moved by so many days, 0 .. 9.)")
    static void feastsOnDay0To30For0To9() {
        DeerDays x = new DeerDays();
        told(x, FEASTS, "", 0);
        int[] days = {0, 1, 29, 30};
        for (int day : days) {
            told(x, FEASTS, "feast " + day + " for 0;", 1);
            due("its DAY", x.moves(10), day);
        }
        faulty(x, FEASTS, "feast 31 for 0;", 2, 6);
        faulty(x, FEASTS, "feast 1 for 10;", 2, 12);
        told(x, FEASTS, "feast 5 for 0;feast 5 for 0;", 2);
        due("neither can be moved", x.moves(0), NONE);
        told(x, FEASTS, "feast 5 for 0;feast 5 for 1;", 2);
        due("one by one", x.moves(0), 1);
        told(x, FEASTS, "feast 0 for 8;feast 30 for 9;", 2);
        faulty(x, FEASTS, "feast -1 for 0;", 1, 6);
        faulty(x, FEASTS, "feast 1 for -1;", 1, 12);
        faulty(x, FEASTS, "feast 1;", 1, 7);
        faulty(x, FEASTS, "feast 1 for;", 1, 11);
        faulty(x, FEASTS, "feast for 1;", 1, 6);
        faulty(x, FEASTS, "feast 1 on 1;", 1, 8);
        due("the last told stays", x.look(14), 2);
    }

    @Sentence("16 lines of each at most, FEASTS 8.")
    static void sixteenLinesAndEightFeasts() {
        DeerDays x = Check.herd(0, 0);
        String[] lines = {"shy 1;", "on 1 gate;", "due 1 on 0;", "feast 1 for 9;"};
        for (int k = 0; k <= 3; k++) {
            int most = k == FEASTS ? 8 : 16;
            told(x, k, lines[k].repeat(most - 1), most - 1);
            due("lines below", x.look(11 + k), most - 1);
            told(x, k, lines[k].repeat(most), most);
            due("lines at most", x.look(11 + k), most);
            told(x, k, lines[k].repeat(most + 1), NONE);
            due("lines as they were", x.look(11 + k), most);
        }
    }

    // ---- tokens

    @Sentence("TOKENS: letters (a-z, A-Z) as many as stand together are KEYWORDS (those told here for that text) or none;")
    static void lettersAreKeywordsOrNone() {
        DeerDays x = Check.herd(0, 0);
        told(x, LAW, "come1;", 1);
        told(x, LAW, "come calm;", 1);
        String[] none = {"comecalm;", "comes 1;", "comea 1;", "comez 1;", "comeA 1;", "comeZ 1;", "Come 1;", "COME 1;", "com 1;", "c 1;", "ome 1;", "a 1;", "z 1;", "A 1;", "Z 1;"};
        for (String text : none) {
            faulty(x, LAW, text, 1, 0);
        }
        String[] noLetters = {"come`1;", "come{1;", "come@1;", "come[1;"};
        for (String text : noLetters) {
            faulty(x, LAW, text, 1, 4);
        }
        faulty(x, PLAN, "come 1;", 1, 0);
        faulty(x, PLAN, "on 1 calm;", 1, 5);
        faulty(x, DUES, "due 1 on 0 when;", 1, 11);
        faulty(x, FEASTS, "on 1 for 1;", 1, 0);
        faulty(x, LAW, "on 1;", 1, 0);
        faulty(x, LAW, "come free;", 1, 5);
    }

    @Sentence("digits as many as stand together NUMBERS of 1 to 4 digits or none;")
    static void numbersOf1To4Digits() {
        DeerDays x = Check.herd(0, 0);
        faulty(x, LAW, "come ;", 1, 5);
        comes(x, 0, "come 9;", 9);
        comes(x, 0, "come 98;", 98);
        comes(x, 0, "come 987;", 987);
        comes(x, 0, "come 9876-9000;", 876);
        faulty(x, LAW, "come 98765;", 1, 5);
        faulty(x, LAW, "come 00001;", 1, 5);
        faulty(x, LAW, "come 1234567890123;", 1, 5);
        comes(x, 0, "come 0000;", 0);
        comes(x, 0, "come 0012;", 12);
        comes(x, 0, "come 9999-9990;", 9);
        faulty(x, LAW, "come 12 34;", 1, 8);
        faulty(x, LAW, "come :;", 1, 5);
        comes(x, 0, "come 8/2;", 4);
        faulty(x, PLAN, "on 00001 gate;", 1, 3);
        told(x, PLAN, "on 0001 gate;", 1);
    }

    /** Each byte behind "come 1": blanks and digits leave it whole, ; and what can stand there fail at the next. */
    @Sentence("; + - * / ( ) < = > .")
    static void signsAndNoOthers() {
        for (int b = 0; b <= 255; b++) {
            DeerDays x = Check.herd(0, 0);
            String text = "come 1" + (char) b + ";";
            if (b == ' ' || b == '\n' || b >= '0' && b <= '9') {
                told(x, LAW, text, 1);
            } else if (b == ';' || b == '+' || b == '-' || b == '*' || b == '/') {
                faulty(x, LAW, text, 1, 7);
            } else {
                faulty(x, LAW, text, 1, 6);
            }
        }
        DeerDays x = Check.herd(0, 0);
        isSo(x, "(1<2)", true);
        isSo(x, "(2>1)", true);
        isSo(x, "(2=2)", true);
    }

    @Sentence("Blanks (32, 10) between.")
    static void blanksAre32And10() {
        DeerDays x = Check.herd(0, 0);
        comes(x, 0, "\n come \n\n 5 ; \n", 5);
        comes(x, 0, "come\n6\n;\n", 6);
        comes(x, 0, "come7;", 7);
        comes(x, 0, "come8when(1=1)and not(1=2);come9;", 8);
        told(x, LAW, " ", 0);
        told(x, LAW, "\n", 0);
        int[] others = {0, 9, 11, 12, 13, 31, 33, 127, 128, 133, 160, 255};
        for (int b : others) {
            faulty(x, LAW, "come" + (char) b + "1;", 1, 4);
            faulty(x, LAW, (char) b + "come 1;", 1, 0);
            faulty(x, LAW, "come 1;" + (char) b, 1, 7);
        }
    }

    /** 9999 ^ 3 wraps to -1027349969; half of that, towards 0, is -513674984: 9999 * 9999 * 5 + 9999 * 1377 + 6356 below 0. */
    @Sentence("Ints, which wrap; / goes towards 0.")
    static void intsWrapAndPartsGoTowards0() {
        DeerDays x = Check.herd(0, 0);
        isSo(x, BELOW_MOST + ">0", true);
        isSo(x, MOST + ">0", true);
        isSo(x, ABOVE_MOST + "<0", true);
        isSo(x, ABOVE_MOST + "-1=" + MOST, true);
        isSo(x, "0-9999*9999*21-9999*4790-8417<0", true);
        isSo(x, "0-9999*9999*21-9999*4790-8418=" + MOST, true);
        isSo(x, "9999*9999>0", true);
        isSo(x, "9999*9999*9999<0", true);
        isSo(x, "9999*9999*9999/2=0-9999*9999*5-9999*1377-6356", true);
        isSo(x, "9999*9999*9999/2=0-9999*9999*5-9999*1377-6357", false);
        comes(x, 0, "come 6/7;", 0);
        comes(x, 0, "come 7/7;", 1);
        comes(x, 0, "come 8/7;", 1);
        comes(x, 0, "come 13/7;", 1);
        comes(x, 0, "come 14/7;", 2);
        comes(x, 0, "come 0/7;", 0);
    }

    // ---- FAULTS

    @Sentence("FAULTS, the first by its place, at one place the least:")
    static void firstFaultAndLeast() {
        DeerDays x = Check.herd(0, 0);
        told(x, LAW, "come 1/1;", 1);
        due("no FAULT", x.fault(0), 0);
        due("no place", x.fault(1), NONE);
        faulty(x, LAW, "come 1/0 1;", 2, 7);
        faulty(x, LAW, "come 1 1/0;", 1, 7);
        faulty(x, LAW, "come 1/0;come ?;", 2, 7);
        faulty(x, LAW, "come ?;come 1/0;", 1, 5);
        faulty(x, DUES, "due 0 on 9;", 2, 4);
        faulty(x, DUES, "due 1 on 9 after 1000;", 2, 9);
        faulty(x, PLAN, "on 1000 salt 100", 2, 3);
        faulty(x, LAW, "shy 1;".repeat(16) + "shy 1/0", 3, 96);
        faulty(x, LAW, "shy 1;".repeat(15) + "shy 1/0;shy 1;", 2, 96);
        faulty(x, LAW, "shy 1;".repeat(16) + "when", 1, 96);
        faulty(x, LAW, "shy 1;".repeat(16) + "?", 1, 96);
        faulty(x, FEASTS, "feast 1 for 9;".repeat(8) + "for", 1, 112);
        faulty(x, LAW, "come 1 when ((((((((1(", 1, 21);
        faulty(x, LAW, "come 1 when 1=1 (", 1, 16);
        faulty(x, LAW, "come 1/00000;", 1, 7);
        faulty(x, PLAN, "on 10000 gate;", 1, 3);
    }

    @Sentence("1 what can't stand there (the end: the text's length).")
    static void endStandsAtTheLength() {
        DeerDays x = Check.herd(0, 0);
        told(x, LAW, "", 0);
        faulty(x, LAW, "c", 1, 0);
        faulty(x, LAW, "come", 1, 4);
        faulty(x, LAW, "come ", 1, 5);
        faulty(x, LAW, "come 1", 1, 6);
        faulty(x, LAW, "come 1 \n ", 1, 9);
        faulty(x, LAW, "come 1;come 1", 1, 13);
        faulty(x, LAW, "come 1 when (1=1", 1, 16);
        faulty(x, PLAN, "on", 1, 2);
        faulty(x, DUES, "due 1 on 0", 1, 10);
        faulty(x, FEASTS, "feast 1 for 1", 1, 13);
        faulty(x, LAW, " ".repeat(399) + "?", 1, 399);
        faulty(x, LAW, "come 1" + " ".repeat(394), 1, 400);
        told(x, LAW, " ".repeat(393) + "come 1;", 1);
        told(x, LAW, " ".repeat(400), 0);
    }

    @Sentence("2 (at the NUMBER) a part by 0; one beyond its bounds; a DEER that there is not.")
    static void partBy0AndNumbersBeyond() {
        DeerDays x = Check.herd(0, 0, 0, 0);
        faulty(x, LAW, "come 1/0;", 2, 7);
        faulty(x, LAW, "come 1/  0000;", 2, 9);
        told(x, LAW, "come 1/1;", 1);
        told(x, LAW, "come 1/9999;", 1);
        told(x, LAW, "come 1*0;", 1);
        told(x, LAW, "come 9999;", 1);
        faulty(x, PLAN, "on  1000 gate;", 2, 4);
        faulty(x, FEASTS, "feast 30 for  10;", 2, 14);
        String[] withDeer = {"on 1 eat ", "on 1 free "};
        for (String act : withDeer) {
            told(x, PLAN, act + "0;" + act + "1;", 2);
            faulty(x, PLAN, act + "2;", 2, act.length());
            faulty(x, PLAN, act + "9999;", 2, act.length());
            faulty(new DeerDays(), PLAN, act + "0;", 2, act.length());
        }
        told(x, DUES, "due 1 on 0;due 1 on 1;", 2);
        faulty(x, DUES, "due 1 on 2;", 2, 9);
        faulty(new DeerDays(), DUES, "due 1 on 0;", 2, 9);
        x.eat(1, true);
        told(x, DUES, "due 1 on 1;", 1);
        x.deer(0, 0);
        told(x, DUES, "due 1 on 2;", 1);
        DeerDays ten = Check.herd(new int[20]);
        told(ten, DUES, "due 1 on 9;", 1);
        faulty(ten, DUES, "due 1 on 10;", 2, 9);
    }

    @Sentence("3 (at its KEYWORD) the 17th line of a text, the 9th FEAST;")
    static void the17thLineAndThe9thFeast() {
        DeerDays x = Check.herd(0, 0);
        String[] lines = {"shy 1;", "on 1 gate;", "due 1 on 0;", "feast 1 for 9;"};
        for (int k = 0; k <= 3; k++) {
            int most = k == FEASTS ? 8 : 16;
            told(x, k, lines[k].repeat(most), most);
            faulty(x, k, lines[k].repeat(most + 1), 3, lines[k].length() * most);
            faulty(x, k, lines[k].repeat(most) + "  " + lines[k], 3, lines[k].length() * most + 2);
            faulty(x, k, lines[k].repeat(most) + lines[k].substring(0, lines[k].indexOf(' ')), 3, lines[k].length() * most);
            faulty(x, k, lines[k].repeat(most + 2), 3, lines[k].length() * most);
        }
        String mixed = "come 1;long 1;shy 1;come 1;".repeat(4);
        told(x, LAW, mixed, 16);
        faulty(x, LAW, mixed + "long 1;", 3, mixed.length());
    }

    @Sentence("(at it) the 9th ( or not that is open.")
    static void the9thThatIsOpen() {
        DeerDays x = Check.herd(0, 0);
        isSo(x, "(((((((1=1)))))))", true);
        isSo(x, "((((((((1=1))))))))", true);
        faulty(x, LAW, "come 1 when (((((((((1=1)))))))));", 3, 20);
        isSo(x, "not not not not not not not 1=1", false);
        isSo(x, "not not not not not not not not 1=1", true);
        faulty(x, LAW, "come 1 when not not not not not not not not not 1=1;", 3, 44);
        isSo(x, "not(not(not(not(1=1))))", true);
        faulty(x, LAW, "come 1 when not(not(not(not(not 1=1))));", 3, 28);
        faulty(x, LAW, "come 1 when (not(not(not(not(1=1)))));", 3, 28);
        isSo(x, "((((((((1=1)))))))) and ((((((((1=1))))))))", true);
        isSo(x, "(((((((not 1=2 and not 1=2)))))))", true);
        isSo(x, "(((((((1=1 and (1=1) and (1=1))))))))", true);
        isSo(x, "not 1=2 and not 1=2 and not 1=2 and not 1=2 and not 1=2 and not 1=2 and not 1=2 and not 1=2 and not 1=2", true);
        faulty(x, LAW, "come 1 when (((((((not 1=1 and not not 1=1)))))));", 3, 35);
        faulty(x, LAW, "come 1 when (((((((((", 3, 20);
    }

    // ---- what THE LAW tells

    @Sentence("What THE LAW tells of a DEER for a word: E of the first line with that word whose B is so, or that has none (none: come: since and 1, "
        + "long: 6 and calm, shy: noise by 9),")
    static void firstLineThatIsSo() {
        DeerDays x = Check.herd(0, 0, 0, 9);
        comes(x, 0, "long 1;come 2;come 3;", 2);
        comes(x, 0, "come 2 when 1=2;come 3 when 1=1;come 4;", 3);
        comes(x, 0, "come 2 when 1=2;come 3 when 1=2;come 4;", 4);
        comes(x, 0, "come 4;come 2 when 1=1;", 4);
        comes(x, 0, "come 2 when 1=2;shy 7;", 1);
        due("shy", x.of(0, 7), 7);
        comes(x, 0, "come 50 when deer=1;", 1);
        due("come of the other", x.of(1, 5), 50);
        told(x, LAW, "", 0);
        int[] sinces = {0, 1, 997, 998, 999};
        int[] comes = {1, 2, 998, 999, 999};
        for (int i = 0; i < sinces.length; i++) {
            x.set(7, 0, sinces[i]);
            due("come: since " + sinces[i] + " and 1", x.of(0, 5), comes[i]);
        }
        due("long: 6 and calm 0", x.of(0, 6), 6);
        due("long: 6 and calm 9", x.of(1, 6), 15);
        int[] noises = {0, 8, 9, 80, 81, 89, 90, 99};
        int[] shies = {0, 0, 1, 8, 9, 9, 9, 9};
        for (int i = 0; i < noises.length; i++) {
            x.set(1, 0, noises[i]);
            due("shy: noise " + noises[i] + " by 9", x.of(0, 7), shies[i]);
        }
    }

    @Sentence("come held to 0 .. 999, long to 0 .. 24, shy to 0 .. 9:")
    static void heldToTheirBounds() {
        DeerDays x = Check.herd(0, 0);
        String[] words = {"come", "long", "shy"};
        int[] most = {999, 24, 9};
        for (int i = 0; i < 3; i++) {
            int m = most[i];
            String[] told = {"0-9999", "0-1", "0", "1", "" + (m - 1), "" + m, "" + (m + 1), "9999", MOST, ABOVE_MOST};
            int[] want = {0, 0, 0, 1, m - 1, m, m, m, m, 0};
            for (int j = 0; j < told.length; j++) {
                told(x, LAW, words[i] + " " + told[j] + ";", 1);
                due(words[i] + " " + told[j], x.of(0, 5 + i), want[j]);
            }
        }
    }

    @Sentence("deer: its number; mark, calm, since, came; salt, noise, gate; season: DAY by 30 modulo 12;")
    static void factsAndSeason() {
        DeerDays x = Check.herd(0, 0, 0, 0, 0, 0, 0, 0, 0, 0, 0, 0, 0, 0, 0, 0, 0, 0, 5, 9);
        comes(x, 0, "come deer+100;", 100);
        due("deer 9", x.of(9, 5), 109);
        comes(x, 9, "come mark*10+calm;", 59);
        due("mark 0, calm 0", x.of(0, 5), 0);
        x.set(0, 0, 99);
        x.set(1, 0, 98);
        x.set(2, 0, 1);
        comes(x, 0, "come salt;", 99);
        comes(x, 0, "come noise;", 98);
        comes(x, 0, "come gate;", 1);
        x.set(7, 9, 999);
        x.set(8, 9, 998);
        comes(x, 9, "come since;", 999);
        comes(x, 9, "come came;", 998);
        told(x, LAW, "come 1 when deer=0;come 0;long season;", 3);
        due("DAY 0", x.of(3, 6), 0);
        x.days(29);
        due("DAY 29", x.of(3, 6), 0);
        x.days(1);
        due("DAY 30", x.of(3, 6), 1);
        x.days(29);
        due("DAY 59", x.of(3, 6), 1);
        x.days(1);
        due("DAY 60", x.of(3, 6), 2);
        for (int i = 0; i < 4; i++) {
            x.days(60);
        }
        x.days(59);
        due("DAY 359", x.of(3, 6), 11);
        x.days(1);
        due("DAY 360", x.of(3, 6), 0);
        x.days(30);
        due("DAY 390", x.of(3, 6), 1);
        for (int i = 0; i < 160; i++) {
            x.days(60);
        }
        x.days(9);
        due("DAY 9999", x.of(3, 6), 9);
    }

    @Sentence("today: 1, if it is that of TODAY, else 0.")
    static void todayIs1Or0() {
        DeerDays x = Check.herd(0, 0, 0, 0);
        comes(x, 0, "come today+5 when deer=0;come today;", 5);
        due("at first", x.of(1, 5), 0);
        x.days(1);
        due("that of TODAY", x.of(0, 5), 6);
        due("another", x.of(1, 5), 0);
        x.eat(0, true);
        due("that of TODAY, eaten", x.of(0, 5), 6);
        x.days(1);
        due("none's", x.of(0, 5), 5);
        due("none's", x.of(1, 5), 0);
    }
}
