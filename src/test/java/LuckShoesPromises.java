/** Promises 1 to 42, one by one; the answers that are due were worked out by hand from the document. */
public final class LuckShoesPromises {
    private static final int BAD = -1, NOT = -2, FULL = -3, STATE = -5, VOID = -2000000000;
    private static final long NO_LONG = Long.MIN_VALUE;
    private static final int MIN = Integer.MIN_VALUE, MAX = Integer.MAX_VALUE;
    private static int wrong = 0;
    private static int looked = 0;
    private static int promise = 0;

    private static void due(String call, long got, long want) {
        looked++;
        if (got != want) {
            wrong++;
            System.out.println("promise " + promise + ": " + call + " answered " + got + ", due is " + want);
        }
    }

    /** The first street falls from cell 0 (5 high) to cell 5 (0 high); all else is 9 high. */
    private static LuckShoes lane() {
        LuckShoes x = new LuckShoes();
        for (int cell = 0; cell < 36; cell++) {
            x.mend(cell, 0, cell < 6 ? 5 - cell : 9);
        }
        return x;
    }

    private static LuckShoes laneWith(int cell, int luck) {
        LuckShoes x = lane();
        x.mend(cell, 1, luck);
        return x;
    }

    private static int lawOf(LuckShoes x, String text) {
        for (int i = 0; i < text.length(); i++) {
            x.feed(text.charAt(i));
        }
        return x.law();
    }

    private static void shorts(LuckShoes x, int shelf, int... elements) {
        x.row(shelf, 1, elements.length);
        for (int i = 0; i < elements.length; i++) {
            x.put(shelf, i, elements[i]);
        }
    }

    private static void bytes(LuckShoes x, int shelf, int... elements) {
        x.row(shelf, 0, elements.length);
        for (int i = 0; i < elements.length; i++) {
            x.put(shelf, i, elements[i]);
        }
    }

    public static void main(String[] args) {
        newObject();
        person();
        people();
        mend();
        of();
        feed();
        law();
        lawFaults();
        runs();
        later();
        all();
        still();
        rich();
        sinkAndBasin();
        fall();
        shoes();
        seat();
        judge();
        seen();
        bets();
        margin();
        byTurns();
        drawn();
        hour();
        pour();
        hang();
        moves();
        led();
        imageAndBack();
        undoAndRedo();
        body();
        act();
        trace();
        keep();
        row();
        put();
        element();
        shift();
        taken();
        count();
        System.out.println(looked + " answers looked at, " + wrong + " wrong");
        if (wrong != 0) {
            System.exit(1);
        }
    }

    private static void newObject() {
        promise = 1;
        LuckShoes x = new LuckShoes();
        for (int cell = 0; cell < 36; cell++) {
            for (int what = 0; what < 3; what++) {
                due("of a new cell", x.of(cell, what), 0);
            }
            due("runs of a new cell", x.runs(cell), NOT);
        }
        for (int what = 0; what < 6; what++) {
            due("count(" + what + ")", x.count(what), 0);
        }
        for (int what = 0; what < 5; what++) {
            due("led(" + what + ")", x.led(what), 0);
        }
        due("hour", x.of(0, 7), 0);
        due("back", x.back(), STATE);
        due("undo", x.undo(), STATE);
        due("redo", x.redo(), STATE);
        due("trace", x.trace(0), BAD);
        due("judge", x.judge(5, 0), -11);
    }

    private static void person() {
        promise = 2;
        LuckShoes x = new LuckShoes();
        for (int wrongCell : new int[] {-1, 36, MIN, MAX}) {
            due("person(" + wrongCell + ")", x.person(wrongCell), BAD);
        }
        due("nobody came", x.count(0), 0);
        for (int one = 0; one < 8; one++) {
            due("person", x.person(5 * one), one);
            due("cell", x.of(one, 3), 5 * one);
            due("thirst", x.of(one, 4), 5);
            due("skin", x.of(one, 5), 0);
            due("has", x.of(one, 6), 0);
        }
        due("a ninth", x.person(0), FULL);
        due("a ninth nowhere", x.person(36), BAD);
        due("eight", x.count(0), 8);
    }

    private static void people() {
        promise = 3;
        LuckShoes x = new LuckShoes();
        due("shelf -1", x.people(-1, 0, 1), BAD);
        due("shelf 6", x.people(6, 0, 1), BAD);
        due("n 0", x.people(0, 0, 0), BAD);
        due("n 9", x.people(0, 0, 9), BAD);
        due("a missing row", x.people(0, 0, 1), 0);
        shorts(x, 0, 1, 2, 0);
        due("shorts", x.people(0, 0, 1), -12);
        due("n 9 of shorts", x.people(0, 0, 9), BAD);
        x.body(0);
        x.keep(1, 0);
        due("a shoe", x.people(1, 0, 1), -12);
        bytes(x, 2, 35, 99, 1, 0, 0, 0, 7, 5);
        due("place -1", x.people(2, -1, 2), 0);
        due("place -3", x.people(2, -3, 2), 0);
        due("place far below", x.people(2, MIN, 2), 0);
        due("place far above", x.people(2, MAX, 8), 0);
        due("place above", x.people(2, 8, 8), 0);
        due("within a three", x.people(2, 6, 1), 0);
        due("two, then the row ends", x.people(2, 0, 8), 2);
        due("cell", x.of(0, 3), 35);
        due("thirst", x.of(0, 4), 99);
        due("skin", x.of(0, 5), 1);
        due("has", x.of(0, 6), 0);
        due("cell of the other", x.of(1, 3), 0);
        due("thirst of the other", x.of(1, 4), 0);
        due("one of them is wanted", x.people(2, 3, 1), 1);
        int[][] notSo = {{36, 0, 0}, {-1, 0, 0}, {0, 100, 0}, {0, -1, 0}, {0, 0, 2}, {0, 0, -1}};
        for (int[] three : notSo) {
            bytes(x, 3, three);
            due("one is not so", x.people(3, 0, 1), 0);
        }
        due("three so far", x.count(0), 3);
        bytes(x, 3, 1, 1, 0, 2, 2, 0, 36, 3, 0, 4, 4, 0);
        due("those ahead came", x.people(3, 0, 4), 2);
        bytes(x, 4, 1, 1, 0, 2, 2, 0, 3, 3, 0, 4, 4, 0);
        due("until full", x.people(4, 0, 4), 3);
        due("full", x.people(4, 0, 4), 0);
        due("the latest", x.of(7, 3), 3);
        due("coming is no change", x.count(3), 0);
    }

    private static void mend() {
        promise = 4;
        LuckShoes x = new LuckShoes();
        int[] greatest = {9, 9999, 2, 35, 99, 1, 9999, 23};
        int[] first = {0, 0, 0, 4, 5, 0, 0, 0};
        due("nobody", x.mend(0, 3, 1), BAD);
        x.person(4);
        for (int what = 0; what < 8; what++) {
            due("above, " + what, x.mend(0, what, greatest[what] + 1), BAD);
            due("below, " + what, x.mend(0, what, -1), BAD);
            due("MIN, " + what, x.mend(0, what, MIN), BAD);
            due("no such number, " + what, x.mend(-1, what, 0), BAD);
            due("no such number, " + what, x.mend(what < 3 ? 36 : 1, what, 0), BAD);
            due("nothing changed, " + what, x.of(0, what), first[what]);
            due("greatest, " + what, x.mend(0, what, greatest[what]), first[what]);
            due("least, " + what, x.mend(0, what, 0), greatest[what]);
            due("then, " + what, x.of(0, what), 0);
        }
        due("what -1", x.mend(0, -1, 0), BAD);
        due("what 8", x.mend(0, 8, 0), BAD);
        due("what MAX", x.mend(0, MAX, 0), BAD);
        due("last cell", x.mend(35, 1, 7), 0);
        due("last cell", x.of(35, 1), 7);
        due("changes", x.count(3), 17);
    }

    private static void of() {
        promise = 5;
        LuckShoes x = new LuckShoes();
        x.person(3);
        x.mend(35, 0, 4);
        x.mend(0, 7, 22);
        due("height", x.of(35, 0), 4);
        due("cell", x.of(0, 3), 3);
        due("hour", x.of(0, 7), 22);
        due("hour of 1", x.of(1, 7), BAD);
        due("cell 36", x.of(36, 0), BAD);
        due("cell -1", x.of(-1, 1), BAD);
        due("one 1", x.of(1, 3), BAD);
        due("one -1", x.of(-1, 6), BAD);
        due("what 8", x.of(0, 8), BAD);
        due("what -1", x.of(0, -1), BAD);
        due("what MIN", x.of(0, MIN), BAD);
    }

    private static void feed() {
        promise = 6;
        LuckShoes x = new LuckShoes();
        due("-1", x.feed(-1), BAD);
        due("256", x.feed(256), BAD);
        for (int n = 1; n <= 120; n++) {
            due("byte " + n, x.feed(n % 2 == 0 ? 0 : 255), n);
        }
        due("one more", x.feed(0), FULL);
        due("one more that is none", x.feed(256), BAD);
        due("120", x.count(2), 120);
    }

    private static int worth(String text) {
        LuckShoes x = laneWith(3, 9999);
        x.mend(3, 2, 2);
        x.mend(0, 7, 21);
        x.person(3);
        x.person(3);
        x.mend(1, 5, 1);
        x.person(4);
        due("law " + text, lawOf(x, text), 1);
        due("the tape is empty", x.count(2), 0);
        return x.runs(3);
    }

    private static void law() {
        promise = 7;
        Object[][] texts = {
            {"7", 7}, {"0007", 7}, {"9999", 9999}, {"l", 9999}, {"s", 2}, {"h", 1}, {"p", 2}, {"o", 21}, {"c", 3},
            {"2+3*4", 14}, {"(2+3)*4", 20}, {"9-4-3", 2}, {"9-(4-3)", 8}, {"100/7*7", 98}, {"17%5*2", 4},
            {"10+-17%5", 8}, {"10+-17/5", 7}, {"10+17%-5", 12}, {"5/0", 0}, {"1+5%0", 1}, {"3-0/0", 3},
            {"2<3", 1}, {"3<3", 0}, {"3=3", 1}, {"3=4", 0}, {"3>2", 1}, {"3>3", 0}, {"1+1=2", 1},
            {"0|5", 1}, {"0|0", 0}, {"6|0", 1}, {"5&3", 1}, {"5&0", 0}, {"0&5", 0}, {"1|0&0", 1}, {"(1|0)&0", 0},
            {"2&1<2", 1}, {"!5", 0}, {"!0", 1}, {"!!7", 1}, {"!0+1", 2}, {"--7", 7}, {"9+-5", 4}, {"9--5", 14},
            {"-!0+3", 2}, {"l+1", 9999}, {"0-5", 0}, {"-l", 0}, {"l*l", 9999},
            {"9999*9999*9999%1000+2000", 9999 * 9999 * 9999 % 1000 + 2000},
            {"40+8192*8192*32/-1/8192/8192", 8}, {"8192*8192*32%-1+3", 3}, {"-(8192*8192*32)<0", 1},
            {"0?5;7", 7}, {"1?5;7", 5}, {"-1?5;7", 5}, {"0?5", 0}, {"0;7", 0}, {"3;0?4", 3},
            {"s=0?1;s=1?2;s=2?3;4", 3}, {"s=0?1;s=1?2;4", 4}, {"l>9998&o=21?11;22", 11}, {"1/0|0?3;4", 4},
            {"------6", 6}, {"((((((6))))))", 6}, {"-(-(-(6)))+9", 3}, {"(((1)))+((((((2))))))", 3},
            {"(1<2)<2", 1},
        };
        for (Object[] text : texts) {
            due("worth of " + text[0], worth((String) text[0]), (int) text[1]);
        }
        StringBuilder ones = new StringBuilder("1");
        for (int n = 1; n < 60; n++) {
            ones.append(n % 2 == 0 ? "-1" : "+3");
        }
        due("119 bytes", ones.length(), 119);
        due("119 bytes", worth(ones.toString()), 1 + 3 * 30 - 29);
        due("120 bytes", worth("!" + ones), 0 + 3 * 30 - 29);
    }

    private static void lawFaults() {
        Object[][] faults = {
            {"", 0}, {";", 0}, {"?", 0}, {"x", 0}, {"L", 0}, {")", 0}, {"*", 0}, {"+1", 0}, {"=", 0},
            {"" + (char) 200, 0}, {"" + (char) 0, 0}, {"" + (char) 255, 0}, {" l", 0},
            {"l+", 2}, {"l;", 2}, {"l?", 2}, {"l=", 2}, {"(l", 2}, {"(", 1}, {"!", 1}, {"-", 1}, {"l;s?", 4},
            {"l)", 1}, {"l l", 1}, {"ls", 1}, {"l1", 1}, {"1l", 1}, {"l(", 1}, {"l!", 1}, {"l\n", 1},
            {"l??", 2}, {"l?s?h", 3}, {"12345", 4}, {"l+12345", 6}, {"1<2<3", 3}, {"1<2=1", 3}, {"1=2>3", 3},
            {"(1<2<3)", 4}, {"1|1<2<3", 5}, {"(l?s)", 2}, {"(l;s)", 2}, {"()", 1}, {"l+*", 2}, {"l;;s", 2},
            {"!!!!!!!l", 6}, {"-------l", 6}, {"(((((((l", 6}, {"-(!(-(!l)))", 6}, {"l?!!!!!!!l", 8},
            {"(((l)))+(((((((", 14}, {"1&", 2}, {"1&|", 2}, {"((l)", 4}, {"l<=s", 2}, {"l==s", 2},
        };
        for (Object[] fault : faults) {
            LuckShoes x = laneWith(3, 100);
            due("law l/5", lawOf(x, "l/5"), 1);
            due("fault of " + fault[0], lawOf(x, (String) fault[0]), -100 - (int) fault[1]);
            due("the tape is empty behind " + fault[0], x.count(2), 0);
            due("the law stays behind " + fault[0], x.runs(3), 20);
        }
        LuckShoes x = laneWith(3, 100);
        due("a fault of the first law", lawOf(x, "l+"), -102);
        due("no text yet", x.runs(3), 50);
        for (String text : new String[] {"1234", "1|1<2&3>4|5=6", "!!!!!!l", "l?s;h?p;o", "(1<2)<(3=4)"}) {
            due("right: " + text, lawOf(x, text), 1);
        }
        StringBuilder longest = new StringBuilder();
        for (int n = 0; n < 60; n++) {
            longest.append("1+");
        }
        due("it ends too early", lawOf(x, longest.toString()), -220);
    }

    private static void runs() {
        promise = 8;
        LuckShoes x = lane();
        due("-1", x.runs(-1), BAD);
        due("36", x.runs(36), BAD);
        due("a sink", x.runs(5), NOT);
        due("a flat one", x.runs(20), NOT);
        due("no luck", x.runs(0), 0);
        int[][] told = {{0, 101, 50}, {0, 1, 0}, {1, 20, 0}, {1, 19, 0}, {1, 21, 1}, {1, 9999, 9979}, {2, 77, 77}};
        for (int[] by : told) {
            x.mend(0, 2, by[0]);
            x.mend(0, 1, by[1]);
            due("shoe " + by[0] + ", luck " + by[1], x.runs(0), by[2]);
        }
        x.person(0);
        due("nobody drinking", x.runs(0), 77);
        LuckShoes y = new LuckShoes();
        y.mend(14, 0, 5);
        y.mend(14, 1, 10);
        due("a hill", y.sink(14, 0), 8);
        y.mend(8, 0, 1);
        due("right is first then", y.sink(14, 0), 15);
        y.mend(15, 0, 1);
        due("down is first then", y.sink(14, 0), 20);
        y.mend(20, 0, 1);
        due("left is first then", y.sink(14, 0), 13);
        y.mend(13, 0, 1);
        due("up again, and on", y.sink(14, 1), 2);
        y.mend(13, 0, 5);
        y.mend(8, 0, 5);
        y.mend(15, 0, 5);
        y.mend(20, 0, 5);
        due("none is lower", y.runs(14), NOT);
        y.mend(14, 0, 0);
        due("a hole", y.runs(13), 0);
    }

    private static void later() {
        promise = 9;
        LuckShoes x = laneWith(0, 100);
        due("now", x.later(0, 0, 0), 100);
        due("1 hour", x.later(1, 0, 0), 50);
        due("1 hour, below", x.later(1, 1, 0), 50);
        due("3 hours", x.later(3, 0, 0), 13);
        due("3 hours", x.later(3, 1, 0), 37);
        due("3 hours", x.later(3, 2, 0), 38);
        due("3 hours", x.later(3, 3, 0), 12);
        due("nothing changed", x.of(0, 1), 100);
        due("hour stays", x.of(0, 7), 0);
        due("n 48", x.later(48, 35, 0), 0);
        due("n 49", x.later(49, 0, 0), BAD);
        due("n -1", x.later(-1, 0, 0), BAD);
        due("cell 36", x.later(0, 36, 0), BAD);
        due("what 2", x.later(0, 0, 2), BAD);
        due("nobody", x.later(0, 0, 1), BAD);
        x.person(0);
        x.person(0);
        x.mend(0, 1, 7);
        due("he drinks first", x.later(1, 0, 1), 5);
        due("then the other", x.later(1, 1, 1), 2);
        x.mend(0, 5, 1);
        due("a dry one has none", x.later(1, 0, 1), 0);
        due("the other one has it", x.later(1, 1, 1), 5);
        due("luck stays", x.later(1, 0, 0), 1);
        x.mend(1, 6, 9998);
        due("9999 at most", x.later(1, 1, 1), 9999);
        due("what he leaves runs", x.later(1, 1, 0), 3);
        x.mend(1, 4, 0);
        due("no thirst", x.later(9, 1, 1), 9998);
        due("one -1", x.later(0, -1, 1), BAD);
        due("what 2 of one", x.later(0, 0, 2), BAD);
        due("what -1 of one", x.later(0, 0, -1), BAD);
        LuckShoes y = laneWith(4, 9999);
        y.mend(5, 1, 9000);
        y.mend(3, 1, 9999);
        due("all at once", y.later(1, 4, 0), 9999);
        due("what is above is lost", y.later(1, 5, 0), 9999);
        due("half stays", y.later(1, 3, 0), 5000);
        LuckShoes z = laneWith(4, 100);
        lawOf(z, "o=23?l;o=0?1;0");
        z.mend(0, 7, 22);
        due("at 22", z.later(1, 5, 0), 0);
        due("at 23", z.later(2, 5, 0), 100);
        z.mend(4, 1, 101);
        z.mend(0, 7, 0);
        due("at 0", z.later(1, 5, 0), 1);
        due("until 23", z.later(23, 5, 0), 1);
        due("behind 23", z.later(24, 5, 0), 101);
    }

    private static void all() {
        promise = 10;
        LuckShoes x = laneWith(0, 100);
        due("all", x.all(3, 0), 100);
        due("most", x.all(3, 1), 2);
        due("of like ones the least", x.all(1, 1), 0);
        due("most behind 2", x.all(2, 1), 1);
        due("in the end", x.all(48, 1), 5);
        due("n 49", x.all(49, 0), BAD);
        due("n -1", x.all(-1, 0), BAD);
        due("what -1", x.all(0, -1), BAD);
        due("what 2", x.all(0, 2), BAD);
        for (int cell = 0; cell < 36; cell++) {
            x.mend(cell, 1, 9999);
        }
        due("as much as there can be", x.all(0, 0), 36 * 9999);
        due("of like ones", x.all(0, 1), 0);
    }

    private static void still() {
        promise = 11;
        LuckShoes x = laneWith(4, 3);
        due("3, 2, 1", x.still(), 2);
        LuckShoes y = laneWith(4, 48);
        lawOf(y, "1");
        due("48 hours", y.still(), 48);
        y.mend(4, 1, 49);
        due("49 hours", y.still(), NOT);
        y.mend(4, 1, 0);
        due("at once", y.still(), 0);
        y.person(5);
        y.mend(5, 1, 6);
        due("while he drinks", y.still(), 2);
        y.mend(0, 5, 1);
        due("a dry one", y.still(), 0);
        LuckShoes z = laneWith(4, 9);
        lawOf(z, "o>3");
        due("still before it runs", z.still(), 0);
        z.mend(0, 7, 4);
        due("it runs", z.still(), 9);
    }

    private static void rich() {
        promise = 12;
        LuckShoes x = new LuckShoes();
        due("nobody", x.rich(0, 0), BAD);
        x.person(5);
        x.mend(0, 4, 1);
        x.mend(5, 1, 9999);
        due("0", x.rich(0, 0), 0);
        due("1", x.rich(0, 1), 1);
        due("48", x.rich(0, 48), 48);
        due("49", x.rich(0, 49), NOT);
        due("-1", x.rich(0, -1), BAD);
        due("10000", x.rich(0, 10000), BAD);
        due("9999", x.rich(0, 9999), NOT);
        due("one -1", x.rich(-1, 0), BAD);
        due("one 1", x.rich(1, 0), BAD);
        x.mend(0, 6, 9999);
        due("he has it", x.rich(0, 9999), 0);
    }

    private static void sinkAndBasin() {
        promise = 13;
        LuckShoes x = lane();
        due("where", x.sink(0, 0), 5);
        due("steps", x.sink(0, 1), 5);
        due("from above", x.sink(6, 1), 6);
        due("itself", x.sink(12, 0), 12);
        due("no steps", x.sink(12, 1), 0);
        due("cell -1", x.sink(-1, 0), BAD);
        due("cell 36", x.sink(36, 0), BAD);
        due("what 2", x.sink(0, 2), BAD);
        due("what -1", x.sink(0, -1), BAD);
        everyHoleAndHill();
        promise = 14;
        due("the last", x.basin(5), 4095);
        due("on the way", x.basin(2), 455);
        due("itself", x.basin(12), 4096);
        due("the greatest bit", x.basin(35), 1L << 35);
        due("sinks", x.basin(-1), 68719472672L);
        due("-2", x.basin(-2), NO_LONG);
        due("36", x.basin(36), NO_LONG);
    }

    /** Luck runs into a hole from all cells beside it, and no more when it is filled. */
    private static void everyHoleAndHill() {
        LuckShoes x = new LuckShoes();
        for (int hole = 0; hole < 36; hole++) {
            if (hole % 6 == 0) {
                x = plain(1);
            }
            x.mend(hole, 0, 0);
            for (int cell = 0; cell < 36; cell++) {
                int far = Math.abs(hole / 6 - cell / 6) + Math.abs(hole % 6 - cell % 6);
                due("cell " + cell + " with a hole at " + hole, x.sink(cell, 0), far < 2 ? hole : cell);
            }
            x.mend(hole, 0, 1);
            due("filled", x.basin(-1), (1L << 36) - 1);
        }
    }

    private static LuckShoes plain(int height) {
        LuckShoes x = new LuckShoes();
        for (int cell = 0; cell < 36; cell++) {
            x.mend(cell, 0, height);
        }
        return x;
    }

    private static void fall() {
        promise = 15;
        LuckShoes x = lane();
        x.person(5);
        x.mend(0, 4, 99);
        due("not yet", x.fall(500, 10, 0), 0);
        due("drunk", x.fall(501, 10, 0), 10);
        due("it stands", x.fall(500, 10, -1), 10);
        due("it is gone", x.fall(501, 10, -1), 0);
        due("nothing is poured", x.of(5, 1), 0);
        due("led", x.led(3), 0);
        x.mend(12, 1, 9995);
        due("9999 at most", x.fall(1200, 100, -1), 4);
        due("the greatest", x.fall(3548, 9999, -1), 9999);
        int[][] bad = {{3600, 1, 0}, {49, 1, 0}, {-1, 1, 0}, {0, 0, 0}, {0, 10000, 0}, {0, 1, 1}, {0, 1, -2},
            {MIN, 1, 0}, {MAX, 1, 0}, {0, -1, -1}};
        for (int[] of : bad) {
            due("fall(" + of[0] + ", " + of[1] + ", " + of[2] + ")", x.fall(of[0], of[1], of[2]), VOID);
        }
        x.mend(4, 1, 40);
        lawOf(x, "l<50?l;0");
        due("less than without it", x.fall(402, 20, 0), -40);
        due("more luck", x.fall(402, 20, -1), 60);
    }

    private static void shoes() {
        promise = 16;
        LuckShoes x = laneWith(4, 60);
        due("nobody", x.shoes(0, 0, 0), BAD);
        x.person(4);
        due("none is wanted", x.shoes(0, 40019, 0), 0);
        due("none", x.shoes(0, 40019, 1), -9);
        due("one", x.shoes(0, 40020, 0), 1);
        due("that", x.shoes(0, 40020, 1), 4);
        due("no shoes do it", x.shoes(0, 40021, 0), NOT);
        due("no shoes do it", x.shoes(0, 40021, 1), NOT);
        due("no shoe hangs", x.of(4, 2), 0);
        due("t 0", x.shoes(0, 0, 1), -9);
        due("t 12", x.shoes(0, 120030, 0), NOT);
        due("t 12", x.shoes(0, 129999, 0), NOT);
        due("t 13", x.shoes(0, 130000, 0), BAD);
        due("below 0", x.shoes(0, -1, 0), BAD);
        due("what 2", x.shoes(0, 0, 2), BAD);
        due("what -1", x.shoes(0, 0, -1), BAD);
        due("one -1", x.shoes(-1, 0, 0), BAD);
        x.mend(4, 2, 1);
        due("it hangs already", x.shoes(0, 40020, 0), 0);
        due("it can't hang twice", x.shoes(0, 40021, 0), NOT);
        LuckShoes y = laneWith(3, 10);
        y.mend(10, 1, 10);
        y.person(4);
        lawOf(y, "s=1?l/2;l");
        due("one of several", y.shoes(0, 40008, 0), 1);
        due("the least", y.shoes(0, 40008, 1), 3);
        due("one", y.shoes(0, 40012, 1), 4);
        due("two", y.shoes(0, 50013, 0), 2);
        due("the least two", y.shoes(0, 50013, 1), 112);
        due("not three", y.shoes(0, 50014, 0), NOT);
        y.mend(4, 2, 2);
        due("points down may be turned up", y.shoes(0, 50013, 1), 112);
        LuckShoes z = laneWith(0, 10);
        z.mend(7, 1, 10);
        z.person(1);
        lawOf(z, "s=1?l/2;l");
        due("the first cell", z.shoes(0, 40008, 1), 0);
        due("one is told by how many", z.shoes(0, 40012, 0), 1);
        due("one", z.shoes(0, 40012, 1), 1);
        due("two are told by how many", z.shoes(0, 50013, 0), 2);
        due("0 and 1", z.shoes(0, 50013, 1), 1);
    }

    private static void seat() {
        promise = 17;
        LuckShoes x = laneWith(3, 30);
        due("nobody", x.seat(0, 0, 0), BAD);
        x.person(20);
        x.mend(0, 6, 70);
        due("all are like", x.seat(0, 0, 0), 0);
        due("what he has", x.seat(0, 0, 1), 70);
        due("there is luck", x.seat(0, 1, 0), 3);
        due("so much", x.seat(0, 1, 1), 75);
        x.mend(2, 1, 5);
        due("of like ones", x.seat(0, 1, 0), 2);
        due("he sits there still", x.of(0, 3), 20);
        due("t 24", x.seat(0, 24, 0), 5);
        due("t 24: 1 stays in each of 2, 3, 4", x.seat(0, 24, 1), 70 + 35 - 3);
        due("t 25", x.seat(0, 25, 0), BAD);
        due("t -1", x.seat(0, -1, 0), BAD);
        due("what 2", x.seat(0, 0, 2), BAD);
        due("one 1", x.seat(1, 0, 0), BAD);
        x.mend(0, 5, 1);
        due("a dry one", x.seat(0, 9, 0), 0);
    }

    private static void judge() {
        promise = 18;
        LuckShoes x = laneWith(0, 100);
        due("nothing", x.judge(0, 0), -11);
        shorts(x, 0, 100, 50, 25, 13);
        due("all is so", x.judge(0, 0), NOT);
        due("another cell", x.judge(0, 1), 0);
        x.put(0, 2, 24);
        due("the first that is not so", x.judge(0, 0), 2);
        due("shelf 6", x.judge(6, 0), BAD);
        due("shelf -1", x.judge(-1, 0), BAD);
        due("cell 36", x.judge(0, 36), BAD);
        due("cell -1 of nothing", x.judge(1, -1), BAD);
        for (int sort = 0; sort < 5; sort++) {
            x.row(2, sort, 0);
            due("sort " + sort, x.judge(2, 0), sort == 1 ? NOT : -12);
        }
        x.body(0);
        x.keep(2, 0);
        due("a shoe", x.judge(2, 0), -12);
        x.row(3, 1, 60);
        x.put(3, 49, 5);
        due("49 at most count", x.judge(3, 30), NOT);
        x.put(3, 48, 5);
        due("the 49th counts", x.judge(3, 30), 48);
        x.put(3, 0, -1);
        due("below 0", x.judge(3, 30), 0);
    }

    private static void seen() {
        promise = 19;
        LuckShoes x = laneWith(0, 100);
        due("nothing", x.seen(0, 0, 0), -11);
        shorts(x, 0, 100, 50);
        due("none hangs", x.seen(0, 0, 0), 1);
        x.put(0, 1, 20);
        due("points up", x.seen(0, 0, 0), 2);
        x.put(0, 1, 0);
        due("points down", x.seen(0, 0, 0), 4);
        x.put(0, 1, 1);
        due("none", x.seen(0, 0, 0), 0);
        x.mend(0, 1, 40);
        shorts(x, 0, 40, 20);
        due("none or up", x.seen(0, 0, 0), 3);
        due("another cell", x.seen(0, 7, 0), 7);
        due("the shoe hangs as it did", x.of(0, 2), 0);
        shorts(x, 1, 0, 10);
        due("how many", x.seen(1, 100, 1), 2);
        due("the least", x.seen(1, 100, 2), 20);
        shorts(x, 1, 0, 49);
        due("98, 99", x.seen(1, 100, 1), 2);
        due("98", x.seen(1, 100, 2), 98);
        shorts(x, 1, 0, 50);
        due("100 is none", x.seen(1, 100, 1), 0);
        due("none is least", x.seen(1, 100, 2), NOT);
        due("of itself", x.seen(0, 0, 1), 1);
        due("of itself", x.seen(0, 0, 2), 40);
        due("from elsewhere, right", x.seen(0, 30, 1), 100);
        due("from elsewhere, right", x.seen(0, 30, 2), 0);
        due("from elsewhere, wrong", x.seen(1, 130, 1), 0);
        due("from elsewhere, wrong", x.seen(1, 130, 2), NOT);
        due("luck stays", x.of(0, 1), 40);
        due("told 36", x.seen(0, 36, 0), BAD);
        due("seen 36", x.seen(0, 3600, 0), BAD);
        due("greatest", x.seen(0, 3535, 0), 0);
        due("-1", x.seen(0, -1, 0), BAD);
        due("what 3", x.seen(0, 0, 3), BAD);
        due("what -1 of nothing", x.seen(5, 0, -1), BAD);
        due("shelf 6", x.seen(6, 0, 0), BAD);
        x.row(2, 2, 1);
        due("ints", x.seen(2, 0, 0), -12);
    }

    private static void bets() {
        promise = 20;
        LuckShoes x = new LuckShoes();
        due("nothing", x.bets(0, 0), -11);
        due("shelf 6", x.bets(6, 0), BAD);
        due("shelf -1", x.bets(-1, 0), BAD);
        due("what 2 of nothing", x.bets(0, 2), BAD);
        due("what -1", x.bets(0, -1), BAD);
        x.row(0, 3, 4);
        due("longs", x.bets(0, 0), -12);
        x.row(0, 1, 4);
        due("no ways", x.bets(0, 0), 0);
        due("no way", x.bets(0, 1), NOT);
        shorts(x, 0, 200, 200);
        due("together 1", x.bets(0, 0), 0);
        due("of like ones the least", x.bets(0, 1), 0);
        shorts(x, 0, 200, 201);
        due("a little below", x.bets(0, 0), 1);
        due("it pays most", x.bets(0, 1), 1);
        shorts(x, 0, 999, 0, 1);
        due("ended by 0", x.bets(0, 0), 1);
        shorts(x, 0, 999, 1000, 1);
        due("ended by 1000", x.bets(0, 0), 1);
        shorts(x, 0, 999, -5, 1);
        due("ended by -5", x.bets(0, 0), 1);
        shorts(x, 0, 1000, 200);
        due("ended at once", x.bets(0, 1), NOT);
        shorts(x, 0, 601, 601, 601, 601, 601, 601, 999);
        due("6 at most", x.bets(0, 0), 1);
        due("6 at most", x.bets(0, 1), 0);
        shorts(x, 0, 600, 600, 600, 600, 600, 600);
        due("6 that are 1", x.bets(0, 0), 0);
    }

    private static void margin() {
        promise = 21;
        LuckShoes x = new LuckShoes();
        due("nothing", x.margin(0, 0), NO_LONG);
        due("shelf 6", x.margin(6, 0), NO_LONG);
        x.row(0, 2, 1);
        due("ints", x.margin(0, 0), NO_LONG);
        x.row(0, 1, 0);
        due("no ways", x.margin(0, 0), 0);
        due("no ways", x.margin(0, 1), 1);
        due("part 2", x.margin(0, 2), NO_LONG);
        due("part -1", x.margin(0, -1), NO_LONG);
        shorts(x, 0, 200, 200);
        due("1", x.margin(0, 0), 1);
        due("by 1", x.margin(0, 1), 1);
        shorts(x, 0, 250, 400, 300);
        due("59", x.margin(0, 0), 59);
        due("by 60", x.margin(0, 1), 60);
        shorts(x, 0, 1, 1, 1, 1, 1, 1, 1);
        due("600", x.margin(0, 0), 600);
        shorts(x, 0, 997, 991, 983, 977, 971, 967);
        long below = 997L * 991 * 983 * 977 * 971 * 967;
        long above = 100 * (below / 997 + below / 991 + below / 983 + below / 977 + below / 971 + below / 967);
        due("primes above", x.margin(0, 0), above);
        due("primes below", x.margin(0, 1), below);
    }

    private static void byTurns() {
        promise = 22;
        LuckShoes x = laneWith(3, 30);
        due("nobody", x.byTurns(1, 12, 0), VOID);
        x.person(5);
        due("one", x.byTurns(1, 12, 0), VOID);
        x.person(4);
        x.mend(0, 4, 99);
        x.mend(1, 4, 99);
        due("once", x.byTurns(1, 12, 0), -10);
        due("once", x.byTurns(1, 12, 1), 3);
        due("twice", x.byTurns(1, 22, 0), -15);
        due("twice", x.byTurns(1, 22, 1), 6);
        due("three times", x.byTurns(1, 32, 0), -10);
        due("three times", x.byTurns(1, 32, 1), 6);
        due("the other first", x.byTurns(10, 12, 0), 15);
        due("the other first", x.byTurns(10, 12, 1), 6);
        due("another row", x.byTurns(1, 512, 0), -15);
        due("t 0", x.byTurns(1, 10, 0), 0);
        due("t 0", x.byTurns(1, 10, 1), 6);
        due("no shoe was turned", x.of(3, 2), 0);
        x.mend(3, 2, 1);
        due("2 behind 1", x.byTurns(10, 12, 1), 3);
        due("2 behind 1", x.byTurns(10, 12, 0), 30);
        x.mend(3, 2, 2);
        due("0 behind 2", x.byTurns(1, 12, 0), -15);
        LuckShoes y = laneWith(0, 30);
        y.person(1);
        y.person(20);
        due("the first X", y.byTurns(10, 12, 0), -5);
        due("like ones: none", y.byTurns(10, 12, 1), 6);
        y.mend(0, 4, 99);
        due("the first X", y.byTurns(10, 12, 0), -10);
        due("the first X", y.byTurns(10, 12, 1), 0);
        int[][] bad = {{0, 12, 0}, {11, 12, 0}, {2, 12, 0}, {20, 12, 0}, {-1, 12, 0}, {1, 612, 0}, {1, 2, 0},
            {1, 42, 0}, {1, 17, 0}, {1, -12, 0}, {1, 12, 2}, {1, 12, -1}, {MIN, 12, 0}, {1, MIN, 0}, {MAX, MAX, 0}};
        for (int[] of : bad) {
            due("byTurns(" + of[0] + ", " + of[1] + ", " + of[2] + ")", x.byTurns(of[0], of[1], of[2]), VOID);
        }
    }

    private static void drawn() {
        promise = 23;
        LuckShoes x = new LuckShoes();
        x.person(20);
        x.person(20);
        x.mend(20, 1, 9999);
        due("no carts: 3 years of 8 hours", x.drawn(5, 30800, 0), 3 * 8 * 5);
        due("all", x.drawn(5, 30800, -1), 2 * 3 * 8 * 5);
        x.mend(20, 1, 0);
        x.mend(0, 6, 1001);
        x.mend(1, 6, 9999);
        x.mend(1, 3, 3);
        for (int seed : new int[] {0, 1, -7, MIN, MAX}) {
            int z = seed;
            int whole = 0;
            int other = 0;
            for (int year = 0; year < 30; year++) {
                int first = 1001;
                int second = 9999;
                for (int hour = 0; hour < 40; hour++) {
                    z = z * 1103515245 + 12345;
                    boolean comes = (z >>> 16) % 12 < 7;
                    first = comes && (z >>> 8) % 36 == 20 ? first / 2 : first;
                    second = comes && (z >>> 8) % 36 == 3 ? second / 2 : second;
                }
                whole += first;
                other += second;
            }
            due("seed " + seed, x.drawn(seed, 304007, 0), whole);
            due("seed " + seed, x.drawn(seed, 304007, -1), whole + other);
        }
        due("has stays", x.of(0, 6), 1001);
        due("12 carts", x.drawn(0, 10112, 0) >= 500 ? 1 : 0, 1);
        int[] bad = {100, 310100, 10000, 14100, 10113, -10100, MIN, MAX};
        for (int nmc : bad) {
            due("nmc " + nmc, x.drawn(0, nmc, 0), BAD);
        }
        due("one 2", x.drawn(0, 10100, 2), BAD);
        due("one -2", x.drawn(0, 10100, -2), BAD);
    }

    private static void hour() {
        promise = 24;
        LuckShoes x = laneWith(4, 30);
        x.person(4);
        x.person(4);
        x.mend(1, 4, 99);
        due("drunk", x.hour(), 30);
        due("has", x.of(0, 6), 5);
        due("has", x.of(1, 6), 25);
        due("luck", x.of(4, 1), 0);
        due("hour", x.of(0, 7), 1);
        x.mend(0, 7, 23);
        due("nothing to drink", x.hour(), 0);
        due("behind 23", x.of(0, 7), 0);
        x.mend(4, 1, 9);
        x.mend(1, 5, 1);
        due("dry", x.hour(), 5);
        due("it ran", x.of(5, 1), 2);
        due("it stays", x.of(4, 1), 2);
    }

    private static void pour() {
        promise = 25;
        LuckShoes x = new LuckShoes();
        due("1", x.pour(35, 1), 1);
        due("9999 at most", x.pour(35, 9999), 9999);
        due("0", x.pour(0, 0), BAD);
        due("10000", x.pour(0, 10000), BAD);
        due("cell 36", x.pour(36, 1), BAD);
        due("cell -1", x.pour(-1, 1), BAD);
        due("as told", x.led(3), 10000);
        due("it is no change", x.count(3), 0);
    }

    private static void hang() {
        promise = 26;
        LuckShoes x = new LuckShoes();
        due("2", x.hang(35, 2), 0);
        due("1", x.hang(35, 1), 2);
        due("0", x.hang(35, 0), 1);
        due("3", x.hang(35, 3), BAD);
        due("-1", x.hang(35, -1), BAD);
        due("cell 36", x.hang(36, 0), BAD);
        due("cell -1", x.hang(-1, 0), BAD);
        due("hung", x.led(4), 3);
        due("it is no change", x.count(3), 0);
    }

    private static void moves() {
        promise = 27;
        LuckShoes x = new LuckShoes();
        due("nobody", x.moves(0, 0), BAD);
        x.person(9);
        due("from 9", x.moves(0, 35), 9);
        due("from 35", x.moves(0, 0), 35);
        due("to 36", x.moves(0, 36), BAD);
        due("to -1", x.moves(0, -1), BAD);
        due("one -1", x.moves(-1, 0), BAD);
        due("he sits in 0", x.of(0, 3), 0);
        due("it is no change", x.count(3), 0);
    }

    private static void led() {
        promise = 28;
        LuckShoes x = laneWith(4, 9999);
        x.mend(5, 1, 9999);
        x.mend(3, 1, 40);
        x.person(4);
        x.hour();
        due("hours", x.led(0), 1);
        due("drunk", x.led(1), 5);
        due("run, what is lost too", x.led(2), 4997 + 20);
        due("poured", x.led(3), 0);
        due("hung", x.led(4), 0);
        due("what -1", x.led(-1), BAD);
        due("what 5", x.led(5), BAD);
        x.later(9, 0, 0);
        due("thought is not led", x.led(0), 1);
        x.mend(4, 2, 1);
        due("mending is not hanging", x.led(4), 0);
    }

    private static void imageAndBack() {
        promise = 30;
        LuckShoes x = laneWith(4, 60);
        x.person(4);
        x.mend(0, 7, 9);
        due("none", x.back(), STATE);
        x.hour();
        promise = 29;
        due("hours", x.image(), 1);
        promise = 30;
        int changes = x.count(3);
        x.hour();
        x.pour(4, 9);
        x.hang(4, 2);
        x.moves(0, 7);
        x.person(8);
        x.mend(1, 6, 77);
        x.mend(0, 4, 50);
        x.mend(0, 0, 8);
        due("hours", x.back(), 1);
        due("luck", x.of(4, 1), 28);
        due("luck below", x.of(5, 1), 27);
        due("shoe", x.of(4, 2), 0);
        due("has", x.of(0, 6), 5);
        due("cell", x.of(0, 3), 4);
        due("hour", x.of(0, 7), 10);
        due("hours led", x.led(0), 1);
        due("drunk led", x.led(1), 5);
        due("run led", x.led(2), 27);
        due("poured led", x.led(3), 0);
        due("hung led", x.led(4), 0);
        due("who came since stays", x.count(0), 2);
        due("where he sits", x.of(1, 3), 8);
        due("what he has", x.of(1, 6), 77);
        due("thirst stays", x.of(0, 4), 50);
        due("height stays", x.of(0, 0), 8);
        due("changes stay", x.count(3), Math.min(40, changes + 3));
        x.hour();
        due("again", x.back(), 1);
        due("again", x.of(4, 1), 28);
        x.undo();
        due("undone behind it", x.of(0, 0), 5);
        x.hour();
        due("a later image", x.image(), 2);
        x.hour();
        due("a later image", x.back(), 2);
        due("the later luck", x.of(4, 1) < 28 ? 1 : 0, 1);
    }

    private static void undoAndRedo() {
        promise = 31;
        LuckShoes x = new LuckShoes();
        x.person(3);
        due("none", x.undo(), STATE);
        x.mend(0, 6, 0);
        due("the same is none", x.undo(), STATE);
        x.mend(1, 1, 10);
        x.mend(0, 3, 9);
        x.mend(0, 7, 5);
        due("hour", x.undo(), 2);
        due("hour", x.of(0, 7), 0);
        due("cell", x.undo(), 1);
        due("cell", x.of(0, 3), 3);
        promise = 32;
        due("cell again", x.redo(), 1);
        due("cell again", x.of(0, 3), 9);
        x.mend(0, 3, 9);
        due("the same ends nothing", x.redo(), 0);
        due("hour again", x.of(0, 7), 5);
        due("no more", x.redo(), STATE);
        x.undo();
        x.mend(0, 4, 6);
        due("another came behind", x.redo(), STATE);
        promise = 31;
        x.pour(1, 90);
        due("deeds are none", x.undo(), 2);
        x.undo();
        due("luck as it was ahead of the change", x.undo(), 0);
        due("luck as it was ahead of the change", x.of(1, 1), 0);
        promise = 32;
        x.pour(1, 33);
        due("luck as the change told", x.redo(), 2);
        due("luck as the change told", x.of(1, 1), 10);
        promise = 31;
        LuckShoes y = new LuckShoes();
        for (int n = 1; n <= 45; n++) {
            y.mend(0, 1, n);
        }
        due("40 at most", y.count(3), 40);
        for (int n = 39; n >= 0; n--) {
            due("undo", y.undo(), n);
            due("undone", y.of(0, 1), n + 5);
        }
        due("no more", y.undo(), STATE);
        due("the oldest are kept no more", y.of(0, 1), 5);
        promise = 32;
        for (int n = 39; n >= 0; n--) {
            due("redo", y.redo(), n);
            due("done again", y.of(0, 1), 45 - n);
        }
        due("no more", y.redo(), STATE);
        due("all again", y.of(0, 1), 45);
        LuckShoes z = new LuckShoes();
        z.mend(7, 0, 5);
        due("heights tell where luck runs", z.sink(7, 0), 1);
        z.undo();
        due("undone too", z.sink(7, 0), 7);
        z.redo();
        due("done again too", z.sink(7, 0), 1);
    }

    private static void body() {
        promise = 33;
        LuckShoes x = new LuckShoes();
        due("-1", x.body(-1), BAD);
        due("8", x.body(8), BAD);
        for (int n = 0; n < 50; n++) {
            due("body", x.body(n % 8), n);
        }
        due("one more", x.body(0), FULL);
        due("one more that is none", x.body(8), BAD);
        due("the last", x.act(49, 0, 1), 1 + 49 + 3);
    }

    private static void act() {
        promise = 34;
        LuckShoes x = new LuckShoes();
        due("no shoe", x.act(0, 0, 5), 0);
        int[][] by5 = {{5, 10, 5, 9}, {9, 18, 4, 18}, {7, -14, 7, -17}, {8, -18, 18, -24}, {12, 24, -8, 28},
            {10, -22, 0, -37}, {22, 44, 3, 37}, {15, 23, -10, 28}};
        for (int kind = 0; kind < 8; kind++) {
            x.body(kind);
            for (int act = 0; act < 4; act++) {
                due("kind " + kind + ", act " + act, x.act(kind, act, 5), by5[kind][act]);
            }
        }
        due("ran", x.count(5), 14);
        due("act 4", x.act(0, 4, 5), 0);
        due("no trace then", x.count(5), 0);
        due("no trace then", x.trace(0), BAD);
        x.act(0, 3, 1);
        due("body 8", x.act(8, 0, 5), 0);
        due("no trace then", x.count(5), 0);
        due("body -1", x.act(-1, 0, 5), 0);
        due("act -1", x.act(0, -1, 5), 0);
        due("it wraps", x.act(1, 0, MAX), MIN + 3);
        due("it wraps", x.act(6, 1, MAX), 4 * (MAX + 6));
    }

    private static void trace() {
        promise = 35;
        LuckShoes x = new LuckShoes();
        for (int kind = 0; kind < 8; kind++) {
            x.body(kind);
        }
        int[][] traces = {
            {0, 0, 1}, {0, 3, 2, 10, 1, 11}, {1, 0, 20, 1}, {1, 1, 10, 20, 1}, {2, 1, 30, 10, 1}, {3, 2, 40, 11},
            {3, 1, 41, 30, 10, 1}, {4, 2, 50, 11, 20, 1}, {5, 3, 60, 2, 41, 30, 10, 1, 40, 11}, {6, 1, 10, 70, 1},
            {7, 1, 80, 10, 20, 1, 50, 11, 20, 1}, {7, 3, 81, 2, 80, 10, 20, 1, 50, 11, 20, 1, 50, 11, 20, 1},
        };
        for (int[] of : traces) {
            x.act(of[0], of[1], 5);
            due("how many, kind " + of[0], x.count(5), of.length - 2);
            for (int i = 2; i < of.length; i++) {
                due("trace of kind " + of[0] + ", act " + of[1], x.trace(i - 2), of[i]);
            }
            due("behind it", x.trace(of.length - 2), BAD);
        }
        due("-1", x.trace(-1), BAD);
        due("24", x.trace(24), BAD);
        due("MAX", x.trace(MAX), BAD);
    }

    private static void keep() {
        promise = 36;
        LuckShoes x = new LuckShoes();
        due("no such shoe", x.keep(0, 0), BAD);
        x.body(3);
        due("shelf 6", x.keep(6, 0), BAD);
        due("shelf -1", x.keep(-1, -1), BAD);
        due("body -2", x.keep(0, -2), BAD);
        due("body 1", x.keep(0, 1), BAD);
        due("a shoe", x.keep(5, 0), 1);
        due("it is there", x.taken(5, 0), 3);
        due("nothing", x.keep(5, -1), 1);
        due("it is gone", x.taken(5, 0), -11);
        x.row(5, 0, 1);
        due("nothing in place of a row", x.keep(5, -1), 1);
        due("it is gone", x.put(5, 0, 1), -11);
    }

    private static void row() {
        promise = 37;
        LuckShoes x = new LuckShoes();
        due("shelf 6", x.row(6, 0, 0), BAD);
        due("shelf -1", x.row(-1, 0, -1), BAD);
        due("sort 5", x.row(0, 5, 0), BAD);
        due("sort -1", x.row(0, -1, -1), BAD);
        due("61", x.row(0, 0, 61), BAD);
        due("MAX", x.row(0, 0, MAX), BAD);
        due("-1", x.row(0, 0, -1), -14);
        due("MIN", x.row(0, 0, MIN), -14);
        due("nothing is there", x.put(0, 0, 1), -11);
        for (int sort = 0; sort < 5; sort++) {
            due("60", x.row(sort, sort, 60), 1);
            due("0 at first", x.element(sort, 59), 0);
            due("the last", x.put(sort, 59, 1), 1);
            due("60", x.put(sort, 60, 1), -13);
        }
        due("anew", x.row(0, 0, 60), 1);
        due("0 again", x.element(0, 59), 0);
        due("-1 leaves it", x.row(1, 1, -1), -14);
        due("it is there", x.element(1, 59), 1);
        due("empty", x.row(2, 2, 0), 1);
        due("no element", x.put(2, 0, 1), -13);
    }

    private static void put() {
        promise = 38;
        LuckShoes x = new LuckShoes();
        due("shelf 6", x.put(6, 0, 0), BAD);
        due("shelf -1", x.put(-1, 0, 0), BAD);
        due("nothing", x.put(0, 99, 0), -11);
        x.body(0);
        x.keep(0, 0);
        due("a shoe", x.put(0, 99, 0), -12);
        long[] given = {0x123456789ABCDEF0L, -1, 1L << 40, Long.MIN_VALUE, 128, 32768, 1L << 31, 0, 1, 2, 0};
        for (int sort = 0; sort < 5; sort++) {
            x.row(1, sort, 3);
            due("-1", x.put(1, -1, 0), -13);
            due("3", x.put(1, 3, 0), -13);
            due("MIN", x.put(1, MIN, 0), -13);
            for (long v : given) {
                due("put", x.put(1, 2, v), 1);
                long kept = sort == 0 ? (byte) v : sort == 1 ? (short) v : sort == 2 ? (int) v
                    : sort == 3 ? v : v != 0 ? 1 : 0;
                due("sort " + sort + " of " + v, x.element(1, 2), kept);
            }
            due("others stay", x.element(1, 1), 0);
        }
    }

    private static void element() {
        promise = 39;
        LuckShoes x = new LuckShoes();
        due("shelf 6", x.element(6, 0), NO_LONG);
        due("nothing", x.element(0, 0), NO_LONG);
        x.row(0, 3, 2);
        x.put(0, 0, -7);
        due("0", x.element(0, 0), -7);
        due("2", x.element(0, 2), NO_LONG);
        due("-1", x.element(0, -1), NO_LONG);
        x.body(0);
        x.keep(0, 0);
        due("a shoe", x.element(0, 0), NO_LONG);
    }

    private static void shift() {
        promise = 40;
        LuckShoes x = new LuckShoes();
        due("shelf 6", x.shift(6, 0, 0, 0, 0), BAD);
        due("other 6", x.shift(0, 0, 6, 0, 0), BAD);
        due("nothing", x.shift(0, 0, 0, 0, 0), -11);
        x.body(0);
        x.keep(1, 0);
        due("nothing comes first", x.shift(1, 0, 0, 0, 0), -11);
        shorts(x, 0, 1, 2, 3, 4, 5);
        due("to a shoe", x.shift(0, 0, 1, 0, -1), -12);
        due("of a shoe", x.shift(1, 0, 1, 0, 0), -12);
        x.row(2, 0, 5);
        due("unlike sorts", x.shift(0, 0, 2, 0, 9), -12);
        due("to nothing", x.shift(0, 0, 3, 0, 9), -11);
        due("on by one", x.shift(0, 0, 0, 1, 4), 4);
        int[] then = {1, 1, 2, 3, 4};
        for (int i = 0; i < 5; i++) {
            due("as they all were", x.element(0, i), then[i]);
        }
        due("back by one", x.shift(0, 1, 0, 0, 4), 4);
        due("back by one", x.element(0, 3), 4);
        x.row(3, 1, 3);
        due("to another", x.shift(0, 2, 3, 0, 3), 3);
        due("to another", x.element(3, 0), 3);
        due("none", x.shift(0, 5, 3, 3, 0), 0);
        due("a row of 0", x.row(4, 1, 0) + x.shift(4, 0, 0, 5, 0), 1);
        int[][] places = {{-1, 0, 1}, {0, -1, 1}, {0, 0, -1}, {3, 0, 3}, {0, 1, 3}, {6, 0, 0}, {0, 4, 0},
            {MAX, 0, 1}, {0, MAX, MAX}, {1, 1, MAX}, {MIN, MIN, MIN}};
        for (int[] of : places) {
            due("place " + of[0] + ", " + of[1] + ", " + of[2], x.shift(0, of[0], 3, of[1], of[2]), -13);
        }
        due("nothing changed", x.element(3, 0), 3);
    }

    private static void taken() {
        promise = 41;
        LuckShoes x = new LuckShoes();
        due("shelf 6", x.taken(6, 0), BAD);
        due("kind 8", x.taken(0, 8), BAD);
        due("kind -1", x.taken(0, -1), BAD);
        due("nothing", x.taken(0, 0), -11);
        x.row(0, 0, 1);
        due("a row", x.taken(0, 0), -12);
        int[][] above = {{0}, {0, 1}, {0, 2}, {0, 2, 3}, {0, 1, 4}, {0, 2, 3, 5}, {0, 6}, {0, 1, 4, 7}};
        for (int kind = 0; kind < 8; kind++) {
            x.keep(1, x.body(kind));
            for (int k = 0; k < 8; k++) {
                boolean is = false;
                for (int one : above[kind]) {
                    is |= one == k;
                }
                due("kind " + kind + " for " + k, x.taken(1, k), is ? kind : -12);
            }
        }
    }

    private static void count() {
        promise = 42;
        LuckShoes x = new LuckShoes();
        x.person(0);
        x.person(0);
        x.mend(3, 1, 5);
        x.pour(0, 1);
        x.pour(35, 1);
        x.mend(5, 1, 5);
        x.undo();
        x.feed(1);
        x.feed(2);
        x.feed(3);
        x.body(1);
        x.act(0, 1, 0);
        int[] due = {2, 3, 3, 1, 1, 3};
        for (int what = 0; what < 6; what++) {
            due("count(" + what + ")", x.count(what), due[what]);
        }
        due("-1", x.count(-1), BAD);
        due("6", x.count(6), BAD);
        due("MIN", x.count(MIN), BAD);
    }
}
