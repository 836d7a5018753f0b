/**
 * "What is answered so changes nothing", and nothing is changed by what only asks: two objects are made alike, one
 * of them is asked what it refuses, then both must answer all that follows alike, to the bottom of what can be
 * undone and of THE TAPE.
 */
public final class LuckShoesRefusals {
    private static final int BAD = -1, NOT = -2, FULL = -3, STATE = -5, VOID = -2000000000;
    private static final long NO_LONG = Long.MIN_VALUE;
    private static final int MIN = Integer.MIN_VALUE, MAX = Integer.MAX_VALUE;
    private static final int MOST_CALLS = 512;
    private static int wrong = 0;
    private static int looked = 0;

    private interface Maker {
        LuckShoes made();
    }

    private interface Call {
        long on(LuckShoes x);
    }

    /** All answers by which two objects could differ. */
    private static final class Answers {
        final long[] answers = new long[MOST_CALLS];
        int count = 0;

        void add(long answer) {
            answers[count] = answer;
            count++;
        }
    }

    public static void main(String[] args) {
        wrongCellsAndPeople();
        wrongNumbersOfMend();
        wrongHours();
        wrongBets();
        wrongDeeds();
        wrongShelves();
        wrongShifts();
        wrongActs();
        peopleThatDontCome();
        whatIsFull();
        whatThereIsNone();
        onlyAsked();
        faults();
        System.out.println(looked + " calls that change nothing, " + wrong + " wrong");
        if (wrong != 0) {
            System.exit(1);
        }
    }

    private static void refused(String name, long want, Call call) {
        refused(name, LuckShoesRefusals::inUse, want, call);
    }

    private static void refused(String name, Maker maker, long want, Call call) {
        looked++;
        LuckShoes x = maker.made();
        long got = call.on(x);
        if (got != want) {
            wrong++;
            System.out.println(name + " answered " + got + ", due is " + want);
        }
        same(name, x, maker.made());
    }

    private static void asked(String name, Call call) {
        looked++;
        LuckShoes x = inUse();
        call.on(x);
        same(name, x, inUse());
    }

    private static void same(String name, LuckShoes x, LuckShoes y) {
        Answers of = all(x);
        Answers due = all(y);
        for (int i = 0; i < due.count; i++) {
            if (of.answers[i] != due.answers[i]) {
                wrong++;
                System.out.println(name + " changed something: answer " + i + " behind it was " + of.answers[i]
                    + ", due is " + due.answers[i]);
                return;
            }
        }
    }

    private static void feed(LuckShoes x, String text) {
        for (int i = 0; i < text.length(); i++) {
            x.feed(text.charAt(i));
        }
    }

    /** A town with all that can stand in an object; not full of anything. */
    private static LuckShoes inUse() {
        LuckShoes x = new LuckShoes();
        feed(x, "l/(s+2);1");
        x.law();
        int[] heights = {3, 1, 4, 1, 5, 9, 2, 6, 5, 3, 5, 8};
        for (int cell = 0; cell < 36; cell += 3) {
            x.mend(cell, 0, heights[cell / 3]);
            x.mend(cell, 1, 11 * cell + 7);
        }
        for (int one = 0; one < 3; one++) {
            x.person(9 * one);
            x.mend(one, 6, 100 * one);
        }
        x.mend(1, 4, 20);
        x.mend(2, 5, 1);
        x.mend(9, 2, 1);
        x.mend(0, 7, 21);
        x.body(3);
        x.body(7);
        x.body(0);
        x.row(0, 0, 4);
        x.row(1, 1, 4);
        x.keep(2, 1);
        x.row(4, 3, 3);
        x.row(5, 4, 2);
        for (int i = 0; i < 4; i++) {
            x.put(0, i, 20 + i);
            x.put(1, i, 200 + i);
            x.put(4, i, 1L << 40 + i);
        }
        x.hour();
        x.image();
        x.hour();
        x.pour(3, 50);
        x.hang(3, 2);
        x.moves(1, 12);
        x.undo();
        x.undo();
        x.act(1, 3, 5);
        feed(x, "s*9+");
        return x;
    }

    /** Eight people, a full tape, 50 bodies, 40 changes. */
    private static LuckShoes full() {
        LuckShoes x = new LuckShoes();
        for (int one = 0; one < 8; one++) {
            x.person(one);
        }
        for (int n = 0; n < 50; n++) {
            x.body(n % 8);
        }
        for (int n = 0; n < 60; n++) {
            feed(x, n < 59 ? "l+" : "ll");
        }
        for (int n = 0; n < 41; n++) {
            x.mend(n % 4, 1, n + 1);
        }
        return x;
    }

    private static LuckShoes fresh() {
        return new LuckShoes();
    }

    private static Answers all(LuckShoes x) {
        Answers a = new Answers();
        whatStands(x, a);
        whatIsOnShelves(x, a);
        for (int i = 0; i < 14; i++) {
            a.add(x.trace(i));
        }
        a.add(x.later(3, 4, 0));
        a.add(x.all(9, 0));
        a.add(x.runs(3));
        a.add(x.basin(-1));
        a.add(x.redo());
        a.add(x.redo());
        a.add(x.redo());
        a.add(x.of(0, 7));
        for (int n = 0; n < 42; n++) {
            a.add(x.undo());
        }
        someStands(x, a);
        a.add(x.back());
        someStands(x, a);
        a.add(x.law());
        a.add(x.runs(3));
        x.feed('7');
        a.add(x.law());
        a.add(x.all(2, 0));
        a.add(x.person(0));
        a.add(x.body(0));
        a.add(x.image());
        return a;
    }

    private static void whatStands(LuckShoes x, Answers a) {
        for (int what = 0; what < 3; what++) {
            for (int cell = 0; cell < 36; cell++) {
                a.add(x.of(cell, what));
            }
        }
        for (int what = 3; what < 7; what++) {
            for (int one = 0; one < 4; one++) {
                a.add(x.of(one, what));
            }
        }
        a.add(x.of(0, 7));
        for (int what = 0; what < 6; what++) {
            a.add(x.count(what));
            a.add(x.led(what));
        }
    }

    private static void someStands(LuckShoes x, Answers a) {
        for (int cell = 0; cell < 12; cell++) {
            a.add(x.of(cell, 1));
        }
        for (int one = 0; one < 3; one++) {
            a.add(x.of(one, 6));
            a.add(x.of(one, 3));
        }
        a.add(x.of(3, 2));
        a.add(x.of(0, 7));
        a.add(x.led(0));
        a.add(x.led(2));
    }

    private static void whatIsOnShelves(LuckShoes x, Answers a) {
        for (int shelf = 0; shelf < 6; shelf++) {
            a.add(x.taken(shelf, 0));
            for (int i = 0; i < 5; i++) {
                a.add(x.element(shelf, i));
            }
        }
    }

    private static void wrongCellsAndPeople() {
        for (int cell : new int[] {-1, 36, MIN, MAX}) {
            refused("person(" + cell + ")", BAD, x -> x.person(cell));
            refused("runs(" + cell + ")", BAD, x -> x.runs(cell));
            refused("pour(" + cell + ", 5)", BAD, x -> x.pour(cell, 5));
            refused("hang(" + cell + ", 1)", BAD, x -> x.hang(cell, 1));
            refused("moves(0, " + cell + ")", BAD, x -> x.moves(0, cell));
            refused("sink(" + cell + ", 0)", BAD, x -> x.sink(cell, 0));
            refused("later(1, " + cell + ", 0)", BAD, x -> x.later(1, cell, 0));
            refused("judge(1, " + cell + ")", BAD, x -> x.judge(1, cell));
        }
        for (int one : new int[] {-1, 3, MIN, MAX}) {
            refused("moves(" + one + ", 5)", BAD, x -> x.moves(one, 5));
            refused("later(1, " + one + ", 1)", BAD, x -> x.later(1, one, 1));
            refused("rich(" + one + ", 5)", BAD, x -> x.rich(one, 5));
            refused("shoes(" + one + ", 20050, 0)", BAD, x -> x.shoes(one, 20050, 0));
            refused("seat(" + one + ", 5, 0)", BAD, x -> x.seat(one, 5, 0));
        }
        refused("basin(-2)", NO_LONG, x -> x.basin(-2));
        refused("basin(36)", NO_LONG, x -> x.basin(36));
        refused("sink(0, 2)", BAD, x -> x.sink(0, 2));
        refused("runs() of a SINK", NOT, x -> x.runs(1));
    }

    private static void wrongNumbersOfMend() {
        int[] greatest = {9, 9999, 2, 35, 99, 1, 9999, 23};
        for (int what = 0; what < 8; what++) {
            int kind = what;
            for (int v : new int[] {-1, greatest[what] + 1, MIN, MAX}) {
                refused("mend(0, " + kind + ", " + v + ")", BAD, x -> x.mend(0, kind, v));
            }
            for (int number : new int[] {-1, what < 3 ? 36 : what < 7 ? 3 : 1, MIN, MAX}) {
                refused("mend(" + number + ", " + kind + ", 1)", BAD, x -> x.mend(number, kind, 1));
                refused("of(" + number + ", " + kind + ")", BAD, x -> x.of(number, kind));
            }
        }
        for (int what : new int[] {-1, 8, MIN, MAX}) {
            refused("mend(0, " + what + ", 1)", BAD, x -> x.mend(0, what, 1));
            refused("of(0, " + what + ")", BAD, x -> x.of(0, what));
        }
        asked("mend() to the same HEIGHT", x -> x.mend(3, 0, x.of(3, 0)));
        asked("mend() to the same LUCK", x -> x.mend(3, 1, x.of(3, 1)));
        asked("mend() to the same HAS", x -> x.mend(1, 6, x.of(1, 6)));
        asked("mend() to the same HOUR", x -> x.mend(0, 7, x.of(0, 7)));
    }

    private static void wrongHours() {
        for (int n : new int[] {-1, 49, MIN, MAX}) {
            refused("later(" + n + ", 0, 0)", BAD, x -> x.later(n, 0, 0));
            refused("all(" + n + ", 0)", BAD, x -> x.all(n, 0));
        }
        refused("later(0, 0, 2)", BAD, x -> x.later(0, 0, 2));
        refused("all(0, 2)", BAD, x -> x.all(0, 2));
        refused("rich(0, -1)", BAD, x -> x.rich(0, -1));
        refused("rich(0, 10000)", BAD, x -> x.rich(0, 10000));
        refused("rich(2, 9999)", NOT, x -> x.rich(2, 9999));
        refused("fall(49, 5, 0)", VOID, x -> x.fall(49, 5, 0));
        refused("fall(-1, 5, 0)", VOID, x -> x.fall(-1, 5, 0));
        refused("fall(3600, 5, 0)", VOID, x -> x.fall(3600, 5, 0));
        refused("fall(305, 0, 0)", VOID, x -> x.fall(305, 0, 0));
        refused("fall(305, 10000, 0)", VOID, x -> x.fall(305, 10000, 0));
        refused("fall(305, 5, 3)", VOID, x -> x.fall(305, 5, 3));
        refused("fall(305, 5, -2)", VOID, x -> x.fall(305, 5, -2));
        refused("shoes(0, 130000, 0)", BAD, x -> x.shoes(0, 130000, 0));
        refused("shoes(0, -1, 0)", BAD, x -> x.shoes(0, -1, 0));
        refused("shoes(0, 0, 2)", BAD, x -> x.shoes(0, 0, 2));
        refused("shoes(2, 49999, 0)", NOT, x -> x.shoes(2, 49999, 0));
        refused("shoes(2, 49999, 1)", NOT, x -> x.shoes(2, 49999, 1));
        refused("seat(0, 25, 0)", BAD, x -> x.seat(0, 25, 0));
        refused("seat(0, -1, 0)", BAD, x -> x.seat(0, -1, 0));
        refused("seat(0, 5, 2)", BAD, x -> x.seat(0, 5, 2));
    }

    private static void wrongBets() {
        refused("judge(3, 0)", -11, x -> x.judge(3, 0));
        refused("judge(2, 0)", -12, x -> x.judge(2, 0));
        refused("judge(0, 0)", -12, x -> x.judge(0, 0));
        refused("judge(6, 0)", BAD, x -> x.judge(6, 0));
        refused("seen(1, 3600, 0)", BAD, x -> x.seen(1, 3600, 0));
        refused("seen(1, 36, 1)", BAD, x -> x.seen(1, 36, 1));
        refused("seen(1, 303, 3)", BAD, x -> x.seen(1, 303, 3));
        refused("seen(3, 303, 1)", -11, x -> x.seen(3, 303, 1));
        refused("seen(4, 303, 1)", -12, x -> x.seen(4, 303, 1));
        refused("seen(1, 303, 2)", NOT, x -> x.seen(1, 303, 2));
        refused("bets(1, 2)", BAD, x -> x.bets(1, 2));
        refused("bets(3, 0)", -11, x -> x.bets(3, 0));
        refused("bets(0, 0)", -12, x -> x.bets(0, 0));
        refused("margin(1, 2)", NO_LONG, x -> x.margin(1, 2));
        refused("margin(3, 0)", NO_LONG, x -> x.margin(3, 0));
        for (int ab : new int[] {0, 11, 3, 30, -1, 100, MIN, MAX}) {
            refused("byTurns(" + ab + ", 213, 0)", VOID, x -> x.byTurns(ab, 213, 0));
        }
        for (int ynt : new int[] {613, 203, 243, 217, -13, MIN, MAX}) {
            refused("byTurns(1, " + ynt + ", 0)", VOID, x -> x.byTurns(1, ynt, 0));
        }
        refused("byTurns(1, 213, 2)", VOID, x -> x.byTurns(1, 213, 2));
        for (int nmc : new int[] {105, 310105, 10005, 14105, 10113, -10105, MIN, MAX}) {
            refused("drawn(1, " + nmc + ", 0)", BAD, x -> x.drawn(1, nmc, 0));
        }
        refused("drawn(1, 10105, 3)", BAD, x -> x.drawn(1, 10105, 3));
        refused("drawn(1, 10105, -2)", BAD, x -> x.drawn(1, 10105, -2));
    }

    private static void wrongDeeds() {
        for (int v : new int[] {-1, 0, 10000, MIN, MAX}) {
            refused("pour(3, " + v + ")", BAD, x -> x.pour(3, v));
        }
        for (int shoe : new int[] {-1, 3, MIN, MAX}) {
            refused("hang(3, " + shoe + ")", BAD, x -> x.hang(3, shoe));
        }
        for (int what : new int[] {-1, 5, MIN, MAX}) {
            refused("led(" + what + ")", BAD, x -> x.led(what));
        }
        for (int what : new int[] {-1, 6, MIN, MAX}) {
            refused("count(" + what + ")", BAD, x -> x.count(what));
        }
        for (int letter : new int[] {-1, 256, MIN, MAX}) {
            refused("feed(" + letter + ")", BAD, x -> x.feed(letter));
        }
    }

    private static void wrongShelves() {
        for (int shelf : new int[] {-1, 6, MIN, MAX}) {
            refused("keep(" + shelf + ", 0)", BAD, x -> x.keep(shelf, 0));
            refused("row(" + shelf + ", 0, 3)", BAD, x -> x.row(shelf, 0, 3));
            refused("put(" + shelf + ", 0, 1)", BAD, x -> x.put(shelf, 0, 1));
            refused("element(" + shelf + ", 0)", NO_LONG, x -> x.element(shelf, 0));
            refused("taken(" + shelf + ", 0)", BAD, x -> x.taken(shelf, 0));
            refused("people(" + shelf + ", 0, 1)", BAD, x -> x.people(shelf, 0, 1));
        }
        for (int shelf = 0; shelf < 6; shelf++) {
            int on = shelf;
            for (int body : new int[] {-2, 3, 50, MIN, MAX}) {
                refused("keep(" + on + ", " + body + ")", BAD, x -> x.keep(on, body));
            }
            for (int sort : new int[] {-1, 5, MIN, MAX}) {
                refused("row(" + on + ", " + sort + ", 3)", BAD, x -> x.row(on, sort, 3));
            }
            refused("row(" + on + ", 1, 61)", BAD, x -> x.row(on, 1, 61));
            refused("row(" + on + ", 1, -1)", -14, x -> x.row(on, 1, -1));
            refused("row(" + on + ", 5, -1)", BAD, x -> x.row(on, 5, -1));
            int[] refusals = {-13, -13, -12, -11, -13, -13};
            for (int i : new int[] {-1, 4, 60, MIN, MAX}) {
                refused("put(" + on + ", " + i + ", 1)", refusals[on], x -> x.put(on, i, 1));
                refused("element(" + on + ", " + i + ")", NO_LONG, x -> x.element(on, i));
            }
            refused("taken(" + on + ", 8)", BAD, x -> x.taken(on, 8));
        }
        refused("put(3, 0, 1)", -11, x -> x.put(3, 0, 1));
        refused("put(2, 0, 1)", -12, x -> x.put(2, 0, 1));
        refused("taken(2, 2)", -12, x -> x.taken(2, 2));
        refused("taken(0, 0)", -12, x -> x.taken(0, 0));
        refused("taken(3, 0)", -11, x -> x.taken(3, 0));
    }

    private static void wrongShifts() {
        refused("shift(6, 0, 0, 0, 1)", BAD, x -> x.shift(6, 0, 0, 0, 1));
        refused("shift(0, 0, -1, 0, 1)", BAD, x -> x.shift(0, 0, -1, 0, 1));
        refused("shift(3, 0, 0, 0, 1)", -11, x -> x.shift(3, 0, 0, 0, 1));
        refused("shift(0, 0, 3, 0, 1)", -11, x -> x.shift(0, 0, 3, 0, 1));
        refused("shift(0, 0, 1, 0, 1)", -12, x -> x.shift(0, 0, 1, 0, 1));
        refused("shift(0, 0, 2, 0, 1)", -12, x -> x.shift(0, 0, 2, 0, 1));
        refused("shift(2, 0, 0, 0, 1)", -12, x -> x.shift(2, 0, 0, 0, 1));
        refused("shift(2, 0, 2, 0, 1)", -12, x -> x.shift(2, 0, 2, 0, 1));
        int[][] places = {{-1, 0, 2}, {0, -1, 2}, {0, 1, 4}, {1, 0, 4}, {0, 3, 2}, {3, 0, 2}, {0, 1, -1}, {5, 0, 0},
            {0, 5, 0}, {MAX, 0, 2}, {0, MAX, 2}, {0, 1, MAX}, {MIN, 0, 2}, {0, MIN, 2}, {0, 1, MIN}};
        for (int[] of : places) {
            refused("shift(1, " + of[0] + ", 1, " + of[1] + ", " + of[2] + ")", -13,
                x -> x.shift(1, of[0], 1, of[1], of[2]));
        }
    }

    private static void wrongActs() {
        for (int kind : new int[] {-1, 8, MIN, MAX}) {
            refused("body(" + kind + ")", BAD, x -> x.body(kind));
        }
        for (int i : new int[] {-1, 14, 24, MIN, MAX}) {
            refused("trace(" + i + ")", BAD, x -> x.trace(i));
        }
    }

    private static void peopleThatDontCome() {
        for (int n : new int[] {-1, 0, 9, MIN, MAX}) {
            refused("people(0, 0, " + n + ")", BAD, x -> x.people(0, 0, n));
        }
        for (int shelf : new int[] {1, 2, 4, 5}) {
            refused("people(" + shelf + ", 0, 1)", -12, x -> x.people(shelf, 0, 1));
        }
        refused("people() of a missing row", 0, x -> x.people(3, 0, 1));
        refused("people() of one that is not so", 0, x -> x.people(0, 0, 1));
        for (int i : new int[] {-1, 2, 4, MIN, MAX}) {
            refused("people() from place " + i, 0, x -> x.people(0, i, 1));
        }
    }

    private static void whatIsFull() {
        refused("person(5) of eight", LuckShoesRefusals::full, FULL, x -> x.person(5));
        refused("person(36) of eight", LuckShoesRefusals::full, BAD, x -> x.person(36));
        refused("feed('1') of 120", LuckShoesRefusals::full, FULL, x -> x.feed('1'));
        refused("feed(256) of 120", LuckShoesRefusals::full, BAD, x -> x.feed(256));
        refused("body(3) of 50", LuckShoesRefusals::full, FULL, x -> x.body(3));
        refused("body(8) of 50", LuckShoesRefusals::full, BAD, x -> x.body(8));
        refused("mend() with 40 changes", LuckShoesRefusals::full, BAD, x -> x.mend(0, 1, 10000));
        refused("keep(0, 50) of 50", LuckShoesRefusals::full, BAD, x -> x.keep(0, 50));
        refused("redo() behind a change", LuckShoesRefusals::full, STATE, x -> x.redo());
    }

    private static void whatThereIsNone() {
        refused("undo() at first", LuckShoesRefusals::fresh, STATE, x -> x.undo());
        refused("redo() at first", LuckShoesRefusals::fresh, STATE, x -> x.redo());
        refused("back() at first", LuckShoesRefusals::fresh, STATE, x -> x.back());
        refused("trace(0) at first", LuckShoesRefusals::fresh, BAD, x -> x.trace(0));
        refused("mend() of nobody", LuckShoesRefusals::fresh, BAD, x -> x.mend(0, 6, 5));
        refused("moves() of nobody", LuckShoesRefusals::fresh, BAD, x -> x.moves(0, 5));
        refused("keep() of no SHOE", LuckShoesRefusals::fresh, BAD, x -> x.keep(0, 0));
        refused("put() into nothing", LuckShoesRefusals::fresh, -11, x -> x.put(0, 0, 5));
        refused("act() of no SHOE", LuckShoesRefusals::fresh, 0, x -> x.act(0, 0, 5));
        refused("law() of an empty TAPE", LuckShoesRefusals::fresh, -100, x -> x.law());
    }

    /** What is thought of, looked at, or seen leaves all as it is. */
    private static void onlyAsked() {
        asked("of()", x -> x.of(3, 1));
        asked("runs()", x -> x.runs(3));
        asked("later()", x -> x.later(48, 3, 0));
        asked("later() of one", x -> x.later(48, 1, 1));
        asked("all()", x -> x.all(48, 0) + x.all(5, 1));
        asked("still()", x -> x.still());
        asked("rich()", x -> x.rich(1, 300));
        asked("sink()", x -> x.sink(3, 0) + x.sink(3, 1));
        asked("basin()", x -> x.basin(3) + x.basin(-1));
        asked("fall()", x -> x.fall(348, 9999, 1) + x.fall(300, 5, -1));
        asked("shoes()", x -> x.shoes(1, 120200, 0) + x.shoes(1, 120200, 1));
        asked("seat()", x -> x.seat(1, 24, 0) + x.seat(1, 24, 1));
        asked("judge()", x -> x.judge(1, 3));
        asked("seen()", x -> x.seen(1, 303, 0) + x.seen(1, 303, 1) + x.seen(1, 303, 2));
        asked("bets()", x -> x.bets(1, 0) + x.bets(1, 1));
        asked("margin()", x -> x.margin(1, 0) + x.margin(1, 1));
        asked("byTurns()", x -> x.byTurns(1, 236, 0) + x.byTurns(1, 236, 1));
        asked("drawn()", x -> x.drawn(99, 304012, 0) + x.drawn(99, 304012, -1));
        asked("led()", x -> x.led(2));
        asked("trace()", x -> x.trace(3));
        asked("element()", x -> x.element(1, 2));
        asked("taken()", x -> x.taken(2, 4));
        asked("count()", x -> x.count(5));
        asked("shift() of none", x -> x.shift(1, 4, 1, 0, 0));
        asked("shift() to where they are", x -> x.shift(1, 0, 1, 0, 4));
    }

    /** A FAULT empties THE TAPE, and does no more. */
    private static void faults() {
        looked++;
        LuckShoes x = inUse();
        LuckShoes y = inUse();
        long got = x.law();
        if (got != -104) {
            wrong++;
            System.out.println("a text that ends too early answered " + got + ", due is -104");
        }
        for (String text : new String[] {"s*9)", "l??", "12345", "!!!!!!!l", ""}) {
            feed(x, text);
            x.law();
        }
        feed(x, "s*9+");
        same("law() with a FAULT", x, y);
    }
}
