/**
 * The boundary cases of the document, sentence by sentence: the last number that is taken and the first that is
 * not. The answers that are due were worked out by hand, or by a sum of longs where the document tells one.
 */
public final class LuckShoesEdges {
    private static final int BAD = -1, NOT = -2, FULL = -3, STATE = -5, VOID = -2000000000;
    private static final long NO_LONG = Long.MIN_VALUE;
    private static final int MIN = Integer.MIN_VALUE, MAX = Integer.MAX_VALUE;
    private static final int BYTES = 0, SHORTS = 1, INTS = 2, LONGS = 3, BOOLEANS = 4;
    private static final String NUMBERS = "0123456789", NAMES = "lshpoc", OPENING = "(!-";
    private static final String JOINS = "|&<=>+-*/%", JOINS_BUT_COMPARING = "|&+-*/%";
    private static int wrong = 0;
    private static int looked = 0;
    private static int sentences = 0;
    private static String sentence = "";

    /** A call with one of its numbers left open. */
    private interface Open {
        long with(LuckShoes x, int v);
    }

    private static void sentence(String words) {
        sentence = words;
        sentences++;
    }

    private static void due(String call, long got, long want) {
        looked++;
        if (got != want) {
            wrong++;
            System.out.println("\"" + sentence + "\": " + call + " answered " + got + ", due is " + want);
        }
    }

    private static void taken(String call, long got, long refusal) {
        looked++;
        if (got == refusal) {
            wrong++;
            System.out.println("\"" + sentence + "\": " + call + " was refused by " + got);
        }
    }

    /** A number from least to greatest is taken; what lies beside them is refused. */
    private static void range(String call, LuckShoes x, Open open, int least, int greatest, long refusal) {
        due(call + " with " + (least - 1), open.with(x, least - 1), refusal);
        taken(call + " with " + least, open.with(x, least), refusal);
        taken(call + " with " + greatest, open.with(x, greatest), refusal);
        due(call + " with " + (greatest + 1), open.with(x, greatest + 1), refusal);
    }

    private static void wideRange(String call, LuckShoes x, Open open, int least, int greatest, long refusal) {
        range(call, x, open, least, greatest, refusal);
        due(call + " with the least int", open.with(x, MIN), refusal);
        due(call + " with the greatest int", open.with(x, MAX), refusal);
    }

    /** The first street falls from cell 0 (5 high) to cell 5 (0 high); all else is 9 high. */
    private static LuckShoes lane() {
        LuckShoes x = new LuckShoes();
        for (int cell = 0; cell < 36; cell++) {
            x.mend(cell, 0, cell < 6 ? 5 - cell : 9);
        }
        return x;
    }

    private static LuckShoes laneWith(int cell, int luck) {
        LuckShoes x = lane();
        x.mend(cell, 1, luck);
        return x;
    }

    private static int lawOf(LuckShoes x, String text) {
        for (int i = 0; i < text.length(); i++) {
            x.feed(text.charAt(i));
        }
        return x.law();
    }

    private static void row(LuckShoes x, int shelf, int sort, int... elements) {
        x.row(shelf, sort, elements.length);
        for (int i = 0; i < elements.length; i++) {
            x.put(shelf, i, elements[i]);
        }
    }

    private static LuckShoes bodies(int... kinds) {
        LuckShoes x = new LuckShoes();
        for (int kind : kinds) {
            x.body(kind);
        }
        return x;
    }

    public static void main(String[] args) {
        cells();
        streets();
        belowIsLowest();
        belowOfLikeOnes();
        numbersOfMend();
        peopleNumbers();
        theTape();
        firstBytes();
        nextBytes();
        sixOpen();
        textsThatEndTooEarly();
        linesThatCount();
        intsThatWrap();
        divisions();
        truths();
        names();
        heldWithin();
        withoutText();
        drinking();
        drySkin();
        running();
        mostLuck();
        hourBehind23();
        hoursInThought();
        mostOfLikeOnes();
        still();
        rich();
        dropsAndBasins();
        fall();
        shoesFor();
        shoesOfLikeOnes();
        seat();
        judged();
        under();
        atFirst();
        betsWays();
        betsSure();
        betsMargin();
        byTurnsRanges();
        byTurnsBest();
        drawnRanges();
        drawnCarts();
        drawnSeed();
        deeds();
        fortyChanges();
        sameNumberIsNoChange();
        doneAgain();
        deedsAreNone();
        image();
        fiftyBodies();
        acts();
        wrappingActs();
        trace();
        shelves();
        rows();
        lowestBits();
        refusals();
        shifting();
        takenFor();
        peopleFromARow();
        peopleUntilFull();
        counts();
        severalAnswers();
        System.out.println(sentences + " sentences, " + looked + " answers looked at, " + wrong + " wrong");
        if (wrong != 0) {
            System.exit(1);
        }
    }

    // ---- cells, people and their numbers

    private static void cells() {
        sentence("CELLS 0 .. 35");
        LuckShoes x = new LuckShoes();
        x.person(0);
        row(x, 1, SHORTS, 0);
        wideRange("person", x, (y, v) -> y.person(v), 0, 35, BAD);
        wideRange("mend HEIGHT", x, (y, v) -> y.mend(v, 0, 1), 0, 35, BAD);
        wideRange("mend LUCK", x, (y, v) -> y.mend(v, 1, 1), 0, 35, BAD);
        wideRange("mend SHOE", x, (y, v) -> y.mend(v, 2, 1), 0, 35, BAD);
        wideRange("mend CELL", x, (y, v) -> y.mend(0, 3, v), 0, 35, BAD);
        wideRange("of HEIGHT", x, (y, v) -> y.of(v, 0), 0, 35, BAD);
        wideRange("of LUCK", x, (y, v) -> y.of(v, 1), 0, 35, BAD);
        wideRange("of SHOE", x, (y, v) -> y.of(v, 2), 0, 35, BAD);
        wideRange("runs", x, (y, v) -> y.runs(v), 0, 35, BAD);
        wideRange("later", x, (y, v) -> y.later(1, v, 0), 0, 35, BAD);
        wideRange("sink where", x, (y, v) -> y.sink(v, 0), 0, 35, BAD);
        wideRange("sink steps", x, (y, v) -> y.sink(v, 1), 0, 35, BAD);
        wideRange("basin, of SINKS too", x, (y, v) -> y.basin(v), -1, 35, NO_LONG);
        wideRange("judge", x, (y, v) -> y.judge(1, v), 0, 35, BAD);
        wideRange("pour", x, (y, v) -> y.pour(v, 1), 0, 35, BAD);
        wideRange("hang", x, (y, v) -> y.hang(v, 1), 0, 35, BAD);
        wideRange("moves", x, (y, v) -> y.moves(0, v), 0, 35, BAD);
        range("fall", x, (y, v) -> y.fall(100 * v, 1, -1), 0, 35, VOID);
        range("seen of", x, (y, v) -> y.seen(1, 100 * v + 7, 1), 0, 35, BAD);
        range("seen by", x, (y, v) -> y.seen(1, v, 1), 0, 35, BAD);
        range("seen of 35 by", x, (y, v) -> y.seen(1, 3500 + v, 1), 0, 35, BAD);
        due("seen of 35 by 99", x.seen(1, 3599, 1), BAD);
        due("seen MAX", x.seen(1, MAX, 1), BAD);
        due("seen MIN", x.seen(1, MIN, 1), BAD);
        due("fall MAX", x.fall(MAX, 1, -1), VOID);
        due("fall MIN", x.fall(MIN, 1, -1), VOID);
        due("fall -1", x.fall(-1, 1, -1), VOID);
        due("mend(35) is of the last one", x.of(35, 1), 2);
        due("mend(0) is of the first one", x.of(0, 1), 2);
        due("no other one was mended", x.all(0, 0), 4);
    }

    /** A single hill, and a single hole: streets end where X and Y do. */
    private static void streets() {
        sentence("6 Y and X (X, Y 0 .. 5)");
        LuckShoes x = new LuckShoes();
        for (int cell = 0; cell < 36; cell++) {
            int up = cell - 6;
            int side = cell % 6 < 5 ? cell + 1 : cell + 6;
            x.mend(cell, 0, 1);
            due("a hill at " + cell, x.sink(cell, 0), cell >= 6 ? up : side);
            due("no other one runs, " + cell, x.basin(-1), (1L << 36) - 1 - (1L << cell));
            x.mend(cell, 0, 0);
        }
        for (int hole : new int[] {0, 5, 6, 11, 14, 29, 30, 35}) {
            LuckShoes y = new LuckShoes();
            for (int cell = 0; cell < 36; cell++) {
                y.mend(cell, 0, cell == hole ? 0 : 1);
            }
            long basin = 1L << hole;
            basin |= hole / 6 > 0 ? 1L << hole - 6 : 0;
            basin |= hole / 6 < 5 ? 1L << hole + 6 : 0;
            basin |= hole % 6 > 0 ? 1L << hole - 1 : 0;
            basin |= hole % 6 < 5 ? 1L << hole + 1 : 0;
            due("a hole at " + hole, y.basin(hole), basin);
        }
    }

    private static void belowIsLowest() {
        sentence("lowest, if it is lower than it");
        LuckShoes x = new LuckShoes();
        int[] ways = {8, 15, 20, 13};
        x.mend(14, 0, 5);
        for (int lowest = 0; lowest < 4; lowest++) {
            for (int way = 0; way < 4; way++) {
                x.mend(ways[way], 0, way == lowest ? 3 : 4);
            }
            due("the lowest is way " + lowest, x.sink(14, 0), x.sink(ways[lowest], 0));
            due("it comes through way " + lowest, x.basin(ways[lowest]) >> 14 & 1, 1);
        }
        sentence("none: it is a SINK");
        LuckShoes y = new LuckShoes();
        y.mend(14, 0, 4);
        for (int way : ways) {
            y.mend(way, 0, 4);
        }
        due("all as high", y.runs(14), NOT);
        due("all as high", y.sink(14, 0), 14);
        due("all as high", y.sink(14, 1), 0);
        y.mend(13, 0, 3);
        due("one is 1 lower", y.runs(14), 0);
        y.mend(13, 0, 5);
        due("one is 1 higher", y.runs(14), NOT);
        y.mend(7, 0, 0);
        y.mend(21, 0, 0);
        due("cells across a corner are not beside it", y.runs(14), NOT);
    }

    private static void belowOfLikeOnes() {
        sentence("of the CELLS up, right, down, left of it .. of like ones the first of these");
        int[] ways = {8, 15, 20, 13};
        LuckShoes x = new LuckShoes();
        x.mend(14, 0, 9);
        for (int bits = 1; bits < 16; bits++) {
            int first = -1;
            for (int way = 0; way < 4; way++) {
                boolean low = (bits >> way & 1) == 1;
                x.mend(ways[way], 0, low ? 0 : 1);
                first = low && first < 0 ? ways[way] : first;
            }
            due("low ones " + bits, x.sink(14, 0), first);
        }
    }

    private static void numbersOfMend() {
        String[] names = {"HEIGHT (0 .. 9; 0 at first)", "LUCK (0 .. 9999; 0 at first)",
            "SHOE (0 none, 1 points up, 2 points down; 0 at first)", "CELL", "THIRST (0 .. 99; 5 at first)",
            "SKIN (0, 1 dry; 0 at first)", "HAS (0 .. 9999; 0 at first)", "HOUR (0 .. 23; 0 at first)"};
        int[] greatest = {9, 9999, 2, 35, 99, 1, 9999, 23};
        int[] first = {0, 0, 0, 4, 5, 0, 0, 0};
        for (int what = 0; what < 8; what++) {
            sentence(names[what]);
            LuckShoes x = new LuckShoes();
            x.person(4);
            due("of() at first", x.of(0, what), first[what]);
            for (int bad : new int[] {-1, greatest[what] + 1, MIN, MAX}) {
                due("mend to " + bad, x.mend(0, what, bad), BAD);
                due("of() behind mend to " + bad, x.of(0, what), first[what]);
            }
            due("mend to the greatest", x.mend(0, what, greatest[what]), first[what]);
            due("of()", x.of(0, what), greatest[what]);
            due("mend to the least", x.mend(0, what, 0), greatest[what]);
            due("of()", x.of(0, what), 0);
            due("mend to the same", x.mend(0, what, 0), 0);
            due("mend beside what", x.mend(0, what, greatest[what] + 1), BAD);
            due("of() behind it", x.of(0, what), 0);
        }
        sentence("becomes v: what it was");
        for (int what = 0; what < 8; what++) {
            LuckShoes x = new LuckShoes();
            x.person(4);
            x.mend(0, what, 1);
            for (int other = 0; other < 8; other++) {
                due("of(0, " + other + ") behind mend(0, " + what + ", 1)", x.of(0, other),
                    other == what ? 1 : first[other]);
            }
        }
        sentence("HOUR (7; number 0, else BAD)");
        LuckShoes x = new LuckShoes();
        x.person(0);
        x.person(0);
        wideRange("mend HOUR of", x, (y, v) -> y.mend(v, 7, 5), 0, 0, BAD);
        wideRange("of HOUR of", x, (y, v) -> y.of(v, 7), 0, 0, BAD);
        sentence("As of mend() (0 to 7)");
        wideRange("mend what", x, (y, v) -> y.mend(0, v, 0), 0, 7, BAD);
        wideRange("of what", x, (y, v) -> y.of(0, v), 0, 7, BAD);
    }

    private static void peopleNumbers() {
        sentence("PEOPLE 0 .. 7, as they come");
        LuckShoes x = new LuckShoes();
        for (int came = 0; came < 8; came++) {
            due("nobody is " + came + " yet", x.of(came, 3), BAD);
            due("person", x.person(35 - came), came);
            due("now one is", x.of(came, 3), 35 - came);
        }
        due("a ninth", x.person(0), FULL);
        due("nobody is 8", x.of(8, 3), BAD);
        for (int what = 3; what < 7; what++) {
            int kept = what;
            wideRange("mend " + what, x, (y, v) -> y.mend(v, kept, 1), 0, 7, BAD);
            wideRange("of " + what, x, (y, v) -> y.of(v, kept), 0, 7, BAD);
        }
        wideRange("later HAS", x, (y, v) -> y.later(0, v, 1), 0, 7, BAD);
        wideRange("rich", x, (y, v) -> y.rich(v, 0), 0, 7, BAD);
        wideRange("fall, all CELLS too", x, (y, v) -> y.fall(0, 1, v), -1, 7, VOID);
        wideRange("shoes", x, (y, v) -> y.shoes(v, 0, 0), 0, 7, BAD);
        wideRange("seat", x, (y, v) -> y.seat(v, 0, 0), 0, 7, BAD);
        wideRange("drawn, all too", x, (y, v) -> y.drawn(1, 10100, v), -1, 7, BAD);
        range("drawn by 12 CARTS", x, (y, v) -> y.drawn(1, 14012, v), -1, 7, BAD);
        wideRange("moves", x, (y, v) -> y.moves(v, 0), 0, 7, BAD);
        range("byTurns, the one", x, (y, v) -> y.byTurns(10 * v + 3, 10, 0), 0, 7, VOID);
        range("byTurns, the other", x, (y, v) -> y.byTurns(v, 10, 0), 1, 7, VOID);
        LuckShoes y = new LuckShoes();
        y.person(0);
        y.person(0);
        y.person(0);
        wideRange("of three, of", y, (z, v) -> z.of(v, 4), 0, 2, BAD);
        wideRange("of three, mend", y, (z, v) -> z.mend(v, 6, 1), 0, 2, BAD);
        wideRange("of three, moves", y, (z, v) -> z.moves(v, 0), 0, 2, BAD);
        wideRange("of three, later", y, (z, v) -> z.later(0, v, 1), 0, 2, BAD);
        wideRange("of three, rich", y, (z, v) -> z.rich(v, 0), 0, 2, BAD);
        wideRange("of three, fall", y, (z, v) -> z.fall(0, 1, v), -1, 2, VOID);
        wideRange("of three, shoes", y, (z, v) -> z.shoes(v, 0, 0), 0, 2, BAD);
        wideRange("of three, seat", y, (z, v) -> z.seat(v, 0, 0), 0, 2, BAD);
        wideRange("of three, drawn", y, (z, v) -> z.drawn(1, 10100, v), -1, 2, BAD);
        range("of three, byTurns", y, (z, v) -> z.byTurns(v, 10, 0), 1, 2, VOID);
    }

    // ---- the law

    private static void theTape() {
        sentence("A byte (0 .. 255) comes to THE TAPE");
        LuckShoes x = new LuckShoes();
        wideRange("feed", x, (y, v) -> y.feed(v), 0, 255, BAD);
        due("two came", x.count(2), 2);
        sentence("THE TAPE (at most 120 bytes)");
        for (int n = 3; n <= 120; n++) {
            due("byte " + n, x.feed('l'), n);
        }
        due("byte 121", x.feed('l'), FULL);
        due("120 stay", x.count(2), 120);
        sentence("THE TAPE is empty then");
        due("a fault", x.law(), -100);
        due("empty behind a fault", x.count(2), 0);
        due("it takes again", x.feed('7'), 1);
        due("a law", x.law(), 1);
        due("empty behind a law", x.count(2), 0);
        due("an empty TAPE ends too early", x.law(), -100);
        for (int n = 1; n <= 120; n++) {
            due("byte " + n + " again", x.feed(n < 120 ? n % 2 == 0 ? '+' : '1' : '1'), n);
        }
        due("the last two are 11", x.law(), 1);
    }

    /** What a text may go on with: bytes that end a text that may stand so, and bytes that want more. */
    private static void goesOn(String ahead, String whole, String early) {
        LuckShoes x = new LuckShoes();
        int calls = 0;
        for (int b = 0; b < 256; b++) {
            if (calls + ahead.length() + 2 > 500) {
                x = new LuckShoes();
                calls = 0;
            }
            int want = whole.indexOf(b) >= 0 ? 1 : -100 - ahead.length();
            want = early.indexOf(b) >= 0 ? want - 1 : want;
            due("\"" + ahead + "\" and byte " + b, lawOf(x, ahead + (char) b), want);
            calls += ahead.length() + 2;
        }
    }

    private static void firstBytes() {
        sentence("O = a number (1 to 4 digits), a NAME, ! O, - O, ( E )");
        goesOn("", NUMBERS + NAMES, OPENING);
        goesOn("!", NUMBERS + NAMES, OPENING);
        goesOn("-", NUMBERS + NAMES, OPENING);
        goesOn("(", "", NUMBERS + NAMES + OPENING);
        for (int i = 0; i < JOINS.length(); i++) {
            goesOn("l" + JOINS.charAt(i), NUMBERS + NAMES, OPENING);
        }
        sentence("LINES, one or more, parted by ;");
        goesOn("l;", NUMBERS + NAMES, OPENING);
        goesOn("l?l;", NUMBERS + NAMES, OPENING);
        sentence("LINE: E, or E ? E");
        goesOn("l?", NUMBERS + NAMES, OPENING);
        sentence("No blanks");
        for (String text : new String[] {" l", "l ", "l +1", "l+ 1", "( l)", "1 2", "l\t", "l\n", "l;\nl"}) {
            int place = 0;
            while ((NUMBERS + NAMES + JOINS + ";(").indexOf(text.charAt(place)) >= 0) {
                place++;
            }
            due("\"" + text + "\"", lawOf(new LuckShoes(), text), -100 - place);
        }
    }

    private static void nextBytes() {
        sentence("E = A { | A }. A = B { & B }. B = S, or S < S, S = S, S > S");
        goesOn("l", "", JOINS + ";?");
        goesOn("l|l", "", JOINS + ";?");
        goesOn("l&l", "", JOINS + ";?");
        for (String compared : new String[] {"l<l", "l=l", "l>l", "l<l+l", "l+l=l*l", "!l>l", "l|l<l", "l<l&l=l",
            "l;l<l"}) {
            goesOn(compared, "", JOINS_BUT_COMPARING + ";?");
        }
        goesOn("l<l|l", "", JOINS + ";?");
        goesOn("l<l&l", "", JOINS + ";?");
        goesOn("l<(l)", "", JOINS_BUT_COMPARING + ";?");
        goesOn("(l<l)", "", JOINS + ";?");
        goesOn("(l<l", ")", JOINS_BUT_COMPARING);
        goesOn("l<(l", ")", JOINS);
        goesOn("((l", "", JOINS + ")");
        goesOn("(l)", "", JOINS + ";?");
        goesOn("!l", "", JOINS + ";?");
        goesOn("-l", "", JOINS + ";?");
        sentence("LINE: E, or E ? E");
        goesOn("l?l", "", JOINS + ";");
        goesOn("l<l?l", "", JOINS + ";");
        goesOn("l?l<l", "", JOINS_BUT_COMPARING + ";");
        goesOn("l;l", "", JOINS + ";?");
        goesOn("l?l;l", "", JOINS + ";?");
        goesOn("l?l;l?l", "", JOINS + ";");
        goesOn("(l", ")", JOINS);
        sentence("a number (1 to 4 digits)");
        goesOn("1", NUMBERS, JOINS + ";?");
        goesOn("12", NUMBERS, JOINS + ";?");
        goesOn("000", NUMBERS, JOINS + ";?");
        goesOn("1234", "", JOINS + ";?");
        goesOn("0000", "", JOINS + ";?");
        goesOn("(999", ")", JOINS + NUMBERS);
        goesOn("(9999", ")", JOINS);
        goesOn("l+9999", "", JOINS + ";?");
        goesOn("l+999", NUMBERS, JOINS + ";?");
    }

    private static void sixOpen() {
        sentence("At most 6 of ( ! - ahead of an O are open at once");
        goesOn("!!!!!", NUMBERS + NAMES, OPENING);
        goesOn("!!!!!!", NUMBERS + NAMES, "");
        goesOn("------", NUMBERS + NAMES, "");
        goesOn("(((((", "", NUMBERS + NAMES + OPENING);
        goesOn("((((((", "", NUMBERS + NAMES);
        goesOn("(!-(!-", "", NUMBERS + NAMES);
        goesOn("(!-(!", "", NUMBERS + NAMES + OPENING);
        goesOn("((((((l+", "", NUMBERS + NAMES);
        goesOn("(((((!l+", "", NUMBERS + NAMES + OPENING);
        goesOn("(((((!l<!", "", NUMBERS + NAMES);
        goesOn("((((((l)+", "", NUMBERS + NAMES + OPENING);
        goesOn("((((((l)+(", "", NUMBERS + NAMES);
        goesOn("!!!!!!l+", NUMBERS + NAMES, OPENING);
        goesOn("!!!!!!l?", NUMBERS + NAMES, OPENING);
        goesOn("l?!!!!!", NUMBERS + NAMES, OPENING);
        goesOn("l?!!!!!!", NUMBERS + NAMES, "");
        goesOn("l;!!!!!", NUMBERS + NAMES, OPENING);
        goesOn("!!!!!!l;!!!!!!", NUMBERS + NAMES, "");
        goesOn("-(-(-(l)))|------", NUMBERS + NAMES, "");
        goesOn("-(-(-(l)))|-----", NUMBERS + NAMES, OPENING);
        due("six closed again", lawOf(new LuckShoes(), "((((((l))))))"), 1);
        due("closed once too often", lawOf(new LuckShoes(), "((((((l)))))))"), -113);
    }

    private static void textsThatEndTooEarly() {
        sentence("FAULT: .. the length, if it ends too early");
        String text = "!l&(h<2)?-(s+12)*3;1234%p";
        int[] standing = {2, 8, 16, 18, 20, 21, 22, 23, 25};
        for (int length = 0; length <= text.length(); length++) {
            boolean stands = false;
            for (int one : standing) {
                stands |= one == length;
            }
            String ahead = text.substring(0, length);
            due("\"" + ahead + "\"", lawOf(new LuckShoes(), ahead), stands ? 1 : -100 - length);
        }
        StringBuilder longest = new StringBuilder();
        while (longest.length() < 120) {
            longest.append("l+");
        }
        due("120 bytes that end too early", lawOf(new LuckShoes(), longest.toString()), -220);
        longest.setCharAt(119, ')');
        due("the last of 120 bytes is at fault", lawOf(new LuckShoes(), longest.toString()), -219);
        longest.setCharAt(118, ')');
        due("the last but one is at fault", lawOf(new LuckShoes(), longest.toString()), -218);
        longest.setCharAt(118, 'l');
        longest.setLength(119);
        due("119 bytes that stand", lawOf(new LuckShoes(), longest.toString()), 1);
        sentence("-100 less its FAULT");
        LuckShoes x = laneWith(3, 100);
        due("a fault of the first text", lawOf(x, "l+"), -102);
        due("still without a text", x.runs(3), 50);
        due("a law", lawOf(x, "7"), 1);
        due("it counts", x.runs(3), 7);
        due("a fault behind it", lawOf(x, "9;"), -102);
        due("the law stays", x.runs(3), 7);
        due("a fault in the second LINE", lawOf(x, "9;*"), -102);
        due("the law stays", x.runs(3), 7);
        due("another law", lawOf(x, "8"), 1);
        due("it counts instead", x.runs(3), 8);
    }

    /** What a text gives in cell 3, 1 above cell 4, where 9999 of luck stand. */
    private static void worth(String text, long want) {
        LuckShoes x = laneWith(3, 9999);
        due("law \"" + text + "\"", lawOf(x, text), 1);
        due("what \"" + text + "\" gives", x.runs(3), want);
    }

    private static void linesThatCount() {
        sentence("The first LINE without a first E, or whose first E is not 0, counts; none: 0");
        worth("5", 5);
        worth("5;6", 5);
        worth("0;6", 0);
        worth("1?5", 5);
        worth("0?5", 0);
        worth("0?5;0?6", 0);
        worth("0?5;0?6;0?7;8;9", 8);
        worth("0?5;1?6;1?7;8", 6);
        worth("1?0;7", 0);
        worth("-1?5;7", 5);
        worth("1-1?5;7", 7);
        worth("8192*8192*64?5;7", 7);
        worth("8192*8192*32?5;7", 5);
        worth("2?5;7", 5);
        sentence("LINES, one or more");
        StringBuilder lines = new StringBuilder();
        for (int line = 1; line <= 29; line++) {
            lines.append("0?5;");
        }
        worth(lines + "1?77", 77);
        worth(lines + "7", 7);
        worth(lines + "0?7", 0);
        StringBuilder shortest = new StringBuilder("7");
        while (shortest.length() < 119) {
            shortest.append(";8");
        }
        worth(shortest.toString(), 7);
        LuckShoes x = laneWith(3, 9999);
        for (int text = 1; text <= 3; text++) {
            due("text " + text, lawOf(x, lines + "1?" + text), 1);
            due("what text " + text + " gives", x.runs(3), text);
        }
    }

    private static void intsThatWrap() {
        sentence("Ints that wrap");
        String least = "8192*8192*32";
        worth(least + "<0", 1);
        worth(least + "-1>0", 1);
        worth(least + "-1+1<0", 1);
        worth("8192*8192*16+8192*8192*16=" + least, 1);
        worth("8192*8192*64=0", 1);
        worth("-(" + least + ")=" + least, 1);
        worth("0-" + least + "=" + least, 1);
        worth(least + "/-1=" + least, 1);
        worth(least + "%-1=0", 1);
        worth(least + "<1", 1);
        worth(least + ">1", 0);
        worth("9999*9999*9999/1000/1000+3000", (int) 999700029999L / 1000 / 1000 + 3000);
        worth("9999*9999*9999%1000+3000", (int) 999700029999L % 1000 + 3000);
    }

    private static void divisions() {
        sentence("/ and % toward 0");
        worth("7/2", 3);
        worth("-7/2+10", 7);
        worth("7/-2+10", 7);
        worth("-7/-2", 3);
        worth("7%3", 1);
        worth("-7%3+10", 9);
        worth("7%-3", 1);
        worth("-7%-3+10", 9);
        worth("6/7", 0);
        worth("6%7", 6);
        sentence("by 0 they give 0");
        for (String of : new String[] {"l", "0", "7", "(0-7)", "8192*8192*32"}) {
            worth(of + "/0+40", 40);
            worth(of + "%0+40", 40);
            worth(of + "/(s-s)+40", 40);
        }
        worth("9/1", 9);
        worth("9%1+4", 4);
        worth("9/-1+10", 1);
    }

    private static void truths() {
        sentence("| & < = > ! give 1, 0; all is worked out");
        String[] one = {"5|0", "0|5", "4|3", "-1|0", "5&7", "4&3", "-1&1", "2<3", "-1<0", "3=3", "-1=-1", "4>3",
            "0>-1", "!0", "!!2", "5|1/0", "1|0&0", "1/0|1"};
        String[] none = {"0|0", "5&0", "0&5", "0&0", "3<3", "4<3", "3=4", "4=3", "3>3", "3>4", "!1", "!2", "!9999",
            "!-1", "!!0", "5&1/0", "(1|0)&0"};
        for (String text : one) {
            worth(text, 1);
            worth("(" + text + ")*7", 7);
        }
        for (String text : none) {
            worth(text, 0);
            worth("(" + text + ")+7", 7);
        }
    }

    /** A hill in a flat town, with luck upon it. */
    private static LuckShoes hill(int cell, int height, int luck) {
        LuckShoes x = new LuckShoes();
        x.mend(cell, 0, height);
        x.mend(cell, 1, luck);
        return x;
    }

    private static void names() {
        sentence("NAMES: l LUCK that is there, s SHOE, h by how much BELOW is lower, p .., o HOUR, c the CELL");
        for (int cell : new int[] {0, 5, 30, 35}) {
            LuckShoes x = hill(cell, 1, 9999);
            lawOf(x, "c");
            due("c in " + cell, x.runs(cell), cell);
        }
        for (int height : new int[] {1, 8, 9}) {
            LuckShoes x = hill(14, height, 9999);
            lawOf(x, "h");
            due("h of " + height, x.runs(14), height);
            x.mend(8, 0, height - 1);
            x.mend(15, 0, height);
            due("h to the lowest", x.runs(14), height);
            x.mend(13, 0, height);
            x.mend(20, 0, height);
            due("h of 1", x.runs(14), 1);
        }
        LuckShoes x = hill(14, 1, 9999);
        lawOf(x, "s");
        for (int shoe = 0; shoe < 3; shoe++) {
            x.mend(14, 2, shoe);
            due("s " + shoe, x.runs(14), shoe);
        }
        lawOf(x, "o");
        for (int hour : new int[] {0, 1, 22, 23}) {
            x.mend(0, 7, hour);
            due("o " + hour, x.runs(14), hour);
            due("o is that of the hour's beginning", x.later(1, 14, 0), 9999 - hour);
        }
        due("o is 0 behind 23", x.later(2, 14, 0), 9999 - 23);
        due("o is 1 behind that", x.later(3, 14, 0), 9999 - 23 - 1);
        lawOf(x, "l");
        for (int luck : new int[] {0, 1, 9999}) {
            x.mend(14, 1, luck);
            due("l " + luck, x.runs(14), luck);
        }
        LuckShoes first = hill(0, 1, 9999);
        lawOf(first, "p");
        due("nobody in the first CELL", first.runs(0), 0);
        first.person(0);
        due("one in the first CELL", first.runs(0), 1);
        lawOf(x, "p");
        x.person(13);
        due("nobody", x.runs(14), 0);
        for (int people = 1; people < 8; people++) {
            x.mend(x.person(14), 5, people % 2);
            due("p " + people, x.runs(14), people);
        }
        x.moves(0, 14);
        due("p 8", x.runs(14), 8);
    }

    private static void heldWithin() {
        sentence("It gives how much runs out .. (held within 0 .. l)");
        String[] texts = {"0", "9", "10", "11", "9999", "-1", "0-l", "8192*8192*32", "8192*8192*32-1", "l-1", "l+1"};
        int[] of10 = {0, 9, 10, 10, 10, 0, 0, 0, 10, 9, 10};
        for (int i = 0; i < texts.length; i++) {
            LuckShoes x = laneWith(4, 10);
            lawOf(x, texts[i]);
            due("\"" + texts[i] + "\" of 10", x.runs(4), of10[i]);
            due("what stays of 10 by \"" + texts[i] + "\"", x.later(1, 4, 0), 10 - of10[i]);
            due("what comes of 10 by \"" + texts[i] + "\"", x.later(1, 5, 0), of10[i]);
            x.mend(4, 1, 0);
            due("\"" + texts[i] + "\" of 0", x.runs(4), 0);
            due("a SINK by \"" + texts[i] + "\"", x.runs(5), NOT);
            x.mend(5, 1, 10);
            due("a SINK holds all", x.later(9, 5, 0), 10);
        }
    }

    private static void withoutText() {
        sentence("Without a text: SHOE 1: l, less 20 (0 at least); SHOE 2: l; none: l by 2 (cut)");
        int[][] told = {{0, 0, 0}, {0, 1, 0}, {0, 2, 1}, {0, 3, 1}, {0, 9998, 4999}, {0, 9999, 4999}, {1, 0, 0},
            {1, 19, 0}, {1, 20, 0}, {1, 21, 1}, {1, 9999, 9979}, {2, 0, 0}, {2, 1, 1}, {2, 9999, 9999}};
        LuckShoes x = lane();
        for (int[] by : told) {
            x.mend(4, 2, by[0]);
            x.mend(4, 1, by[1]);
            due("SHOE " + by[0] + ", LUCK " + by[1], x.runs(4), by[2]);
            due("it stays, SHOE " + by[0], x.later(1, 4, 0), by[1] - by[2]);
            due("it comes, SHOE " + by[0], x.later(1, 5, 0), by[2]);
        }
        lawOf(x, "3");
        due("by a text no SHOE counts unless it says so", x.runs(4), 3);
    }

    // ---- an hour

    private static void drinking() {
        sentence("one takes THIRST, as much as LUCK there, 9999 of HAS at most");
        int[][] told = {{0, 9, 0, 0}, {1, 9, 0, 1}, {99, 98, 0, 98}, {99, 99, 0, 99}, {99, 100, 0, 99}, {5, 0, 7, 0},
            {5, 4, 7, 4}, {5, 5, 7, 5}, {5, 6, 7, 5}, {5, 9, 9993, 5}, {5, 9, 9994, 5}, {5, 9, 9995, 4},
            {5, 9, 9998, 1}, {5, 9, 9999, 0}, {99, 9999, 9999, 0}};
        for (int[] of : told) {
            LuckShoes x = new LuckShoes();
            x.person(20);
            x.mend(0, 4, of[0]);
            x.mend(20, 1, of[1]);
            x.mend(0, 6, of[2]);
            String by = "THIRST " + of[0] + ", LUCK " + of[1] + ", HAS " + of[2];
            due(by + ": HAS in thought", x.later(1, 0, 1), of[2] + of[3]);
            due(by + ": LUCK in thought", x.later(1, 20, 0), of[1] - of[3]);
            due(by + ": drunk", x.hour(), of[3]);
            due(by + ": HAS", x.of(0, 6), of[2] + of[3]);
            due(by + ": LUCK", x.of(20, 1), of[1] - of[3]);
            due(by + ": led", x.led(1), of[3]);
        }
        sentence("PEOPLE, by numbers, drink");
        LuckShoes x = new LuckShoes();
        x.person(20);
        x.person(20);
        x.person(20);
        x.mend(20, 1, 7);
        due("7 for three of 5", x.hour(), 7);
        due("the first", x.of(0, 6), 5);
        due("the second", x.of(1, 6), 2);
        due("the third", x.of(2, 6), 0);
        LuckShoes y = laneWith(4, 6);
        y.person(4);
        due("he drinks ahead of the running", y.hour(), 5);
        due("1 by 2 is 0", y.of(5, 1), 0);
    }

    private static void drySkin() {
        sentence("from one with dry SKIN it goes back at once (HAS stays; LUCK, too; it is not drunk)");
        LuckShoes x = new LuckShoes();
        x.person(20);
        x.person(20);
        x.mend(0, 5, 1);
        x.mend(0, 4, 99);
        x.mend(0, 6, 3);
        x.mend(20, 1, 5);
        due("the other one drinks it all", x.hour(), 5);
        due("the dry one", x.of(0, 6), 3);
        due("the other one", x.of(1, 6), 5);
        due("LUCK", x.of(20, 1), 0);
        due("drunk", x.led(1), 5);
        x.moves(1, 0);
        x.mend(20, 1, 5);
        due("nothing is drunk", x.hour(), 0);
        due("LUCK stays", x.of(20, 1), 5);
        due("HAS stays", x.of(0, 6), 3);
        x.mend(0, 5, 0);
        due("SKIN 0 drinks", x.hour(), 5);
        due("HAS", x.of(0, 6), 8);
    }

    private static void running() {
        sentence("Then all at once, as all stand then: what runs out of each CELL comes to that BELOW it");
        LuckShoes x = laneWith(0, 100);
        x.mend(1, 1, 60);
        x.mend(4, 1, 8);
        x.hour();
        int[] then = {50, 80, 30, 0, 4, 4};
        for (int cell = 0; cell < 6; cell++) {
            due("LUCK of " + cell, x.of(cell, 1), then[cell]);
        }
        due("run", x.led(2), 84);
        x.hour();
        due("run in two hours", x.led(2), 84 + 25 + 40 + 15 + 2);
        LuckShoes y = new LuckShoes();
        for (int cell = 0; cell < 36; cell++) {
            y.mend(cell, 0, cell == 14 ? 0 : 1);
            y.mend(cell, 1, cell == 14 ? 1 : 20);
        }
        y.hour();
        due("from four", y.of(14, 1), 41);
        due("half of one", y.of(20, 1), 10);
        due("one that is flat", y.of(0, 1), 20);
        due("run", y.led(2), 40);
    }

    private static void mostLuck() {
        sentence("(LUCK 9999 at most; what is above is lost)");
        int[][] told = {{9998, 2, 9999, 1, 0}, {9998, 3, 9999, 1, 0}, {9998, 4, 9999, 2, 1}, {9999, 2, 9999, 1, 1},
            {9999, 9999, 9999, 4999, 4999}, {5000, 9999, 9999, 4999, 0}, {5001, 9999, 9999, 4999, 1}};
        for (int[] of : told) {
            LuckShoes x = lane();
            x.mend(5, 1, of[0]);
            x.mend(4, 1, of[1]);
            String by = of[1] + " above " + of[0];
            due(by + ": LUCK in thought", x.later(1, 5, 0), of[2]);
            x.hour();
            due(by + ": LUCK", x.of(5, 1), of[2]);
            due(by + ": run, lost or not", x.led(2), of[3]);
            due(by + ": lost", of[0] + of[1] - x.all(0, 0), of[4]);
        }
        LuckShoes x = laneWith(4, 9999);
        x.mend(3, 1, 9998);
        x.hour();
        due("what runs out makes room at once", x.of(4, 1), 9999);
        due("nothing is lost there", x.of(5, 1), 4999);
    }

    private static void hourBehind23() {
        sentence("HOUR is one more, behind 23: 0");
        LuckShoes x = new LuckShoes();
        for (int hour = 1; hour <= 25; hour++) {
            x.hour();
            due("HOUR behind " + hour + " hours", x.of(0, 7), hour < 24 ? hour : hour - 24);
            due("hours led", x.led(0), hour);
        }
        x.mend(0, 7, 23);
        x.hour();
        due("behind 23", x.of(0, 7), 0);
        x.mend(0, 7, 22);
        x.hour();
        due("behind 22", x.of(0, 7), 23);
    }

    // ---- in thought

    /** One with a thirst of 1 sits in cell 20: what he HAS tells how many hours passed, while LUCK lasts. */
    private static LuckShoes sipper(int luck) {
        LuckShoes x = new LuckShoes();
        x.person(20);
        x.mend(0, 4, 1);
        x.mend(20, 1, luck);
        return x;
    }

    private static void hoursInThought() {
        sentence("IN THOUGHT, from now, behind n (0 .. 48) hours");
        LuckShoes x = sipper(9999);
        wideRange("later LUCK", x, (y, v) -> y.later(v, 20, 0), 0, 48, BAD);
        wideRange("later HAS", x, (y, v) -> y.later(v, 0, 1), 0, 48, BAD);
        wideRange("all LUCK", x, (y, v) -> y.all(v, 0), 0, 48, BAD);
        wideRange("all, most", x, (y, v) -> y.all(v, 1), 0, 48, BAD);
        range("fall in 0", x, (y, v) -> y.fall(v, 1, -1), 0, 48, VOID);
        range("fall in 5", x, (y, v) -> y.fall(500 + v, 1, 0), 0, 48, VOID);
        range("fall in 35", x, (y, v) -> y.fall(3500 + v, 1, -1), 0, 48, VOID);
        due("fall behind 99", x.fall(599, 1, -1), VOID);
        wideRange("later what", x, (y, v) -> y.later(0, 0, v), 0, 1, BAD);
        wideRange("all what", x, (y, v) -> y.all(0, v), 0, 1, BAD);
        for (int n = 0; n <= 48; n++) {
            due("HAS behind " + n, x.later(n, 0, 1), n);
            due("LUCK behind " + n, x.later(n, 20, 0), 9999 - n);
            due("all LUCK behind " + n, x.all(n, 0), 9999 - n);
        }
        due("now it is as it was", x.of(20, 1), 9999);
        due("HOUR, too", x.of(0, 7), 0);
        due("no hour was led", x.led(0), 0);
        LuckShoes y = sipper(10);
        y.mend(0, 4, 1);
        for (int n = 0; n <= 48; n++) {
            due("more of LUCK behind " + n, y.fall(2000 + n, 10, -1), Math.min(10, Math.max(0, 20 - n)));
            due("more of HAS behind " + n, y.fall(2000 + n, 10, 0), Math.min(10, Math.max(0, n - 10)));
        }
    }

    private static void mostOfLikeOnes() {
        sentence("the CELL with most (of like ones the least)");
        LuckShoes x = new LuckShoes();
        due("all are like", x.all(0, 1), 0);
        x.mend(35, 1, 1);
        due("the last", x.all(0, 1), 35);
        x.mend(7, 1, 1);
        due("7 and 35 are like", x.all(0, 1), 7);
        x.mend(35, 1, 2);
        due("35 has more", x.all(0, 1), 35);
        x.mend(0, 1, 2);
        due("0 and 35 are like", x.all(48, 1), 0);
    }

    private static void still() {
        sentence("STILL: behind how many hours (0 .. 48) no LUCK and no HAS changes in the next; NOT");
        for (int luck : new int[] {0, 1, 2, 47, 48}) {
            due(luck + " sips", sipper(luck).still(), luck);
            LuckShoes x = laneWith(4, luck);
            lawOf(x, "1");
            due(luck + " run one by one", x.still(), luck);
        }
        due("49 sips", sipper(49).still(), NOT);
        due("9999 sips", sipper(9999).still(), NOT);
        LuckShoes x = laneWith(4, 49);
        lawOf(x, "1");
        due("49 run one by one", x.still(), NOT);
        lawOf(x, "o=5?1;0");
        due("an HOUR that passes is no change", x.still(), 0);
        x.mend(0, 7, 5);
        due("one runs, then none until tomorrow", x.still(), 1);
        LuckShoes full = laneWith(4, 3);
        full.mend(5, 1, 9999);
        due("what is lost changes, too", full.still(), 2);
        LuckShoes y = sipper(9);
        y.mend(0, 6, 9998);
        due("until he HAS 9999", y.still(), 1);
        y.mend(0, 6, 9999);
        due("he HAS 9999", y.still(), 0);
        y.mend(0, 6, 0);
        y.mend(0, 5, 1);
        due("he is dry", y.still(), 0);
    }

    private static void rich() {
        sentence("RICH: behind how many hours (0 .. 48) one first HAS x or more; NOT");
        LuckShoes x = sipper(9999);
        for (int want : new int[] {0, 1, 2, 47, 48}) {
            due("x " + want, x.rich(0, want), want);
        }
        due("x 49", x.rich(0, 49), NOT);
        x.mend(0, 4, 2);
        due("x 95, by twos", x.rich(0, 95), 48);
        due("x 96, by twos", x.rich(0, 96), 48);
        due("x 97, by twos", x.rich(0, 97), NOT);
        sentence("RICH (x 0 .. 9999)");
        wideRange("rich", x, (y, v) -> y.rich(0, v), 0, 9999, BAD);
        x.mend(0, 6, 9999);
        due("9999 from now on", x.rich(0, 9999), 0);
        x.mend(0, 6, 9998);
        due("9999 behind one hour", x.rich(0, 9999), 1);
    }

    private static void dropsAndBasins() {
        sentence("SINK of a CELL: where a drop comes to, BELOW by BELOW (itself, if it is one); how many steps");
        LuckShoes x = new LuckShoes();
        int[] way = {0, 1, 2, 3, 4, 5, 11, 17, 23, 29};
        for (int cell = 0; cell < 36; cell++) {
            x.mend(cell, 0, 9);
        }
        for (int step = 0; step < 10; step++) {
            x.mend(way[step], 0, 9 - step);
        }
        for (int step = 0; step < 10; step++) {
            due("from " + way[step], x.sink(way[step], 0), 29);
            due("steps from " + way[step], x.sink(way[step], 1), 9 - step);
        }
        due("itself", x.sink(33, 0), 33);
        due("no steps", x.sink(33, 1), 0);
        wideRange("sink what", x, (y, v) -> y.sink(0, v), 0, 1, BAD);
        sentence("BASIN: from which CELLS (bits of a long) a drop comes to it or through it (itself, too)");
        due("the first: itself alone", x.basin(0), 1);
        due("a flat one: itself alone", x.basin(33), 1L << 33);
        long whole = 0;
        for (int cell = 0; cell < 36; cell++) {
            whole |= x.sink(cell, 0) == 29 ? 1L << cell : 0;
        }
        due("the last: all that come to it", x.basin(29), whole);
        due("through the last but one", x.basin(23) & 1, 1);
        due("the last comes not through the last but one", x.basin(23) >> 29 & 1, 0);
        sentence("SINKS: which CELLS (bits of a long) are such");
        LuckShoes y = new LuckShoes();
        due("all of 36", y.basin(-1), 68719476735L);
        y.mend(35, 0, 1);
        due("all but 35", y.basin(-1), 34359738367L);
        due("-2", y.basin(-2), NO_LONG);
    }

    private static void fall() {
        sentence("FALL: v (1 .. 9999) poured on a CELL now");
        LuckShoes x = new LuckShoes();
        wideRange("fall", x, (y, v) -> y.fall(3500, v, -1), 1, 9999, VOID);
        due("1", x.fall(3500, 1, -1), 1);
        due("9999", x.fall(3500, 9999, -1), 9999);
        x.mend(35, 1, 1);
        due("9999 upon 1", x.fall(3500, 9999, -1), 9998);
        x.mend(35, 1, 9998);
        due("1 upon 9998", x.fall(3500, 1, -1), 1);
        due("2 upon 9998", x.fall(3500, 2, -1), 1);
        x.mend(35, 1, 9999);
        due("9999 upon 9999", x.fall(3500, 9999, -1), 0);
        sentence("by how much more, behind n hours, one HAS than without it; how much of LUCK is more in all CELLS");
        LuckShoes y = sipper(1);
        y.mend(0, 4, 99);
        y.mend(0, 6, 9990);
        due("as much as he may have", y.fall(2001, 50, 0), 8);
        due("what he leaves", y.fall(2001, 50, -1), 42);
        due("not yet", y.fall(2000, 50, 0), 0);
        due("elsewhere", y.fall(2101, 50, 0), 0);
        y.mend(20, 0, 1);
        lawOf(y, "l>60?l;0");
        y.mend(0, 4, 10);
        y.mend(20, 1, 61);
        y.mend(0, 6, 0);
        due("less, if more runs away", y.fall(2003, 50, 0), -20);
        due("so much more LUCK then", y.fall(2003, 50, -1), 70);
    }

    /** Cell 14 is a hole with 44 of luck in each of 8, 13, 15, 20 beside it; he sits in the hole. */
    private static LuckShoes hole() {
        LuckShoes x = new LuckShoes();
        for (int cell = 0; cell < 36; cell++) {
            x.mend(cell, 0, 9);
        }
        for (int beside : new int[] {8, 13, 15, 20}) {
            x.mend(beside, 0, 1);
            x.mend(beside, 1, 44);
        }
        x.mend(14, 0, 0);
        x.person(14);
        x.mend(0, 4, 99);
        return x;
    }

    private static void shoesFor(LuckShoes x, int tx, int howMany, int which) {
        due("shoes(0, " + tx + ", 0)", x.shoes(0, tx, 0), howMany);
        due("shoes(0, " + tx + ", 1)", x.shoes(0, tx, 1), which);
    }

    private static void shoesFor() {
        sentence("SHOES FOR one: the fewest SHOES (0 .. 2) .. NOT");
        LuckShoes x = hole();
        shoesFor(x, 20000, 0, -9);
        shoesFor(x, 20088, 0, -9);
        shoesFor(x, 20089, 1, 8);
        shoesFor(x, 20090, 1, 8);
        shoesFor(x, 20091, 2, 36 * 8 + 13);
        shoesFor(x, 20092, 2, 36 * 8 + 13);
        shoesFor(x, 20093, NOT, NOT);
        shoesFor(x, 29999, NOT, NOT);
        sentence("on unlike CELLS whose SHOE is not 1");
        x.mend(8, 2, 1);
        shoesFor(x, 20090, 0, -9);
        shoesFor(x, 20091, 1, 13);
        shoesFor(x, 20093, 2, 36 * 13 + 15);
        shoesFor(x, 20094, 2, 36 * 13 + 15);
        shoesFor(x, 20095, NOT, NOT);
        x.mend(13, 2, 1);
        x.mend(15, 2, 1);
        shoesFor(x, 20096, 1, 20);
        shoesFor(x, 20097, NOT, NOT);
        x.mend(20, 2, 1);
        shoesFor(x, 20096, 0, -9);
        shoesFor(x, 20097, NOT, NOT);
        LuckShoes down = hole();
        lawOf(down, "s=1?30;s=2?10;20");
        down.mend(20, 2, 2);
        shoesFor(down, 20070, 0, -9);
        shoesFor(down, 20080, 1, 8);
        shoesFor(down, 20081, 1, 20);
        shoesFor(down, 20091, 2, 36 * 8 + 20);
        due("none of them hangs now", down.of(8, 2), 0);
        due("none of them hangs now", down.of(20, 2), 2);
        sentence("HAS x (0 .. 9999) or more behind t (0 .. 12) hours");
        LuckShoes y = sipper(9999);
        range("shoes, t", y, (z, v) -> z.shoes(0, 10000 * v, 0), 0, 12, BAD);
        range("shoes, t and x of 9999", y, (z, v) -> z.shoes(0, 10000 * v + 9999, 0), 0, 12, BAD);
        due("tx -1", y.shoes(0, -1, 0), BAD);
        due("tx MIN", y.shoes(0, MIN, 0), BAD);
        due("tx MAX", y.shoes(0, MAX, 0), BAD);
        wideRange("shoes what", y, (z, v) -> z.shoes(0, 0, v), 0, 1, BAD);
        for (int t = 0; t <= 12; t++) {
            due("x " + t + " behind " + t, y.shoes(0, 10000 * t + t, 0), 0);
            due("x " + (t + 1) + " behind " + t, y.shoes(0, 10000 * t + t + 1, 0), NOT);
        }
    }

    private static void shoesOfLikeOnes() {
        sentence("which (36 times the lesser and the greater; one: that; none: -9; of like ones the least)");
        LuckShoes x = new LuckShoes();
        x.mend(0, 0, 1);
        x.mend(7, 0, 1);
        x.mend(1, 0, 0);
        x.mend(0, 1, 44);
        x.mend(7, 1, 44);
        x.person(1);
        x.mend(0, 4, 99);
        shoesFor(x, 20044, 0, -9);
        shoesFor(x, 20046, 1, 0);
        shoesFor(x, 20048, 2, 7);
        shoesFor(x, 20049, NOT, NOT);
        x.mend(0, 1, 40);
        shoesFor(x, 20044, 1, 7);
        x.mend(35, 0, 1);
        x.mend(34, 0, 2);
        x.mend(35, 1, 44);
        x.mend(29, 1, 0);
        x.moves(0, 29);
        shoesFor(x, 20024, 1, 35);
        x.mend(28, 0, 1);
        x.mend(22, 0, 1);
        x.mend(27, 0, 1);
        x.mend(28, 1, 44);
        due("28 runs elsewhere then, up being first", x.sink(28, 0), 29);
        shoesFor(x, 20048, 2, 36 * 28 + 35);
    }

    private static void seat() {
        sentence("SEAT: the CELL in which one would HAVE most behind t (0 .. 24) hours, all others as they are");
        LuckShoes x = sipper(9999);
        wideRange("seat t", x, (y, v) -> y.seat(0, v, 0), 0, 24, BAD);
        wideRange("seat t, how much", x, (y, v) -> y.seat(0, v, 1), 0, 24, BAD);
        wideRange("seat what", x, (y, v) -> y.seat(0, 0, v), 0, 1, BAD);
        x.moves(0, 5);
        for (int t = 0; t <= 24; t++) {
            due("where behind " + t, x.seat(0, t, 0), t == 0 ? 0 : 20);
            due("how much behind " + t, x.seat(0, t, 1), t);
        }
        due("he sits where he sat", x.of(0, 3), 5);
        sentence("(of like ones the least)");
        x.mend(35, 1, 9999);
        due("20 and 35 are like", x.seat(0, 24, 0), 20);
        x.mend(0, 1, 24);
        due("0, 20 and 35 are like", x.seat(0, 24, 0), 0);
        x.mend(0, 1, 23);
        due("0 ends too early", x.seat(0, 24, 0), 20);
        x.mend(20, 1, 23);
        due("the last is best", x.seat(0, 24, 0), 35);
        LuckShoes y = sipper(30);
        y.mend(0, 4, 30);
        y.person(0);
        due("the first one drinks ahead of him", y.seat(1, 1, 0), 0);
        due("nothing is left", y.seat(1, 1, 1), 0);
        y.mend(0, 4, 29);
        due("1 is left", y.seat(1, 1, 0), 20);
        due("1 is left", y.seat(1, 1, 1), 1);
    }

    // ---- what was seen, bets

    /** A ROW of shorts: what is seen in cell 20 while one of thirst 1 sips there from 90 on. */
    private static LuckShoes sipsSeen(int size) {
        LuckShoes x = sipper(90);
        x.row(0, SHORTS, size);
        for (int i = 0; i < size; i++) {
            x.put(0, i, 90 - i);
        }
        return x;
    }

    private static void judged() {
        sentence("LUCK of a CELL behind 0, 1, 2 .. hours (49 at most count): JUDGED: the first that is not so; NOT");
        for (int size : new int[] {0, 1, 2, 48, 49, 50, 60}) {
            LuckShoes x = sipsSeen(size);
            due("all of " + size + " are so", x.judge(0, 20), NOT);
            for (int i = Math.min(size, 60) - 1; i >= 0; i -= i > 46 ? 1 : 23) {
                x.put(0, i, 90 - i + 1);
                due("element " + i + " of " + size + " is not so", x.judge(0, 20), i < 49 ? i : NOT);
            }
        }
        LuckShoes x = sipsSeen(3);
        x.put(0, 0, -90);
        due("below 0", x.judge(0, 20), 0);
        x.put(0, 0, 90 + 65536);
        due("its lowest bits", x.judge(0, 20), NOT);
        x.mend(20, 1, 9999);
        x.put(0, 0, 9999);
        x.put(0, 1, 9998);
        x.put(0, 2, 9997);
        due("9999", x.judge(0, 20), NOT);
        due("another CELL", x.judge(0, 21), 0);
    }

    private static void under() {
        sentence("UNDER: by which SHOES (bits 0 .. 2) of a told CELL all is so");
        int[][] told = {{60, 30, 1}, {60, 20, 2}, {60, 0, 4}, {60, 60, 0}, {40, 20, 3}, {0, 0, 7}, {20, 20, 2},
            {20, 10, 1}, {1, 1, 3}, {1, 0, 4}};
        for (int shoe = 0; shoe < 3; shoe++) {
            for (int[] of : told) {
                LuckShoes x = laneWith(4, of[0]);
                x.mend(4, 2, shoe);
                row(x, 0, SHORTS, of[0], of[1]);
                String by = of[0] + ", then " + of[1] + ", while SHOE " + shoe + " hangs";
                due(by, x.seen(0, 404, 0), of[2]);
                due(by + ", of a CELL whose luck never comes there", x.seen(0, 405, 0),
                    (of[2] >> shoe & 1) == 1 ? 7 : 0);
                due("the SHOE hangs", x.of(4, 2), shoe);
            }
        }
        LuckShoes x = laneWith(3, 60);
        row(x, 0, SHORTS, 0, 40);
        due("what comes from above", x.seen(0, 403, 0), 2);
        due("49 at most count", underOf60(49), 7);
        due("the 49th counts", underOf60(48), 0);
        wideRange("seen what", x, (y, v) -> y.seen(0, 0, v), 0, 2, BAD);
    }

    private static int underOf60(int wrongOne) {
        LuckShoes x = sipsSeen(60);
        x.put(0, wrongOne, 0);
        return x.seen(0, 2020, 0);
    }

    private static void atFirst() {
        sentence("AT FIRST: by how many LUCKS (0 .. 99) of a told CELL now; the least (NOT)");
        int[][] told = {{0, 2, 0}, {1, 2, 2}, {49, 2, 98}, {50, 0, NOT}, {-1, 0, NOT}, {9999, 0, NOT}};
        for (int[] of : told) {
            LuckShoes x = laneWith(4, 7777);
            row(x, 0, SHORTS, 0, of[0]);
            due("how many LUCKS of 4 by which " + of[0] + " come to 5", x.seen(0, 504, 1), of[1]);
            due("the least by which " + of[0] + " come", x.seen(0, 504, 2), of[2]);
            due("LUCK stays", x.of(4, 1), 7777);
        }
        for (int luck : new int[] {0, 1, 98, 99, 100, 9999}) {
            LuckShoes x = laneWith(4, 5);
            row(x, 0, SHORTS, luck);
            due("how many are " + luck, x.seen(0, 404, 1), luck < 100 ? 1 : 0);
            due("which is " + luck, x.seen(0, 404, 2), luck < 100 ? luck : NOT);
            due("how many LUCKS of another by which 5 stand", x.seen(0, 403, 1), luck == 5 ? 100 : 0);
        }
        LuckShoes x = laneWith(4, 9999);
        x.row(0, SHORTS, 0);
        due("all of 100", x.seen(0, 404, 1), 100);
        due("the least of all", x.seen(0, 404, 2), 0);
        row(x, 0, SHORTS, 9999, 5000);
        due("a CELL whose luck never comes there: all of 100", x.seen(0, 405, 1), 100);
        due("the least of them", x.seen(0, 405, 2), 0);
        row(x, 0, SHORTS, 9999, 5001);
        due("none of them", x.seen(0, 405, 1), 0);
        due("none is least", x.seen(0, 405, 2), NOT);
        LuckShoes y = sipsSeen(60);
        due("49 at most count", y.seen(0, 2020, 1), 1);
        y.put(0, 49, 0);
        due("the 50th does not", y.seen(0, 2020, 2), 90);
        y.put(0, 48, 0);
        due("the 49th does", y.seen(0, 2020, 2), NOT);
    }

    private static LuckShoes paid(int... ways) {
        LuckShoes x = new LuckShoes();
        row(x, 0, SHORTS, ways);
        return x;
    }

    private static void betsWays() {
        sentence("(1 .. 999; 6 ways at most; it ends with what is none)");
        for (int none : new int[] {0, -1, 1000, 1001, -999, 32767, -32768}) {
            due("at first " + none, paid(none, 500).bets(0, 1), NOT);
            due("at first " + none, paid(none, 500).margin(0, 0), 0);
            due("then " + none, paid(2, none, 999).bets(0, 1), 0);
            due("then " + none, paid(2, none, 999).margin(0, 0), 50);
        }
        due("1 is one", paid(1).margin(0, 0), 100);
        due("1 is one", paid(1).margin(0, 1), 1);
        due("999 is one", paid(999).margin(0, 0), 100);
        due("999 is one", paid(999).margin(0, 1), 999);
        due("999 pays most", paid(998, 999).bets(0, 1), 1);
        due("six ways", paid(100, 100, 100, 100, 100, 100).margin(0, 0), 6);
        due("a seventh is none", paid(100, 100, 100, 100, 100, 100, 100).margin(0, 0), 6);
        due("the sixth pays most", paid(1, 1, 1, 1, 1, 2).bets(0, 1), 5);
        due("a seventh pays nothing", paid(1, 1, 1, 1, 1, 2, 3).bets(0, 1), 5);
        due("six are sure", paid(601, 601, 601, 601, 601, 601, 1).bets(0, 0), 1);
        sentence("no ways");
        for (LuckShoes x : new LuckShoes[] {paid(), paid(0), paid(0, 0, 0, 0, 0, 0, 5)}) {
            due("SURE", x.bets(0, 0), 0);
            due("the way that pays most", x.bets(0, 1), NOT);
            due("MARGIN above", x.margin(0, 0), 0);
            due("MARGIN below", x.margin(0, 1), 1);
        }
        sentence("the way that pays most (of like ones the least; NOT)");
        due("of two like ones", paid(5, 7, 7).bets(0, 1), 1);
        due("of all like ones", paid(7, 7, 7).bets(0, 1), 0);
    }

    private static void betsSure() {
        sentence("all of 1 by what is paid, in hundredths, together below 1");
        due("one that pays 99", paid(99).bets(0, 0), 0);
        due("one that pays 100", paid(100).bets(0, 0), 0);
        due("one that pays 101", paid(101).bets(0, 0), 1);
        due("two: 1 in all", paid(200, 200).bets(0, 0), 0);
        due("two: a little less", paid(200, 201).bets(0, 0), 1);
        due("two: a little more", paid(200, 199).bets(0, 0), 0);
        due("three: 1 in all", paid(200, 300, 600).bets(0, 0), 0);
        due("three: a little less", paid(200, 300, 601).bets(0, 0), 1);
        due("six of 600: 1 in all", paid(600, 600, 600, 600, 600, 600).bets(0, 0), 0);
        due("six: a little less", paid(600, 600, 600, 600, 600, 601).bets(0, 0), 1);
        due("six of 999", paid(999, 999, 999, 999, 999, 999).bets(0, 0), 1);
        LuckShoes again = paid(5, 150);
        due("that pays most", again.bets(0, 1), 1);
        due("two, not sure", again.bets(0, 0), 0);
        row(again, 0, SHORTS, 300);
        due("that pays most in another ROW", again.bets(0, 1), 0);
        due("another ROW is sure", again.bets(0, 0), 1);
        due("another ROW's MARGIN above", again.margin(0, 0), 1);
        due("another ROW's MARGIN below", again.margin(0, 1), 3);
        row(again, 0, SHORTS, 0);
        due("none in a third ROW", again.bets(0, 1), NOT);
        due("a third ROW is not sure", again.bets(0, 0), 0);
        due("a third ROW's MARGIN above", again.margin(0, 0), 0);
        due("a third ROW's MARGIN below", again.margin(0, 1), 1);
        LuckShoes x = paid(300);
        wideRange("bets what", x, (y, v) -> y.bets(0, v), 0, 1, BAD);
    }

    private static void betsMargin() {
        sentence("MARGIN: these together: a fraction in lowest terms (no ways: 0 by 1)");
        LuckShoes x = paid(300);
        wideRange("margin part", x, (y, v) -> y.margin(0, v), 0, 1, NO_LONG);
        int[][] told = {{100, 1, 1}, {200, 1, 2}, {300, 1, 3}, {150, 2, 3}, {50, 2, 1}, {7, 100, 7}};
        for (int[] of : told) {
            due("above, " + of[0], paid(of[0]).margin(0, 0), of[1]);
            due("below, " + of[0], paid(of[0]).margin(0, 1), of[2]);
        }
        due("1 in all, above", paid(200, 300, 600).margin(0, 0), 1);
        due("1 in all, below", paid(200, 300, 600).margin(0, 1), 1);
        due("six of 1, above", paid(1, 1, 1, 1, 1, 1).margin(0, 0), 600);
        due("six of 1, below", paid(1, 1, 1, 1, 1, 1).margin(0, 1), 1);
        long below = 997L * 991 * 983 * 977 * 971 * 967;
        long above = 0;
        for (int prime : new int[] {997, 991, 983, 977, 971, 967}) {
            above += 100 * (below / prime);
        }
        due("six primes, above", paid(997, 991, 983, 977, 971, 967).margin(0, 0), above);
        due("six primes, below", paid(997, 991, 983, 977, 971, 967).margin(0, 1), below);
    }

    /** Row 2 runs into row 3, by SHOES; the first one sits under X 0, the other one under X 1. */
    private static LuckShoes twoBelow(String law) {
        LuckShoes x = new LuckShoes();
        for (int cell = 0; cell < 36; cell++) {
            x.mend(cell, 0, cell / 6 == 2 ? 1 : cell / 6 == 3 ? 0 : 9);
            x.mend(cell, 1, cell / 6 == 2 ? 90 : 0);
        }
        x.person(18);
        x.person(19);
        x.mend(0, 4, 99);
        x.mend(1, 4, 99);
        lawOf(x, law);
        return x;
    }

    private static void played(LuckShoes x, int ab, int ynt, int value, int firstX) {
        due("byTurns(" + ab + ", " + ynt + ", 0)", x.byTurns(ab, ynt, 0), value);
        due("byTurns(" + ab + ", " + ynt + ", 1)", x.byTurns(ab, ynt, 1), firstX);
    }

    private static void byTurnsRanges() {
        sentence("BY TURNS: two, n (1 .. 3) times in all .. in a told row Y .. behind them t (0 .. 6) hours");
        LuckShoes x = new LuckShoes();
        x.person(0);
        x.person(1);
        range("byTurns n", x, (y, v) -> y.byTurns(1, 10 * v, 0), 1, 3, VOID);
        range("byTurns n in row 5", x, (y, v) -> y.byTurns(1, 500 + 10 * v + 6, 1), 1, 3, VOID);
        due("n 9", x.byTurns(1, 90, 0), VOID);
        range("byTurns Y", x, (y, v) -> y.byTurns(1, 100 * v + 10, 0), 0, 5, VOID);
        for (int t = 0; t < 10; t++) {
            due("t " + t, x.byTurns(1, 210 + t, 0), t <= 6 ? 0 : VOID);
        }
        wideRange("byTurns what", x, (y, v) -> y.byTurns(1, 10, v), 0, 1, VOID);
        due("ynt -1", x.byTurns(1, -1, 0), VOID);
        due("ynt MIN", x.byTurns(1, MIN, 0), VOID);
        due("ynt MAX", x.byTurns(1, MAX, 0), VOID);
        sentence("10 times the one, and the other, unlike");
        int[] bad = {0, 11, 2, 20, 9, 100, 110, -1, -10, MIN, MAX};
        for (int ab : bad) {
            due("ab " + ab, x.byTurns(ab, 10, 0), VOID);
        }
        due("ab 1", x.byTurns(1, 10, 0), 0);
        due("ab 10", x.byTurns(10, 10, 0), 0);
        LuckShoes eight = new LuckShoes();
        for (int one = 0; one < 8; one++) {
            eight.person(one);
            eight.mend(one, 6, one * one);
        }
        for (int one = 0; one < 10; one++) {
            for (int other = 0; other < 10; other++) {
                boolean two = one < 8 && other < 8 && one != other;
                due("ab " + one + other, eight.byTurns(10 * one + other, 10, 0),
                    two ? one * one - other * other : VOID);
            }
        }
        sentence("behind them t (0 .. 6) hours pass");
        LuckShoes y = sipper(9999);
        y.person(0);
        for (int t = 0; t <= 6; t++) {
            played(y, 1, 10 + t, t, 6);
            played(y, 10, 30 + t, -t, 6);
        }
    }

    private static void byTurnsBest() {
        sentence("turn a SHOE .. on (0, 1, 2, then 0), or none .. that of the first one, if both do their best");
        LuckShoes x = twoBelow("s*10");
        played(x, 1, 212, 10, 0);
        played(x, 1, 222, 0, 0);
        played(x, 1, 232, 10, 0);
        played(x, 10, 212, 10, 1);
        played(x, 1, 211, 0, 6);
        played(x, 1, 112, 0, 6);
        x.mend(12, 2, 1);
        played(x, 1, 212, 20, 0);
        x.mend(12, 2, 2);
        played(x, 1, 212, 20, 6);
        x.mend(13, 2, 2);
        played(x, 1, 212, 20, 1);
        played(x, 10, 212, 20, 0);
        due("no SHOE was turned", x.of(12, 2) + x.of(13, 2), 4);
        sentence("his first X (6: none; of like ones none first, then the least)");
        LuckShoes y = twoBelow("c=12?s*10;c=13?(2-s)*10;0");
        played(y, 1, 212, -10, 0);
        y.mend(12, 2, 2);
        played(y, 1, 212, 10, 1);
        LuckShoes z = twoBelow("30");
        played(z, 1, 212, 0, 6);
        played(z, 1, 232, 0, 6);
        LuckShoes last = twoBelow("s*10");
        last.moves(0, 23);
        played(last, 1, 212, 10, 5);
    }

    private static void drawnRanges() {
        sentence("DRAWN: n years (1 .. 30) of m hours (1 .. 40) .. CARTS (0 .. 12, told)");
        LuckShoes x = sipper(9999);
        range("drawn n", x, (y, v) -> y.drawn(1, 10000 * v + 100, 0), 1, 30, BAD);
        range("drawn n of 40 hours, 12 CARTS", x, (y, v) -> y.drawn(1, 10000 * v + 4012, -1), 1, 30, BAD);
        range("drawn m", x, (y, v) -> y.drawn(1, 10000 + 100 * v, 0), 1, 40, BAD);
        range("drawn m of 30 years", x, (y, v) -> y.drawn(1, 300000 + 100 * v, 0), 1, 40, BAD);
        range("drawn CARTS", x, (y, v) -> y.drawn(1, 50100 + v, 0), 0, 12, BAD);
        for (int bad : new int[] {0, -1, 10099, 14099, 19999, 10199, -10100, MIN, MAX}) {
            due("nmc " + bad, x.drawn(1, bad, 0), BAD);
        }
        sentence("n years of m hours from now: HAS of a told one at the ends, all together; of all");
        x.person(20);
        x.mend(0, 6, 3);
        for (int[] nm : new int[][] {{1, 1}, {1, 40}, {2, 3}, {30, 1}, {30, 40}}) {
            int nmc = 10000 * nm[0] + 100 * nm[1];
            due("the first, " + nmc, x.drawn(1, nmc, 0), nm[0] * (3 + nm[1]));
            due("the other, " + nmc, x.drawn(1, nmc, 1), nm[0] * nm[1] * 5);
            due("all, " + nmc, x.drawn(1, nmc, -1), nm[0] * (3 + 6 * nm[1]));
        }
        due("HAS stays", x.of(0, 6), 3);
        due("LUCK stays", x.of(20, 1), 9999);
    }

    /** The next z, worked out in longs, from 0 to 2 to the 32nd. */
    private static long nextDraw(long z) {
        return ((z & 0xFFFFFFFFL) * 1103515245L + 12345L) & 0xFFFFFFFFL;
    }

    private static void drawnCarts() {
        sentence("a cart comes to CELL (z >>> 8) % 36 .. HAS is halved (cut), if (z >>> 16) % 12 is below CARTS");
        for (int seed : new int[] {0, 1, 2, 3, 5, 77, -1, -2, 123456789, MAX, MIN}) {
            long z = nextDraw(seed);
            int cell = (int) ((z >> 8) % 36);
            int draw = (int) ((z >> 16) % 12);
            LuckShoes x = new LuckShoes();
            x.person(cell);
            x.person((cell + 1) % 36);
            x.person(cell);
            x.mend(0, 6, 101);
            x.mend(1, 6, 7);
            x.mend(2, 6, 1);
            x.mend(2, 5, 1);
            x.mend(cell, 1, 30);
            due("CARTS " + draw, x.drawn(seed, 10100 + draw, 0), 106);
            due("CARTS " + (draw + 1), x.drawn(seed, 10101 + draw, 0), 55);
            due("CARTS 0", x.drawn(seed, 10100, 0), 106);
            due("CARTS 12", x.drawn(seed, 10112, 0), 55);
            due("another CELL", x.drawn(seed, 10112, 1), 7);
            due("of each who sits there", x.drawn(seed, 10112, 2), 0);
            due("of all", x.drawn(seed, 10112, -1), 62);
        }
    }

    private static void drawnSeed() {
        sentence("a SEED: z = z * 1103515245 + 12345 (an int; SEED at first) ahead of each hour");
        for (int seed : new int[] {0, 1, -1, 4711, MAX, MIN}) {
            LuckShoes x = new LuckShoes();
            x.person(9);
            x.mend(0, 6, 9999);
            for (int[] nmc : new int[][] {{1, 40, 12}, {2, 20, 6}, {30, 40, 1}, {30, 40, 11}}) {
                long z = seed;
                long whole = 0;
                for (int year = 0; year < nmc[0]; year++) {
                    long has = 9999;
                    for (int hour = 0; hour < nmc[1]; hour++) {
                        z = nextDraw(z);
                        has = (z >> 8) % 36 == 9 && (z >> 16) % 12 < nmc[2] ? has / 2 : has;
                    }
                    whole += has;
                }
                int packed = 10000 * nmc[0] + 100 * nmc[1] + nmc[2];
                due("drawn(" + seed + ", " + packed + ", 0)", x.drawn(seed, packed, 0), whole);
            }
        }
    }

    // ---- in deed

    private static void deeds() {
        sentence("LUCK is poured on a CELL (1 .. 9999): LUCK then (9999 at most)");
        LuckShoes x = new LuckShoes();
        wideRange("pour", x, (y, v) -> y.pour(3, v), 1, 9999, BAD);
        due("1, then 9999", x.of(3, 1), 9999);
        due("one more", x.pour(3, 1), 9999);
        due("1", x.pour(4, 1), 1);
        due("9997 more", x.pour(4, 9997), 9998);
        due("1 more", x.pour(4, 1), 9999);
        due("9999", x.pour(5, 9999), 9999);
        sentence("poured (3: as told)");
        due("poured", x.led(3), 1 + 9999 + 1 + 1 + 9997 + 1 + 9999);
        sentence("A SHOE is hung (0 .. 2): what it was");
        wideRange("hang", x, (y, v) -> y.hang(6, v), 0, 2, BAD);
        due("1 in place of 2", x.hang(6, 1), 2);
        due("0 in place of 1", x.hang(6, 0), 1);
        due("0 in place of 0", x.hang(6, 0), 0);
        due("hung", x.led(4), 5);
        sentence("One MOVES: CELL till then");
        x.person(9);
        due("from 9 to 35", x.moves(0, 35), 9);
        due("from 35 to 35", x.moves(0, 35), 35);
        due("to 36", x.moves(0, 36), BAD);
        due("from 35 to 0", x.moves(0, 0), 35);
        due("he sits in 0", x.of(0, 3), 0);
        sentence("LED: hours, drunk, run, poured, hung");
        wideRange("led", x, (y, v) -> y.led(v), 0, 4, BAD);
    }

    private static void fortyChanges() {
        sentence("40 at most are kept");
        LuckShoes x = new LuckShoes();
        for (int v = 1; v <= 39; v++) {
            x.mend(0, 1, v);
            due("kept", x.count(3), v);
        }
        x.mend(0, 1, 40);
        due("the fortieth", x.count(3), 40);
        for (int n = 39; n >= 0; n--) {
            due("undo of 40", x.undo(), n);
        }
        due("all is undone", x.of(0, 1), 0);
        due("none is left", x.undo(), STATE);
        for (int n = 39; n >= 0; n--) {
            due("redo of 40", x.redo(), n);
        }
        due("all is done again", x.of(0, 1), 40);
        due("none is left", x.redo(), STATE);
        x.mend(0, 1, 41);
        due("the forty-first", x.count(3), 40);
        for (int n = 39; n >= 0; n--) {
            due("undo of 41", x.undo(), n);
            due("LUCK then", x.of(0, 1), n + 1);
        }
        due("none is left of 41", x.undo(), STATE);
        due("the first is kept no more", x.of(0, 1), 1);
        for (int n = 39; n >= 0; n--) {
            due("redo of 41", x.redo(), n);
            due("LUCK again", x.of(0, 1), 41 - n);
        }
        LuckShoes y = new LuckShoes();
        for (int n = 0; n < 45; n++) {
            due("one of 45, " + n, y.mend(n % 36, n % 3, 1 + n / 36), n / 36);
        }
        for (int n = 44; n >= 5; n--) {
            due("it stands, " + n, y.of(n % 36, n % 3), 1 + n / 36);
            due("undo of 45, " + n, y.undo(), n - 5);
            due("it is undone, " + n, y.of(n % 36, n % 3), n / 36);
        }
        due("no more of 45", y.undo(), STATE);
        for (int n = 0; n < 5; n++) {
            due("the oldest stand, " + n, y.of(n, n % 3), 1);
        }
        for (int n = 5; n < 45; n++) {
            due("redo of 45, " + n, y.redo(), 44 - n);
            due("it is done again, " + n, y.of(n % 36, n % 3), 1 + n / 36);
        }
    }

    private static void sameNumberIsNoChange() {
        sentence("CHANGES (all numbers of mend(); telling the same number is none)");
        LuckShoes x = new LuckShoes();
        x.person(0);
        due("none at first", x.undo(), STATE);
        int[] first = {0, 0, 0, 0, 5, 0, 0, 0};
        for (int what = 0; what < 8; what++) {
            due("the same, " + what, x.mend(0, what, first[what]), first[what]);
            due("it is none, " + what, x.count(3), 0);
            due("another, " + what, x.mend(0, what, 1), first[what]);
            due("it is one, " + what, x.count(3), 1);
            due("the same again, " + what, x.mend(0, what, 1), 1);
            due("it is none again, " + what, x.count(3), 1);
            due("undone, " + what, x.undo(), 0);
            due("it was, " + what, x.of(0, what), first[what]);
            due("the same as undone, " + what, x.mend(0, what, first[what]), first[what]);
            due("done again, " + what, x.redo(), 0);
            due("it became, " + what, x.of(0, what), 1);
            x.undo();
        }
        due("none behind it all", x.undo(), STATE);
    }

    private static void doneAgain() {
        sentence("UNDONE, the latest first, and DONE AGAIN (as long as no other came behind)");
        LuckShoes x = new LuckShoes();
        due("none at first", x.redo(), STATE);
        x.mend(1, 0, 1);
        x.mend(2, 0, 2);
        x.mend(3, 0, 3);
        due("none was undone", x.redo(), STATE);
        due("the third", x.undo(), 2);
        due("the third", x.of(3, 0), 0);
        due("the second", x.undo(), 1);
        due("the second", x.of(2, 0), 0);
        due("the first stays", x.of(1, 0), 1);
        due("the second again", x.redo(), 1);
        due("the second again", x.of(2, 0), 2);
        due("a refused one comes not behind", x.mend(4, 0, 10), BAD);
        due("the third again", x.redo(), 0);
        due("the third again", x.of(3, 0), 3);
        due("no more", x.redo(), STATE);
        x.undo();
        x.undo();
        x.mend(4, 0, 4);
        due("another came behind", x.redo(), STATE);
        due("it is undone", x.undo(), 1);
        due("it is undone", x.of(4, 0), 0);
        due("it is done again", x.redo(), 0);
        due("it is done again", x.of(4, 0), 4);
        due("the second stays undone", x.of(2, 0), 0);
    }

    private static void deedsAreNone() {
        sentence("deeds are none (LUCK, SHOES, HAS, CELLS, HOUR by them, too)");
        LuckShoes x = sipper(50);
        int changes = x.count(3);
        x.mend(1, 0, 1);
        x.undo();
        due("an hour", x.hour(), 1);
        x.pour(20, 5);
        x.hang(20, 1);
        x.moves(0, 7);
        x.person(9);
        x.feed('l');
        x.law();
        x.image();
        x.back();
        due("none of them is a change", x.count(3), changes);
        due("none of them came behind", x.redo(), 0);
        due("it is done again", x.of(1, 0), 1);
        due("undo takes the change, not the deeds", x.undo(), changes);
        due("LUCK by deeds stays", x.of(20, 1), 54);
        due("SHOES by deeds stay", x.of(20, 2), 1);
        due("HAS by deeds stays", x.of(0, 6), 1);
        due("CELLS by deeds stay", x.of(0, 3), 7);
        due("HOUR by deeds stays", x.of(0, 7), 1);
    }

    private static void image() {
        sentence("It is laid back (PEOPLE that came since as they are): hours. STATE: there is none");
        LuckShoes x = sipper(50);
        due("there is none", x.back(), STATE);
        x.hour();
        x.hour();
        due("there is none yet", x.back(), STATE);
        due("it is kept", x.image(), 2);
        x.hour();
        x.person(4);
        x.mend(1, 6, 9);
        x.mend(0, 4, 7);
        x.mend(20, 0, 3);
        x.mend(0, 7, 20);
        due("laid back", x.back(), 2);
        due("LUCK", x.of(20, 1), 48);
        due("HAS", x.of(0, 6), 2);
        due("HOUR", x.of(0, 7), 2);
        due("hours led", x.led(0), 2);
        due("who came since", x.of(1, 6), 9);
        due("who came since", x.of(1, 3), 4);
        due("PEOPLE", x.count(0), 2);
        due("THIRST is not kept", x.of(0, 4), 7);
        due("HEIGHT is not kept", x.of(20, 0), 3);
        due("laid back again", x.back(), 2);
        LuckShoes y = new LuckShoes();
        due("of a new object", y.image(), 0);
        y.person(3);
        y.pour(1, 5);
        y.hang(1, 2);
        due("laid back, nobody being in it", y.back(), 0);
        due("he stays", y.of(0, 3), 3);
        due("LUCK", y.of(1, 1), 0);
        due("SHOE", y.of(1, 2), 0);
        due("poured", y.led(3), 0);
        due("hung", y.led(4), 0);
        for (int one = 1; one < 8; one++) {
            y.person(one);
        }
        y.image();
        y.moves(7, 35);
        y.back();
        due("the eighth one", y.of(7, 3), 7);
        sentence("laid back, CHANGES stay as they are");
        LuckShoes z = new LuckShoes();
        z.image();
        z.mend(1, 1, 5);
        z.mend(2, 1, 6);
        z.undo();
        z.back();
        due("LUCK", z.of(1, 1), 0);
        due("one may be undone", z.count(3), 1);
        due("one may be done again", z.redo(), 0);
        due("LUCK of that", z.of(2, 1), 6);
        due("undone", z.undo(), 1);
        due("undone", z.undo(), 0);
        due("no more", z.undo(), STATE);
    }

    // ---- acts, shelves

    private static void fiftyBodies() {
        sentence("BODIES 0 .. 49, of KINDS (0 .. 7)");
        LuckShoes x = new LuckShoes();
        due("none yet", x.keep(0, 0), BAD);
        wideRange("body", x, (y, v) -> y.body(v), 0, 7, BAD);
        for (int n = 2; n < 50; n++) {
            due("body", x.body(0), n);
            due("how many", x.count(4), n + 1);
        }
        due("one more", x.body(0), FULL);
        due("50", x.count(4), 50);
        wideRange("keep, nothing too", x, (y, v) -> y.keep(0, v), -1, 49, BAD);
        due("the last runs", x.act(49, 0, 1), 50);
        due("there is none behind it", x.act(50, 0, 1), 0);
        due("there is none ahead of 0", x.act(-1, 0, 1), 0);
        LuckShoes three = bodies(0, 0, 0);
        wideRange("keep of three", three, (y, v) -> y.keep(0, v), -1, 2, BAD);
        due("the last of three", three.act(2, 0, 1), 3);
        due("no fourth", three.act(3, 0, 1), 0);
    }

    private static void acts() {
        sentence("0, and no TRACE then: no such SHOE, ACT");
        LuckShoes x = bodies(0, 1);
        int[][] bad = {{2, 0}, {-1, 0}, {MAX, 0}, {MIN, 0}, {0, 4}, {0, -1}, {1, MAX}, {1, MIN}, {50, 9}};
        for (int[] of : bad) {
            x.act(0, 3, 5);
            due("five ran", x.count(5), 4);
            due("act(" + of[0] + ", " + of[1] + ", 5)", x.act(of[0], of[1], 5), 0);
            due("none ran", x.count(5), 0);
            due("no TRACE", x.trace(0), BAD);
        }
        sentence("the body of its own KIND, or of the next KIND above that has one");
        int[][] first = {{1, 10, 11, 2}, {20, 10, 11, 2}, {1, 30, 11, 2}, {1, 41, 40, 2}, {20, 10, 50, 2},
            {1, 41, 40, 60}, {70, 10, 11, 2}, {20, 80, 50, 81}};
        int[][] with5 = {{5, 10, 5, 9}, {9, 18, 4, 18}, {7, -14, 7, -17}, {8, -18, 18, -24}, {12, 24, -8, 28},
            {10, -22, 0, -37}, {22, 44, 3, 37}, {15, 23, -10, 28}};
        LuckShoes y = bodies(0, 1, 2, 3, 4, 5, 6, 7);
        for (int kind = 0; kind < 8; kind++) {
            for (int act = 0; act < 4; act++) {
                due("KIND " + kind + ", ACT " + act + " with 5", y.act(kind, act, 5), with5[kind][act]);
                due("KIND " + kind + ", ACT " + act + " began", y.trace(0), first[kind][act]);
            }
        }
    }

    private static void wrappingActs() {
        sentence("ACTS with x (an int that wraps)");
        int half = 1 << 30;
        LuckShoes x = bodies(0, 1, 2, 3, 4, 5, 6, 7);
        long[][] told = {
            {0, 0, MAX, MAX}, {0, 0, MIN, MIN}, {0, 1, half, MIN}, {0, 1, MAX, -2}, {0, 2, MIN, MIN}, {0, 3, half, MAX},
            {1, 0, MAX, MIN + 3}, {1, 1, MAX, 6}, {2, 0, MAX, MIN + 1}, {2, 1, half - 2, MIN}, {2, 1, MAX, -2},
            {3, 1, MAX, -6}, {3, 2, MAX, 3 * (MAX ^ 3)}, {3, 2, MIN, MIN + 9}, {4, 2, MIN, MIN + 4 - 9},
            {5, 3, MAX, (-10 - 12) ^ 5}, {6, 0, MAX, 2 * (MIN + 5)}, {6, 1, MAX, 4 * (MIN + 5)}, {7, 1, MAX, 18 - 7},
        };
        for (long[] of : told) {
            due("act(" + of[0] + ", " + of[1] + ", " + of[2] + ")", x.act((int) of[0], (int) of[1], (int) of[2]),
                (int) of[3]);
        }
        LuckShoes y = bodies(0, 0);
        due("MAX and 1", y.act(1, 0, MAX), MIN);
        due("twice that", y.act(1, 1, MAX), 0);
        due("MIN but for 1", y.act(1, 2, MIN), MIN + 1);
    }

    private static void trace() {
        sentence("THE TRACE: numbers of the bodies that ran in the latest act(), as they began; the first 24 are kept");
        LuckShoes x = bodies(0, 1, 2, 3, 4, 5, 6, 7);
        int[][] told = {{0, 0, 1}, {3, 1, 41, 30, 10, 1}, {7, 3, 81, 2, 80, 10, 20, 1, 50, 11, 20, 1, 50, 11, 20, 1}};
        for (int[] of : told) {
            x.act(of[0], of[1], 5);
            int ran = of.length - 2;
            due("ran", x.count(5), ran);
            for (int i = 0; i < ran; i++) {
                due("trace(" + i + ")", x.trace(i), of[i + 2]);
            }
            for (int i = ran; i < 26; i++) {
                due("trace(" + i + ")", x.trace(i), BAD);
            }
            for (int i : new int[] {-1, MIN, MAX}) {
                due("trace(" + i + ")", x.trace(i), BAD);
            }
        }
        x.act(0, 0, 5);
        due("a shorter one", x.count(5), 1);
        due("nothing of the longer one is left", x.trace(1), BAD);
    }

    private static void shelves() {
        sentence("SHELVES 0 .. 5");
        LuckShoes x = bodies(3);
        for (int shelf = 0; shelf < 6; shelf++) {
            due("nothing at first", x.taken(shelf, 0), -11);
        }
        wideRange("row", x, (y, v) -> y.row(v, SHORTS, 4), 0, 5, BAD);
        wideRange("put", x, (y, v) -> y.put(v, 0, 7), 0, 5, BAD);
        wideRange("element", x, (y, v) -> y.element(v, 0), 0, 5, NO_LONG);
        wideRange("judge", x, (y, v) -> y.judge(v, 0), 0, 5, BAD);
        wideRange("seen", x, (y, v) -> y.seen(v, 0, 0), 0, 5, BAD);
        wideRange("bets", x, (y, v) -> y.bets(v, 0), 0, 5, BAD);
        wideRange("margin", x, (y, v) -> y.margin(v, 0), 0, 5, NO_LONG);
        wideRange("shift from", x, (y, v) -> y.shift(v, 0, 0, 0, 1), 0, 5, BAD);
        wideRange("shift to", x, (y, v) -> y.shift(0, 0, v, 0, 1), 0, 5, BAD);
        wideRange("taken", x, (y, v) -> y.taken(v, 0), 0, 5, BAD);
        wideRange("people", x, (y, v) -> y.people(v, 0, 1), 0, 5, BAD);
        due("1 .. 4 hold nothing yet", x.put(1, 0, 7), -11);
        wideRange("keep a SHOE", x, (y, v) -> y.keep(v, 0), 0, 5, BAD);
        due("keep a SHOE", x.keep(5, 0), 1);
        due("the SHOE is there", x.taken(5, 3), 3);
        wideRange("keep nothing", x, (y, v) -> y.keep(v, -1), 0, 5, BAD);
        due("the first holds nothing", x.put(0, 0, 7), -11);
        due("the last holds nothing", x.put(5, 0, 7), -11);
    }

    private static void rows() {
        sentence("a ROW: of 0 bytes .. 4 booleans, of 0 .. 60 elements, 0 at first (false)");
        LuckShoes x = new LuckShoes();
        wideRange("row sort", x, (y, v) -> y.row(0, v, 1), 0, 4, BAD);
        for (int sort = 0; sort < 5; sort++) {
            due("60 elements", x.row(1, sort, 60), 1);
            for (int i = 0; i < 60; i += 59) {
                due("element " + i + " at first", x.element(1, i), 0);
                due("put " + i, x.put(1, i, -1), 1);
                due("element " + i, x.element(1, i), sort == BOOLEANS ? 1 : -1);
            }
            due("61", x.row(1, sort, 61), BAD);
            due("MAX", x.row(1, sort, MAX), BAD);
            due("-1", x.row(1, sort, -1), -14);
            due("MIN", x.row(1, sort, MIN), -14);
            due("the row of 60 stands", x.element(1, 59), sort == BOOLEANS ? 1 : -1);
            due("put 60", x.put(1, 60, 1), -13);
            due("put -1", x.put(1, -1, 1), -13);
            due("anew", x.row(1, sort, 60), 1);
            due("0 again", x.element(1, 59) + x.element(1, 0), 0);
            due("1 element", x.row(1, sort, 1), 1);
            due("put 0 of 1", x.put(1, 0, 1), 1);
            due("put 1 of 1", x.put(1, 1, 1), -13);
            due("element 1 of 1", x.element(1, 1), NO_LONG);
            due("no element", x.row(1, sort, 0), 1);
            due("put 0 of 0", x.put(1, 0, 1), -13);
            due("element 0 of 0", x.element(1, 0), NO_LONG);
        }
    }

    private static void lowestBits(int sort, long v, long kept) {
        LuckShoes x = new LuckShoes();
        x.row(0, sort, 3);
        due("put " + v, x.put(0, 1, v), 1);
        due("element of sort " + sort + " behind put " + v, x.element(0, 1), kept);
        due("the one ahead", x.element(0, 0), 0);
        due("the one behind", x.element(0, 2), 0);
    }

    private static void lowestBits() {
        sentence("what is put in keeps its lowest bits (a boolean: whether it is not 0; 1 or 0)");
        int[] bits = {8, 16, 32};
        for (int sort = BYTES; sort <= INTS; sort++) {
            long whole = 1L << bits[sort];
            long half = whole / 2;
            lowestBits(sort, half - 1, half - 1);
            lowestBits(sort, half, -half);
            lowestBits(sort, -half, -half);
            lowestBits(sort, -half - 1, half - 1);
            lowestBits(sort, whole - 1, -1);
            lowestBits(sort, whole, 0);
            lowestBits(sort, whole + 5, 5);
            lowestBits(sort, Long.MAX_VALUE, -1);
            lowestBits(sort, Long.MIN_VALUE, 0);
        }
        for (long v : new long[] {0, 1, -1, 1L << 40, Long.MAX_VALUE, Long.MIN_VALUE}) {
            lowestBits(LONGS, v, v);
            lowestBits(BOOLEANS, v, v == 0 ? 0 : 1);
        }
        lowestBits(BOOLEANS, 2, 1);
        lowestBits(BOOLEANS, 256, 1);
        lowestBits(BOOLEANS, 1L << 32, 1);
    }

    private static void refusals() {
        sentence("REFUSALS: -11 nothing is there .. ; -12 it is of another kind; -13 a place ..; -14 ..");
        LuckShoes x = bodies(0);
        x.keep(1, 0);
        for (int sort = 0; sort < 5; sort++) {
            x.row(2, sort, 2);
            due("judge, sort " + sort, x.judge(2, 0), sort == SHORTS ? 2 - 4 : -12);
            due("seen, sort " + sort, x.seen(2, 0, 1), sort == SHORTS ? 1 : -12);
            due("bets, sort " + sort, x.bets(2, 0), sort == SHORTS ? 0 : -12);
            due("margin, sort " + sort, x.margin(2, 1), sort == SHORTS ? 1 : NO_LONG);
            due("people, sort " + sort, x.people(2, 0, 1), sort == BYTES ? 0 : -12);
            due("taken, sort " + sort, x.taken(2, 0), -12);
        }
        long[] nothing = {x.judge(0, 0), x.seen(0, 0, 0), x.bets(0, 0), x.put(0, 0, 1), x.taken(0, 0),
            x.shift(0, 0, 0, 0, 0), x.shift(0, 0, 2, 0, 0), x.shift(2, 0, 0, 0, 0)};
        for (int i = 0; i < nothing.length; i++) {
            due("nothing is there, call " + i, nothing[i], -11);
        }
        long[] shoe = {x.judge(1, 0), x.seen(1, 0, 0), x.bets(1, 0), x.put(1, 0, 1), x.people(1, 0, 1),
            x.shift(1, 0, 1, 0, 0), x.shift(1, 0, 2, 0, 0), x.shift(2, 0, 1, 0, 0)};
        for (int i = 0; i < shoe.length; i++) {
            due("a SHOE is there, call " + i, shoe[i], -12);
        }
        due("element of nothing", x.element(0, 0), NO_LONG);
        due("element of a SHOE", x.element(1, 0), NO_LONG);
        due("margin of nothing", x.margin(0, 0), NO_LONG);
        due("margin of a SHOE", x.margin(1, 0), NO_LONG);
        due("a SHELF that holds nothing is a missing ROW", x.people(0, 0, 1), 0);
        for (int sort = 0; sort < 5; sort++) {
            for (int other = 0; other < 5; other++) {
                x.row(2, sort, 2);
                x.row(3, other, 2);
                due("shift of sort " + sort + " to " + other, x.shift(2, 0, 3, 0, 2), sort == other ? 2 : -12);
            }
        }
    }

    private static void shifting() {
        sentence("n elements of a ROW from i on come to another one from j on");
        LuckShoes x = new LuckShoes();
        row(x, 0, LONGS, 1, 2, 3, 4, 5);
        row(x, 1, LONGS, 0, 0, 0);
        int[][] fits = {{0, 0, 3}, {2, 0, 3}, {4, 2, 1}, {5, 3, 0}, {0, 3, 0}, {5, 0, 0}, {0, 0, 0}};
        for (int[] of : fits) {
            due("shift(0, " + of[0] + ", 1, " + of[1] + ", " + of[2] + ")", x.shift(0, of[0], 1, of[1], of[2]), of[2]);
        }
        due("then 0", x.element(1, 0), 3);
        due("then 1", x.element(1, 1), 4);
        due("then 2", x.element(1, 2), 5);
        int[][] not = {{-1, 0, 1}, {0, -1, 1}, {0, 0, -1}, {3, 0, 3}, {5, 0, 1}, {6, 0, 0}, {0, 0, 4}, {0, 1, 3},
            {0, 3, 1}, {0, 4, 0}, {-1, 0, 0}, {0, -1, 0}, {MAX, 0, 1}, {0, MAX, 1}, {0, 0, MAX}, {1, 1, MAX},
            {MAX, MAX, MAX}, {MIN, 0, 1}, {0, MIN, 1}, {0, 0, MIN}, {1, 1, MIN}};
        for (int[] of : not) {
            due("shift(0, " + of[0] + ", 1, " + of[1] + ", " + of[2] + ")", x.shift(0, of[0], 1, of[1], of[2]), -13);
        }
        due("nothing came", x.element(1, 0), 3);
        sentence("(or the same) .. as they all were before");
        due("on by one", x.shift(0, 0, 0, 1, 4), 4);
        for (int i = 0; i < 5; i++) {
            due("element " + i, x.element(0, i), Math.max(1, i));
        }
        due("back by two", x.shift(0, 2, 0, 0, 3), 3);
        for (int i = 0; i < 5; i++) {
            due("element " + i, x.element(0, i), new int[] {2, 3, 4, 3, 4}[i]);
        }
        row(x, 0, SHORTS);
        due("of a ROW of 0 elements", x.shift(0, 0, 0, 0, 0), 0);
        due("of a ROW of 0 elements", x.shift(0, 0, 0, 0, 1), -13);
        due("of a ROW of 0 elements", x.shift(0, 1, 0, 0, 0), -13);
    }

    private static void takenFor() {
        sentence("taken for a SHOE of KIND k (0 .. 7), or under it: its KIND");
        LuckShoes x = bodies(0, 1, 2, 3, 4, 5, 6, 7);
        x.keep(0, 0);
        wideRange("taken k", x, (y, v) -> y.taken(0, v), 0, 7, BAD);
        x.row(2, INTS, 3);
        due("a ROW is no SHOE", x.taken(2, 3), -12);
        due("a ROW is no SHOE", x.taken(2, 0), -12);
        int[] bits = {0b1, 0b11, 0b101, 0b1101, 0b10011, 0b101101, 0b1000001, 0b10010011};
        for (int kind = 0; kind < 8; kind++) {
            x.keep(1, kind);
            for (int k = 0; k < 8; k++) {
                due("KIND " + kind + " for " + k, x.taken(1, k), (bits[kind] >> k & 1) == 1 ? kind : -12);
            }
        }
    }

    private static void peopleFromARow() {
        sentence("from place i on, n (1 .. 8) of them");
        LuckShoes x = new LuckShoes();
        wideRange("people n of nothing", x, (y, v) -> y.people(0, 0, v), 1, 8, BAD);
        row(x, 1, BYTES, 35, 99, 1, 0, 0, 0, 7, 1);
        wideRange("people n of a ROW", x, (y, v) -> y.people(1, 6, v), 1, 8, BAD);
        due("nobody came", x.count(0), 0);
        sentence("it ends where the row ends (at a place below 0, too; within a three, too)");
        for (int i : new int[] {-1, -2, -3, -4, MIN, 6, 7, 8, 9, MAX, MAX - 1}) {
            due("from place " + i, x.people(1, i, 8), 0);
        }
        due("the last place with a three", x.people(1, 5, 8), 1);
        due("his CELL", x.of(0, 3), 0);
        due("his THIRST", x.of(0, 4), 7);
        due("two, then within a three", x.people(1, 0, 8), 2);
        due("the last CELL", x.of(1, 3), 35);
        due("the most THIRST", x.of(1, 4), 99);
        due("dry", x.of(1, 5), 1);
        due("HAS", x.of(1, 6), 0);
        due("the least CELL", x.of(2, 3), 0);
        due("the least THIRST", x.of(2, 4), 0);
        due("not dry", x.of(2, 5), 0);
        due("one of two", x.people(1, 0, 1), 1);
        row(x, 1, BYTES, 1, 1, 1);
        due("a ROW of just one three", x.people(1, 0, 8), 1);
        due("behind it", x.people(1, 3, 8), 0);
        x.row(1, BYTES, 0);
        due("a ROW of nothing", x.people(1, 0, 8), 0);
        x.row(1, BYTES, 2);
        due("a ROW within a three", x.people(1, 0, 8), 0);
        sentence("it ends where the row is missing");
        due("a SHELF that holds nothing", x.people(2, 0, 8), 0);
        due("five in all", x.count(0), 5);
        sentence("one is not so");
        int[][] notSo = {{36, 5, 0}, {-1, 5, 0}, {127, 5, 0}, {-128, 5, 0}, {0, 100, 0}, {0, -1, 0}, {0, 127, 0},
            {0, 5, 2}, {0, 5, -1}, {0, 5, 127}};
        for (int[] three : notSo) {
            LuckShoes y = new LuckShoes();
            row(y, 0, BYTES, 3, 3, 1, three[0], three[1], three[2], 4, 4, 0);
            String by = three[0] + ", " + three[1] + ", " + three[2];
            due("that ahead of " + by + " came", y.people(0, 0, 3), 1);
            due(by, y.people(0, 3, 2), 0);
            due("that behind " + by, y.people(0, 6, 3), 1);
            due("in all", y.count(0), 2);
            due("the second one", y.of(1, 3), 4);
        }
    }

    private static void peopleUntilFull() {
        sentence("or PEOPLE are FULL: those ahead came");
        LuckShoes x = new LuckShoes();
        x.row(0, BYTES, 30);
        for (int three = 0; three < 10; three++) {
            x.put(0, 3 * three, three);
            x.put(0, 3 * three + 1, 10 + three);
        }
        due("eight", x.people(0, 0, 8), 8);
        for (int one = 0; one < 8; one++) {
            due("CELL", x.of(one, 3), one);
            due("THIRST", x.of(one, 4), 10 + one);
        }
        due("FULL", x.people(0, 0, 1), 0);
        due("eight stay", x.count(0), 8);
        for (int came = 0; came < 8; came++) {
            LuckShoes y = new LuckShoes();
            for (int one = 0; one < came; one++) {
                y.person(one);
            }
            row(y, 0, BYTES, 9, 1, 0, 9, 2, 0, 9, 3, 0, 9, 4, 0, 9, 5, 0, 9, 6, 0, 9, 7, 0, 9, 8, 0);
            due("behind " + came, y.people(0, 0, 8), 8 - came);
            due("eight then", y.count(0), 8);
            due("the last one", y.of(7, 4), 8 - came);
            due("one more", y.person(0), FULL);
        }
    }

    private static void counts() {
        sentence("How many: 0 PEOPLE .. 5 bodies that ran in the latest act()");
        LuckShoes x = new LuckShoes();
        wideRange("count", x, (y, v) -> y.count(v), 0, 5, BAD);
        sentence("1 CELLS with LUCK above 0");
        for (int cell = 0; cell < 36; cell++) {
            x.pour(cell, 1);
            due("cells", x.count(1), cell + 1);
        }
        x.mend(0, 1, 0);
        x.mend(35, 1, 0);
        due("all but two", x.count(1), 34);
    }

    private static void severalAnswers() {
        sentence("Answers, of several the one named first");
        LuckShoes x = bodies(0);
        for (int one = 0; one < 8; one++) {
            x.person(0);
        }
        x.keep(1, 0);
        x.row(2, LONGS, 1);
        due("person: BAD ahead of FULL", x.person(36), BAD);
        due("people: BAD ahead of -12", x.people(2, 0, 9), BAD);
        due("people: BAD ahead of -12", x.people(1, 0, 0), BAD);
        for (int n = 0; n < 120; n++) {
            x.feed('l');
        }
        due("feed: BAD ahead of FULL", x.feed(256), BAD);
        due("rich: BAD ahead of NOT", x.rich(0, 10000), BAD);
        due("shoes: BAD ahead of NOT", x.shoes(0, 9999, 2), BAD);
        due("judge: BAD ahead of -11", x.judge(0, 36), BAD);
        due("judge: BAD ahead of -12", x.judge(2, -1), BAD);
        due("seen: BAD ahead of -11", x.seen(0, 3600, 0), BAD);
        due("seen: BAD ahead of -12", x.seen(2, 0, 3), BAD);
        due("bets: BAD ahead of -11", x.bets(0, 2), BAD);
        due("bets: BAD ahead of -12", x.bets(1, -1), BAD);
        due("put: -11 ahead of -13", x.put(0, 60, 1), -11);
        due("put: -12 ahead of -13", x.put(1, 60, 1), -12);
        due("row: BAD ahead of -14", x.row(0, 5, -1), BAD);
        due("row: BAD ahead of -14", x.row(6, 0, -1), BAD);
        due("shift: BAD ahead of -11", x.shift(0, 0, 6, 0, 1), BAD);
        due("shift: -11 ahead of -12", x.shift(0, 0, 1, 0, 1), -11);
        due("shift: -11 ahead of -12", x.shift(1, 0, 0, 0, 1), -11);
        due("shift: -11 ahead of -13", x.shift(2, 9, 0, 0, 1), -11);
        due("shift: -12 ahead of -13", x.shift(2, 9, 1, 0, 1), -12);
        due("taken: BAD ahead of -11", x.taken(0, 8), BAD);
        due("taken: BAD ahead of -12", x.taken(2, -1), BAD);
        for (int n = 1; n < 50; n++) {
            x.body(0);
        }
        due("body: BAD ahead of FULL", x.body(8), BAD);
        due("body: FULL", x.body(7), FULL);
    }
}
