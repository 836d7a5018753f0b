import java.util.Arrays;

/** Horseshoes, by which end the luck gets out. What each call promises stands in DOC.md. */
public final class LuckShoes {
    public static final int BAD = -1, NOT = -2, FULL = -3, STATE = -5, VOID = -2000000000;

    private static final int NOTHING_THERE = -11, OTHER_KIND = -12, NO_PLACE = -13, NO_SIZE = -14;
    private static final int SIDE = 6, CELLS = 36, PEOPLE = 8, MOST = 9999, DAY = 24, NONE = -1;
    private static final int HEIGHT = 0, LUCK = 1, SHOE = 2, CELL = 3, THIRST = 4, SKIN = 5, HAS = 6, HOUR = 7;
    /** The greatest of each number of mend(); the least is always 0. */
    private static final int[] GREATEST = {9, MOST, 2, CELLS - 1, 99, 1, MOST, DAY - 1};
    private static final int FIRST_THIRST = 5, DRY = 1, POINTS_UP = 1, POINTS_DOWN = 2, SHOE_WAYS = 3;
    private static final int LONGEST_THOUGHT = 48;
    private static final int LED = 5, LED_HOURS = 0, LED_DRUNK = 1, LED_RUN = 2, LED_POURED = 3, LED_HUNG = 4;

    private final World world = new World();
    private final Thought thought = new Thought();
    private final Turns turns = new Turns();
    private final Changes changes = new Changes();
    private final Bodies bodies = new Bodies();
    private final Shelves shelves = new Shelves();
    private final Bets bets = new Bets();
    private final int[] led = new int[LED];
    private final Street image = new Street();
    private final int[] imageLed = new int[LED];
    /** How many PEOPLE the image has; NONE: there is no image. */
    private int imagePeople = NONE;

    public LuckShoes() {
    }

    // ---- people, cells

    public int person(int cell) {
        if (!isCell(cell)) {
            return BAD;
        }
        return world.isCrowded() ? FULL : world.seated(cell, FIRST_THIRST, 0);
    }

    public int people(int shelf, int i, int n) {
        if (!Shelves.isShelf(shelf) || n < 1 || n > PEOPLE) {
            return BAD;
        }
        if (shelves.isEmpty(shelf)) {
            return 0;
        }
        if (!shelves.isRowOf(shelf, Shelves.BYTES)) {
            return OTHER_KIND;
        }
        int came = 0;
        int place = i;
        while (came < n && shelves.hasPart(shelf, place, 3) && world.admits(shelves.rows[shelf], place)) {
            came++;
            place += 3;
        }
        return came;
    }

    public int mend(int number, int what, int v) {
        if (!world.isNumber(number, what) || !World.isWithin(v, what)) {
            return BAD;
        }
        int was = world.told(number, what);
        if (was != v) {
            changes.note(number, what, was, v);
            world.tell(number, what, v);
        }
        return was;
    }

    public int of(int number, int what) {
        return world.isNumber(number, what) ? world.told(number, what) : BAD;
    }

    public int feed(int letter) {
        return letter < 0 || letter > 255 ? BAD : world.law.take(letter);
    }

    public int law() {
        return world.law.read();
    }

    public int runs(int cell) {
        if (!isCell(cell)) {
            return BAD;
        }
        return world.town.isSink(cell) ? NOT : world.now.outOf(world.town, world.law, cell);
    }

    // ---- hours in thought

    public int later(int n, int number, int what) {
        if (!isThinkable(n) || what < 0 || what > 1) {
            return BAD;
        }
        if (what == 0) {
            return isCell(number) ? thought.behind(world, n).luck[number] : BAD;
        }
        return world.isPerson(number) ? thought.behind(world, n).has[number] : BAD;
    }

    public int all(int n, int what) {
        if (!isThinkable(n) || what < 0 || what > 1) {
            return BAD;
        }
        Street then = thought.behind(world, n);
        return what == 0 ? then.wholeLuck() : then.luckiest();
    }

    public int still() {
        return thought.whenStill(world);
    }

    public int rich(int one, int x) {
        return world.isPerson(one) && World.isWithin(x, HAS) ? thought.whenRich(world, one, x) : BAD;
    }

    public int sink(int cell, int what) {
        if (!isCell(cell) || what < 0 || what > 1) {
            return BAD;
        }
        return what == 0 ? world.town.lowestFrom(cell) : world.town.stepsFrom(cell);
    }

    public long basin(int cell) {
        if (cell == NONE) {
            return world.town.sinks();
        }
        return isCell(cell) ? world.town.comeThrough(cell) : Long.MIN_VALUE;
    }

    public int fall(int cn, int v, int one) {
        if (cn < 0 || !isCell(cn / 100) || !isThinkable(cn % 100) || v < 1 || v > MOST) {
            return VOID;
        }
        if (one != NONE && !world.isPerson(one)) {
            return VOID;
        }
        return thought.more(world, cn / 100, cn % 100, v, one);
    }

    public int shoes(int one, int tx, int what) {
        int t = tx / 10000;
        if (!world.isPerson(one) || tx < 0 || t > 12 || what < 0 || what > 1) {
            return BAD;
        }
        int fewest = thought.fewestShoes(world, one, t, tx % 10000);
        return what == 0 || fewest == NOT ? fewest : thought.whichShoes;
    }

    public int seat(int one, int t, int what) {
        if (!world.isPerson(one) || t < 0 || t > 24 || what < 0 || what > 1) {
            return BAD;
        }
        int best = thought.bestSeat(world, one, t);
        return what == 0 ? best : thought.seatHas;
    }

    // ---- what was seen, bets

    public int judge(int shelf, int cell) {
        if (!Shelves.isShelf(shelf) || !isCell(cell)) {
            return BAD;
        }
        int refusal = shelves.refusal(shelf, Shelves.SHORTS);
        return refusal != 0 ? refusal : thought.firstWrong(world, shelves.rows[shelf], shelves.size[shelf], cell);
    }

    public int seen(int shelf, int cc, int what) {
        if (!Shelves.isShelf(shelf) || cc < 0 || !isCell(cc / 100) || !isCell(cc % 100) || what < 0 || what > 2) {
            return BAD;
        }
        int refusal = shelves.refusal(shelf, Shelves.SHORTS);
        if (refusal != 0) {
            return refusal;
        }
        long[] row = shelves.rows[shelf];
        int size = shelves.size[shelf];
        if (what == 0) {
            return thought.fittingShoes(world, row, size, cc / 100, cc % 100);
        }
        int fitting = thought.fittingLucks(world, row, size, cc / 100, cc % 100);
        return what == 1 ? fitting : thought.leastFitting;
    }

    public int bets(int shelf, int what) {
        if (!Shelves.isShelf(shelf) || what < 0 || what > 1) {
            return BAD;
        }
        int refusal = shelves.refusal(shelf, Shelves.SHORTS);
        if (refusal != 0) {
            return refusal;
        }
        bets.read(shelves.rows[shelf], shelves.size[shelf]);
        if (what == 1) {
            return bets.best;
        }
        return bets.isSure() ? 1 : 0;
    }

    public long margin(int shelf, int part) {
        if (!Shelves.isShelf(shelf) || part < 0 || part > 1 || !shelves.isRowOf(shelf, Shelves.SHORTS)) {
            return Long.MIN_VALUE;
        }
        bets.read(shelves.rows[shelf], shelves.size[shelf]);
        return part == 0 ? bets.above : bets.below;
    }

    public int byTurns(int ab, int ynt, int what) {
        if (ab < 0 || !world.isPerson(ab / 10) || !world.isPerson(ab % 10) || ab / 10 == ab % 10) {
            return VOID;
        }
        int n = ynt / 10 % 10;
        if (ynt < 0 || ynt / 100 >= SIDE || n < 1 || n > Turns.MOST_TURNS || ynt % 10 > 6 || what < 0 || what > 1) {
            return VOID;
        }
        int difference = turns.play(world, ab / 10, ab % 10, ynt / 100, n, ynt % 10);
        return what == 0 ? difference : turns.firstX;
    }

    public int drawn(int seed, int nmc, int one) {
        int n = nmc / 10000;
        int m = nmc / 100 % 100;
        if (nmc < 0 || n < 1 || n > 30 || m < 1 || m > 40 || nmc % 100 > 12) {
            return BAD;
        }
        if (one != NONE && !world.isPerson(one)) {
            return BAD;
        }
        return thought.byDraws(world, seed, n, m, nmc % 100, one);
    }

    // ---- in deed

    public int hour() {
        world.now.pass(world.town, world.law);
        led[LED_HOURS]++;
        led[LED_DRUNK] += world.now.drunk;
        led[LED_RUN] += world.now.ran;
        return world.now.drunk;
    }

    public int pour(int cell, int v) {
        if (!isCell(cell) || v < 1 || v > MOST) {
            return BAD;
        }
        led[LED_POURED] += v;
        return world.now.poured(cell, v);
    }

    public int hang(int cell, int shoe) {
        if (!isCell(cell) || shoe < 0 || shoe >= SHOE_WAYS) {
            return BAD;
        }
        int was = world.now.shoe[cell];
        world.now.shoe[cell] = shoe;
        led[LED_HUNG]++;
        return was;
    }

    public int moves(int one, int cell) {
        if (!world.isPerson(one) || !isCell(cell)) {
            return BAD;
        }
        int was = world.now.cell[one];
        world.now.cell[one] = cell;
        return was;
    }

    public int led(int what) {
        return what >= 0 && what < LED ? led[what] : BAD;
    }

    public int image() {
        image.become(world.now, world.town.people);
        System.arraycopy(led, 0, imageLed, 0, LED);
        imagePeople = world.town.people;
        return led[LED_HOURS];
    }

    public int back() {
        if (imagePeople == NONE) {
            return STATE;
        }
        world.now.become(image, imagePeople);
        System.arraycopy(imageLed, 0, led, 0, LED);
        return led[LED_HOURS];
    }

    public int undo() {
        int change = changes.stepBack();
        if (change == NONE) {
            return STATE;
        }
        world.tell(changes.number[change], changes.what[change], changes.was[change]);
        return changes.undoable;
    }

    public int redo() {
        int change = changes.stepOn();
        if (change == NONE) {
            return STATE;
        }
        world.tell(changes.number[change], changes.what[change], changes.becomes[change]);
        return changes.redoable();
    }

    // ---- acts, shelves

    public int body(int kind) {
        return Bodies.isKind(kind) ? bodies.made(kind) : BAD;
    }

    public int act(int body, int act, int x) {
        return bodies.acted(body, act, x);
    }

    public int trace(int i) {
        return i >= 0 && i < bodies.traced() ? bodies.trace[i] : BAD;
    }

    public int keep(int shelf, int body) {
        if (!Shelves.isShelf(shelf) || body != NONE && !bodies.isBody(body)) {
            return BAD;
        }
        if (body == NONE) {
            shelves.clear(shelf);
        } else {
            shelves.holdShoe(shelf, body);
        }
        return 1;
    }

    public int row(int shelf, int sort, int n) {
        if (!Shelves.isShelf(shelf) || !Shelves.isSort(sort) || n > Shelves.LONGEST) {
            return BAD;
        }
        if (n < 0) {
            return NO_SIZE;
        }
        shelves.holdRow(shelf, sort, n);
        return 1;
    }

    public int put(int shelf, int i, long v) {
        if (!Shelves.isShelf(shelf)) {
            return BAD;
        }
        int refusal = shelves.refusalAt(shelf, i);
        if (refusal != 0) {
            return refusal;
        }
        shelves.rows[shelf][i] = Shelves.lowest(shelves.holds[shelf], v);
        return 1;
    }

    public long element(int shelf, int i) {
        if (!Shelves.isShelf(shelf) || shelves.refusalAt(shelf, i) != 0) {
            return Long.MIN_VALUE;
        }
        return shelves.rows[shelf][i];
    }

    public int shift(int shelf, int i, int other, int j, int n) {
        if (!Shelves.isShelf(shelf) || !Shelves.isShelf(other)) {
            return BAD;
        }
        if (shelves.isEmpty(shelf) || shelves.isEmpty(other)) {
            return NOTHING_THERE;
        }
        if (!shelves.isRow(shelf) || !shelves.isRowOf(other, shelves.holds[shelf])) {
            return OTHER_KIND;
        }
        if (!shelves.hasPart(shelf, i, n) || !shelves.hasPart(other, j, n)) {
            return NO_PLACE;
        }
        System.arraycopy(shelves.rows[shelf], i, shelves.rows[other], j, n);
        return n;
    }

    public int taken(int shelf, int k) {
        if (!Shelves.isShelf(shelf) || !Bodies.isKind(k)) {
            return BAD;
        }
        if (shelves.isEmpty(shelf)) {
            return NOTHING_THERE;
        }
        if (shelves.isRow(shelf)) {
            return OTHER_KIND;
        }
        int kind = bodies.kindOf(shelves.size[shelf]);
        return Bodies.isUnder(kind, k) ? kind : OTHER_KIND;
    }

    public int count(int what) {
        switch (what) {
            case 0:
                return world.town.people;
            case 1:
                return world.now.luckyCells();
            case 2:
                return world.law.fed;
            case 3:
                return changes.undoable;
            case 4:
                return bodies.count;
            case 5:
                return bodies.ran;
            default:
                return BAD;
        }
    }

    // ---- what the calls share

    private static boolean isCell(int cell) {
        return cell >= 0 && cell < CELLS;
    }

    private static boolean isThinkable(int hours) {
        return hours >= 0 && hours <= LONGEST_THOUGHT;
    }

    /** All that stands now, and the law by which it runs. */
    private static final class World {
        final Town town = new Town();
        final Street now = new Street();
        final Law law = new Law();

        boolean isPerson(int one) {
            return one >= 0 && one < town.people;
        }

        boolean isCrowded() {
            return town.people >= PEOPLE;
        }

        int seated(int cell, int thirst, int skin) {
            int one = town.people;
            town.thirst[one] = thirst;
            town.skin[one] = skin;
            now.cell[one] = cell;
            town.people++;
            return one;
        }

        /** Whether one came from the three elements at a place of a row. */
        boolean admits(long[] row, int place) {
            int cell = (int) row[place];
            int thirst = (int) row[place + 1];
            int skin = (int) row[place + 2];
            if (isCrowded() || !isCell(cell) || !isWithin(thirst, THIRST) || !isWithin(skin, SKIN)) {
                return false;
            }
            seated(cell, thirst, skin);
            return true;
        }

        static boolean isWithin(int v, int what) {
            return v >= 0 && v <= GREATEST[what];
        }

        /** Whether mend() knows such a number. */
        boolean isNumber(int number, int what) {
            if (what < HEIGHT || what > HOUR) {
                return false;
            }
            if (what == HOUR) {
                return number == 0;
            }
            return what >= CELL ? isPerson(number) : isCell(number);
        }

        int told(int number, int what) {
            switch (what) {
                case HEIGHT:
                    return town.height[number];
                case LUCK:
                    return now.luck[number];
                case SHOE:
                    return now.shoe[number];
                case CELL:
                    return now.cell[number];
                case THIRST:
                    return town.thirst[number];
                case SKIN:
                    return town.skin[number];
                case HAS:
                    return now.has[number];
                default:
                    return now.hour;
            }
        }

        void tell(int number, int what, int v) {
            switch (what) {
                case HEIGHT:
                    town.raise(number, v);
                    break;
                case LUCK:
                    now.luck[number] = v;
                    break;
                case SHOE:
                    now.shoe[number] = v;
                    break;
                case CELL:
                    now.cell[number] = v;
                    break;
                case THIRST:
                    town.thirst[number] = v;
                    break;
                case SKIN:
                    town.skin[number] = v;
                    break;
                case HAS:
                    now.has[number] = v;
                    break;
                default:
                    now.hour = v;
                    break;
            }
        }
    }

    /** What no hour changes: heights, by which luck runs, and how PEOPLE drink. */
    private static final class Town {
        private static final int WAYS = 4;

        final int[] height = new int[CELLS];
        final int[] below = new int[CELLS];
        final int[] thirst = new int[PEOPLE];
        final int[] skin = new int[PEOPLE];
        int people = 0;

        Town() {
            Arrays.fill(below, NONE);
        }

        boolean isSink(int cell) {
            return below[cell] < 0;
        }

        /** A height tells what is BELOW of the cell itself and of those beside it alone. */
        void raise(int cell, int to) {
            height[cell] = to;
            lookBelow(cell);
            for (int way = 0; way < WAYS; way++) {
                int next = beside(cell, way);
                if (next >= 0) {
                    lookBelow(next);
                }
            }
        }

        private void lookBelow(int cell) {
            int lowest = cell;
            for (int way = 0; way < WAYS; way++) {
                int next = beside(cell, way);
                if (next >= 0 && height[next] < height[lowest]) {
                    lowest = next;
                }
            }
            below[cell] = lowest == cell ? NONE : lowest;
        }

        /** Up, right, down, left: of like cells the first of these counts. */
        private static int beside(int cell, int way) {
            switch (way) {
                case 0:
                    return cell >= SIDE ? cell - SIDE : NONE;
                case 1:
                    return cell % SIDE < SIDE - 1 ? cell + 1 : NONE;
                case 2:
                    return cell < CELLS - SIDE ? cell + SIDE : NONE;
                default:
                    return cell % SIDE > 0 ? cell - 1 : NONE;
            }
        }

        int lowestFrom(int cell) {
            int at = cell;
            for (int step = 0; step < CELLS && !isSink(at); step++) {
                at = below[at];
            }
            return at;
        }

        int stepsFrom(int cell) {
            int at = cell;
            int steps = 0;
            while (steps < CELLS && !isSink(at)) {
                at = below[at];
                steps++;
            }
            return steps;
        }

        long sinks() {
            long bits = 0;
            for (int cell = 0; cell < CELLS; cell++) {
                if (isSink(cell)) {
                    bits |= 1L << cell;
                }
            }
            return bits;
        }

        long comeThrough(int cell) {
            long bits = 0;
            for (int from = 0; from < CELLS; from++) {
                if (comesThrough(from, cell)) {
                    bits |= 1L << from;
                }
            }
            return bits;
        }

        boolean comesThrough(int from, int cell) {
            int at = from;
            for (int step = 0; step < CELLS && at != cell && !isSink(at); step++) {
                at = below[at];
            }
            return at == cell;
        }

        /** Whether a shoe in one cell can change what another cell gets: only its own luck runs by it. */
        boolean steers(int shoe, int cell) {
            return !isSink(shoe) && comesThrough(shoe, cell);
        }
    }

    /** What hours change: where luck stands, how shoes hang, where PEOPLE sit and what they HAVE. */
    private static final class Street {
        final int[] luck = new int[CELLS];
        final int[] shoe = new int[CELLS];
        final int[] cell = new int[PEOPLE];
        final int[] has = new int[PEOPLE];
        int hour = 0;
        /** What the latest hour did. */
        int drunk = 0;
        int ran = 0;
        boolean changed = false;
        private final int[] comes = new int[CELLS];

        /** As the other street stands; of PEOPLE only the first so many. */
        void become(Street other, int people) {
            System.arraycopy(other.luck, 0, luck, 0, CELLS);
            System.arraycopy(other.shoe, 0, shoe, 0, CELLS);
            System.arraycopy(other.cell, 0, cell, 0, people);
            System.arraycopy(other.has, 0, has, 0, people);
            hour = other.hour;
        }

        int poured(int cell, int v) {
            luck[cell] = Math.min(luck[cell] + v, MOST);
            return luck[cell];
        }

        void pass(Town town, Law law) {
            drink(town);
            // all at once: what comes is gathered and laid down when all cells were asked
            ran = 0;
            for (int c = 0; c < CELLS; c++) {
                int out = luck[c] > 0 && !town.isSink(c) ? outOf(town, law, c) : 0;
                if (out > 0) {
                    comes[c] -= out;
                    comes[town.below[c]] += out;
                    ran += out;
                }
            }
            if (ran > 0) {
                layDown();
            }
            hour = hour + 1 < DAY ? hour + 1 : 0;
        }

        private void drink(Town town) {
            drunk = 0;
            for (int one = 0; one < town.people; one++) {
                if (town.skin[one] != DRY) {
                    int there = cell[one];
                    int sip = Math.min(town.thirst[one], Math.min(luck[there], MOST - has[one]));
                    luck[there] -= sip;
                    has[one] += sip;
                    drunk += sip;
                }
            }
            changed = drunk > 0;
        }

        private void layDown() {
            for (int c = 0; c < CELLS; c++) {
                if (comes[c] != 0) {
                    int then = Math.min(luck[c] + comes[c], MOST);
                    changed |= then != luck[c];
                    luck[c] = then;
                    comes[c] = 0;
                }
            }
        }

        int outOf(Town town, Law law, int c) {
            int l = luck[c];
            if (town.isSink(c)) {
                return 0;
            }
            if (!law.isTold()) {
                return withoutText(l, shoe[c]);
            }
            int drop = town.height[c] - town.height[town.below[c]];
            int out = law.gives(l, shoe[c], drop, sitting(town.people, c), hour, c);
            return Math.max(0, Math.min(out, l));
        }

        private static int withoutText(int l, int shoe) {
            if (shoe == POINTS_UP) {
                return Math.max(0, l - 20);
            }
            return shoe == POINTS_DOWN ? l : l / 2;
        }

        private int sitting(int people, int c) {
            int there = 0;
            for (int one = 0; one < people; one++) {
                if (cell[one] == c) {
                    there++;
                }
            }
            return there;
        }

        int wholeLuck() {
            int whole = 0;
            for (int c = 0; c < CELLS; c++) {
                whole += luck[c];
            }
            return whole;
        }

        int luckiest() {
            int most = 0;
            for (int c = 1; c < CELLS; c++) {
                if (luck[c] > luck[most]) {
                    most = c;
                }
            }
            return most;
        }

        int luckyCells() {
            int lucky = 0;
            for (int c = 0; c < CELLS; c++) {
                if (luck[c] > 0) {
                    lucky++;
                }
            }
            return lucky;
        }

        /** A cart comes to a cell. */
        void halve(int people, int c) {
            for (int one = 0; one < people; one++) {
                if (cell[one] == c) {
                    has[one] /= 2;
                }
            }
        }

        /** What one HAS; NONE: all PEOPLE. */
        int wealth(int one, int people) {
            if (one != NONE) {
                return has[one];
            }
            int whole = 0;
            for (int each = 0; each < people; each++) {
                whole += has[each];
            }
            return whole;
        }
    }

    /** THE TAPE and THE LAW, which is kept as steps on a stack: a number from 0 on stands for itself. */
    private static final class Law {
        private static final int TAPE = 120, LONGEST_NUMBER = 4, MOST_OPEN = 6;
        private static final int COMPARING = 2, OPERANDS = 5;
        /** Steps that have no sign of their own; others are their sign, below 0. Behind SKIP_IF_0 stands where to. */
        private static final int NEGATE = -1, SKIP_IF_0 = -2, GIVE = -3;
        private static final int NEGATION = -'!';

        int fed = 0;
        private final int[] tape = new int[TAPE];
        private int at = 0;
        /** A text with a fault must leave THE LAW as it is, so it is read into a draft. */
        private int[] draft = new int[2 * TAPE];
        private int drafted = 0;
        private int[] steps = new int[2 * TAPE];
        private int length = 0;
        private final int[] stack = new int[TAPE];
        private int luck = 0, shoe = 0, drop = 0, people = 0, hour = 0, cell = 0;

        int take(int letter) {
            if (fed >= TAPE) {
                return FULL;
            }
            tape[fed] = letter;
            fed++;
            return fed;
        }

        boolean isTold() {
            return length > 0;
        }

        int read() {
            at = 0;
            drafted = 0;
            boolean right = readLines();
            fed = 0;
            if (!right) {
                return -100 - at;
            }
            int[] old = steps;
            steps = draft;
            draft = old;
            length = drafted;
            return 1;
        }

        private boolean readLines() {
            for (int line = 0; line <= TAPE; line++) {
                if (!readLine()) {
                    return false;
                }
                if (!took(';')) {
                    return at >= fed;
                }
            }
            return false;
        }

        private boolean readLine() {
            if (!readJoined(0, 0)) {
                return false;
            }
            if (!took('?')) {
                step(GIVE);
                return true;
            }
            step(SKIP_IF_0);
            int target = drafted;
            step(0);
            if (!readJoined(0, 0)) {
                return false;
            }
            step(GIVE);
            if (target < draft.length) {
                draft[target] = drafted;
            }
            return true;
        }

        /** Levels 0 to 4 join parts of the next level, by | and & and < = > and + - and * / %. */
        private boolean readJoined(int level, int open) {
            if (level >= OPERANDS) {
                return readOperand(open);
            }
            if (!readJoined(level + 1, open)) {
                return false;
            }
            int most = level == COMPARING ? 1 : TAPE;
            for (int joined = 0; joined < most && levelOf(sign()) == level; joined++) {
                int join = sign();
                at++;
                if (!readJoined(level + 1, open)) {
                    return false;
                }
                step(-join);
            }
            return true;
        }

        private boolean readOperand(int open) {
            int sign = sign();
            if (isDigit(sign)) {
                readNumber();
                return true;
            }
            if (isName(sign)) {
                at++;
                step(-sign);
                return true;
            }
            if (sign != '(' && sign != '!' && sign != '-' || open >= MOST_OPEN) {
                return false;
            }
            at++;
            if (sign == '(') {
                return readJoined(0, open + 1) && took(')');
            }
            if (!readOperand(open + 1)) {
                return false;
            }
            step(sign == '-' ? NEGATE : NEGATION);
            return true;
        }

        private void readNumber() {
            int number = 0;
            for (int digit = 0; digit < LONGEST_NUMBER && isDigit(sign()); digit++) {
                number = number * 10 + sign() - '0';
                at++;
            }
            step(number);
        }

        private int sign() {
            return at < fed ? tape[at] : NONE;
        }

        private boolean took(int sign) {
            if (sign() != sign) {
                return false;
            }
            at++;
            return true;
        }

        private void step(int step) {
            if (drafted < draft.length) {
                draft[drafted] = step;
                drafted++;
            }
        }

        private static int levelOf(int sign) {
            switch (sign) {
                case '|':
                    return 0;
                case '&':
                    return 1;
                case '<':
                case '=':
                case '>':
                    return COMPARING;
                case '+':
                case '-':
                    return 3;
                case '*':
                case '/':
                case '%':
                    return 4;
                default:
                    return NONE;
            }
        }

        private static boolean isDigit(int sign) {
            return sign >= '0' && sign <= '9';
        }

        private static boolean isName(int sign) {
            return sign == 'l' || sign == 's' || sign == 'h' || sign == 'p' || sign == 'o' || sign == 'c';
        }

        int gives(int l, int s, int h, int p, int o, int c) {
            luck = l;
            shoe = s;
            drop = h;
            people = p;
            hour = o;
            cell = c;
            int top = 0;
            int next = 0;
            for (int i = 0; i < length; i++) {
                if (i < next) {
                    continue;
                }
                int step = steps[i];
                if (step == GIVE) {
                    return top > 0 ? stack[top - 1] : 0;
                }
                if (step == SKIP_IF_0) {
                    boolean skips = top > 0 && stack[top - 1] == 0 && i + 1 < length;
                    next = skips ? steps[i + 1] : i + 2;
                    top = 0;
                } else if (levelOf(-step) != NONE) {
                    if (top > 1) {
                        stack[top - 2] = joined(-step, stack[top - 2], stack[top - 1]);
                        top--;
                    }
                } else if (step == NEGATE || step == NEGATION) {
                    if (top > 0) {
                        stack[top - 1] = turned(step, stack[top - 1]);
                    }
                } else if (top < stack.length) {
                    stack[top] = step >= 0 ? step : named(-step);
                    top++;
                }
            }
            return 0;
        }

        private static int turned(int step, int a) {
            if (step == NEGATE) {
                return -a;
            }
            return a == 0 ? 1 : 0;
        }

        private int named(int name) {
            switch (name) {
                case 'l':
                    return luck;
                case 's':
                    return shoe;
                case 'h':
                    return drop;
                case 'p':
                    return people;
                case 'o':
                    return hour;
                default:
                    return cell;
            }
        }

        private static int joined(int join, int a, int b) {
            switch (join) {
                case '|':
                    return a != 0 || b != 0 ? 1 : 0;
                case '&':
                    return a != 0 && b != 0 ? 1 : 0;
                case '<':
                    return a < b ? 1 : 0;
                case '=':
                    return a == b ? 1 : 0;
                case '>':
                    return a > b ? 1 : 0;
                case '+':
                    return a + b;
                case '-':
                    return a - b;
                case '*':
                    return a * b;
                case '/':
                    return b == 0 ? 0 : a / b;
                default:
                    return b == 0 ? 0 : a % b;
            }
        }
    }

    /** Hours in thought: each question begins from how the world stands and leaves that as it is. */
    private static final class Thought {
        private static final int NO_SHOES = -9, LUCKS = 100;

        private final Street then = new Street();
        private final int[] candidates = new int[CELLS];
        /** Beside what the latest fewestShoes(), bestSeat(), fittingLucks() answered. */
        int whichShoes = NO_SHOES;
        int seatHas = 0;
        int leastFitting = NOT;

        private void begin(World world) {
            then.become(world.now, world.town.people);
        }

        private void spend(World world, int hours) {
            for (int hour = 0; hour < hours; hour++) {
                then.pass(world.town, world.law);
            }
        }

        Street behind(World world, int hours) {
            begin(world);
            spend(world, hours);
            return then;
        }

        int whenStill(World world) {
            begin(world);
            for (int hours = 0; hours <= LONGEST_THOUGHT; hours++) {
                then.pass(world.town, world.law);
                if (!then.changed) {
                    return hours;
                }
            }
            return NOT;
        }

        int whenRich(World world, int one, int x) {
            begin(world);
            for (int hours = 0; hours < LONGEST_THOUGHT; hours++) {
                if (then.has[one] >= x) {
                    return hours;
                }
                then.pass(world.town, world.law);
            }
            return then.has[one] >= x ? LONGEST_THOUGHT : NOT;
        }

        int more(World world, int cell, int hours, int v, int one) {
            behind(world, hours);
            int without = luckOrHas(one);
            begin(world);
            then.poured(cell, v);
            spend(world, hours);
            return luckOrHas(one) - without;
        }

        private int luckOrHas(int one) {
            return one == NONE ? then.wholeLuck() : then.has[one];
        }

        int fewestShoes(World world, int one, int hours, int x) {
            whichShoes = NO_SHOES;
            if (hasBy(world, NONE, NONE, one, hours) >= x) {
                return 0;
            }
            int found = candidatesFor(world, world.now.cell[one]);
            for (int i = 0; i < found; i++) {
                if (hasBy(world, candidates[i], NONE, one, hours) >= x) {
                    whichShoes = candidates[i];
                    return 1;
                }
            }
            for (int i = 0; i < found; i++) {
                for (int j = i + 1; j < found; j++) {
                    if (hasBy(world, candidates[i], candidates[j], one, hours) >= x) {
                        whichShoes = CELLS * candidates[i] + candidates[j];
                        return 2;
                    }
                }
            }
            return NOT;
        }

        /** A shoe elsewhere gives what none gives there, so it stands in no fewest ones. */
        private int candidatesFor(World world, int cell) {
            int found = 0;
            for (int c = 0; c < CELLS; c++) {
                if (world.now.shoe[c] != POINTS_UP && world.town.steers(c, cell)) {
                    candidates[found] = c;
                    found++;
                }
            }
            return found;
        }

        private int hasBy(World world, int shoe, int other, int one, int hours) {
            begin(world);
            if (shoe != NONE) {
                then.shoe[shoe] = POINTS_UP;
            }
            if (other != NONE) {
                then.shoe[other] = POINTS_UP;
            }
            spend(world, hours);
            return then.has[one];
        }

        int bestSeat(World world, int one, int hours) {
            int best = NONE;
            for (int c = 0; c < CELLS; c++) {
                begin(world);
                then.cell[one] = c;
                spend(world, hours);
                if (best == NONE || then.has[one] > seatHas) {
                    best = c;
                    seatHas = then.has[one];
                }
            }
            return best;
        }

        int firstWrong(World world, long[] row, int size, int cell) {
            begin(world);
            return firstWrongFromThen(world, row, size, cell);
        }

        /** From how all stands in thought, which may be otherwise than now. */
        private int firstWrongFromThen(World world, long[] row, int size, int cell) {
            int counted = Math.min(size, LONGEST_THOUGHT + 1);
            for (int i = 0; i < counted; i++) {
                if (i > 0) {
                    then.pass(world.town, world.law);
                }
                if (then.luck[cell] != row[i]) {
                    return i;
                }
            }
            return NOT;
        }

        int fittingShoes(World world, long[] row, int size, int cell, int told) {
            int bits = 0;
            for (int shoe = 0; shoe < SHOE_WAYS; shoe++) {
                begin(world);
                then.shoe[told] = shoe;
                if (firstWrongFromThen(world, row, size, cell) == NOT) {
                    bits |= 1 << shoe;
                }
            }
            return bits;
        }

        int fittingLucks(World world, long[] row, int size, int cell, int told) {
            leastFitting = NOT;
            if (!world.town.comesThrough(told, cell)) {
                // luck that never comes to the cell makes no difference there
                boolean fits = firstWrong(world, row, size, cell) == NOT;
                leastFitting = fits ? 0 : NOT;
                return fits ? LUCKS : 0;
            }
            int fitting = 0;
            for (int luck = 0; luck < LUCKS; luck++) {
                begin(world);
                then.luck[told] = luck;
                if (firstWrongFromThen(world, row, size, cell) == NOT) {
                    leastFitting = fitting == 0 ? luck : leastFitting;
                    fitting++;
                }
            }
            return fitting;
        }

        /** Each year begins from now; the draws go on through all years. */
        int byDraws(World world, int seed, int years, int hours, int carts, int one) {
            int z = seed;
            int whole = 0;
            for (int year = 0; year < years; year++) {
                begin(world);
                for (int hour = 0; hour < hours; hour++) {
                    z = z * 1103515245 + 12345;
                    if ((z >>> 16) % 12 < carts) {
                        then.halve(world.town.people, (z >>> 8) % CELLS);
                    }
                    then.pass(world.town, world.law);
                }
                whole += then.wealth(one, world.town.people);
            }
            return whole;
        }
    }

    /** Two who turn shoes of a row by turns. */
    private static final class Turns {
        static final int MOST_TURNS = 3;
        private static final int NO_X = SIDE;

        private final Street planned = new Street();
        private final Street then = new Street();
        private int first = 0, second = 0, row = 0, turns = 0, hours = 0;
        /** The first one's best first X in the latest play(). */
        int firstX = NO_X;

        int play(World world, int first, int second, int row, int turns, int hours) {
            this.first = first;
            this.second = second;
            this.row = row;
            this.turns = turns;
            this.hours = hours;
            planned.become(world.now, world.town.people);
            return bestFrom(world, 0);
        }

        /** What the first one HAS more than the second, if both do their best from this turn on. */
        private int bestFrom(World world, int turn) {
            if (turn >= turns || turn >= MOST_TURNS) {
                return difference(world);
            }
            int best = bestFrom(world, turn + 1);
            int bestX = NO_X;
            for (int x = 0; x < SIDE; x++) {
                int cell = SIDE * row + x;
                if (matters(world, cell)) {
                    int was = planned.shoe[cell];
                    planned.shoe[cell] = (was + 1) % SHOE_WAYS;
                    int got = bestFrom(world, turn + 1);
                    planned.shoe[cell] = was;
                    if (turn % 2 == 0 ? got > best : got < best) {
                        best = got;
                        bestX = x;
                    }
                }
            }
            if (turn == 0) {
                firstX = bestX;
            }
            return best;
        }

        /** To turn another shoe is as good as to turn none, and none comes first. */
        private boolean matters(World world, int cell) {
            return world.town.steers(cell, planned.cell[first]) || world.town.steers(cell, planned.cell[second]);
        }

        private int difference(World world) {
            then.become(planned, world.town.people);
            for (int hour = 0; hour < hours; hour++) {
                then.pass(world.town, world.law);
            }
            return then.has[first] - then.has[second];
        }
    }

    /** CHANGES by mend(): the oldest first, those that may be done again behind those that may be undone. */
    private static final class Changes {
        private static final int KEPT = 40;

        final int[] number = new int[KEPT];
        final int[] what = new int[KEPT];
        final int[] was = new int[KEPT];
        final int[] becomes = new int[KEPT];
        int undoable = 0;
        private int all = 0;

        void note(int number, int what, int was, int becomes) {
            if (undoable >= KEPT) {
                forgetOldest();
            }
            this.number[undoable] = number;
            this.what[undoable] = what;
            this.was[undoable] = was;
            this.becomes[undoable] = becomes;
            undoable++;
            all = undoable;
        }

        private void forgetOldest() {
            System.arraycopy(number, 1, number, 0, KEPT - 1);
            System.arraycopy(what, 1, what, 0, KEPT - 1);
            System.arraycopy(was, 1, was, 0, KEPT - 1);
            System.arraycopy(becomes, 1, becomes, 0, KEPT - 1);
            undoable = KEPT - 1;
        }

        /** The change that is undone now; NONE. */
        int stepBack() {
            if (undoable <= 0) {
                return NONE;
            }
            undoable--;
            return undoable;
        }

        /** The change that is done again now; NONE. */
        int stepOn() {
            if (undoable >= all) {
                return NONE;
            }
            undoable++;
            return undoable - 1;
        }

        int redoable() {
            return all - undoable;
        }
    }

    /** BODIES of KINDS, their acts and THE TRACE. */
    private static final class Bodies {
        private static final int KINDS = 8, MOST_BODIES = 50, TRACE = 24, DEEPEST = 20;
        private static final int RUNS = 0, HOLDS = 1, DRINKS = 2, ACTS = 4;
        private static final int[] ABOVE = {NONE, 0, 0, 2, 1, 3, 0, 4};
        /** By KIND and act: runs, holds, drinks, tells; 0: the KIND has no body of its own for it. */
        private static final int[] OWN = {
            1, 10, 11, 2,
            20, 0, 0, 0,
            0, 30, 0, 0,
            0, 41, 40, 0,
            0, 0, 50, 0,
            0, 0, 0, 60,
            70, 0, 0, 0,
            0, 80, 0, 81,
        };

        int count = 0;
        int ran = 0;
        final int[] trace = new int[TRACE];
        private final int[] kinds = new int[MOST_BODIES];

        static boolean isKind(int kind) {
            return kind >= 0 && kind < KINDS;
        }

        static boolean isUnder(int kind, int k) {
            int at = kind;
            for (int step = 0; step < KINDS && at != k && at > 0; step++) {
                at = ABOVE[at];
            }
            return at == k;
        }

        boolean isBody(int body) {
            return body >= 0 && body < count;
        }

        int kindOf(int body) {
            return isBody(body) ? kinds[body] : NONE;
        }

        int made(int kind) {
            if (count >= MOST_BODIES) {
                return FULL;
            }
            kinds[count] = kind;
            count++;
            return count - 1;
        }

        int traced() {
            return Math.min(ran, TRACE);
        }

        int acted(int body, int act, int x) {
            ran = 0;
            return isBody(body) && act >= 0 && act < ACTS ? from(kinds[body], act, body, x, 0) : 0;
        }

        /** The act by the body of a KIND, or of the next KIND above that has one. */
        private int from(int kind, int act, int n, int x, int depth) {
            int at = kind;
            for (int step = 0; step < KINDS && at > 0 && OWN[ACTS * at + act] == 0; step++) {
                at = ABOVE[at];
            }
            if (at < 0 || depth > DEEPEST) {
                return 0;
            }
            int number = OWN[ACTS * at + act];
            if (ran < TRACE) {
                trace[ran] = number;
            }
            ran++;
            return at == 0 ? byShoe(number, n, x, depth + 1) : byKind(number, ABOVE[at], n, x, depth + 1);
        }

        private int own(int act, int n, int x, int depth) {
            return from(kinds[n], act, n, x, depth);
        }

        private int byShoe(int number, int n, int x, int depth) {
            switch (number) {
                case 1:
                    return x + n;
                case 2:
                    return own(HOLDS, n, x, depth) - own(DRINKS, n, 1, depth);
                case 10:
                    return own(RUNS, n, x, depth) * 2;
                default:
                    return x ^ n;
            }
        }

        private int byKind(int number, int above, int n, int x, int depth) {
            switch (number) {
                case 20:
                    return from(above, RUNS, n, x, depth) + 3;
                case 30:
                    return -from(above, HOLDS, n, x, depth);
                case 40:
                    return from(above, DRINKS, n, x, depth) * 3;
                case 41:
                    return from(above, HOLDS, n, x + 1, depth);
                case 50:
                    return from(above, DRINKS, n, x, depth) - own(RUNS, n, 2, depth);
                case 60:
                    return from(above, ACTS - 1, n, x, depth) ^ 5;
                case 70:
                    return from(above, RUNS, n, x, depth) * 2;
                case 80:
                    return from(above, HOLDS, n, x, depth) + own(DRINKS, n, 2, depth);
                default:
                    return from(above, ACTS - 1, n, x, depth) - 1;
            }
        }
    }

    /** SHELVES: nothing, a SHOE, or a ROW, whose elements are all held as longs. */
    private static final class Shelves {
        static final int BYTES = 0, SHORTS = 1, INTS = 2, LONGS = 3, BOOLEANS = 4, LONGEST = 60;
        private static final int SHELVES = 6, NOTHING = -1, A_SHOE = -2;

        /** NOTHING, A_SHOE, or the sort of a ROW. */
        final int[] holds = new int[SHELVES];
        /** How many elements a ROW has; the number of a SHOE. */
        final int[] size = new int[SHELVES];
        final long[][] rows = new long[SHELVES][LONGEST];

        Shelves() {
            Arrays.fill(holds, NOTHING);
        }

        static boolean isShelf(int shelf) {
            return shelf >= 0 && shelf < SHELVES;
        }

        static boolean isSort(int sort) {
            return sort >= BYTES && sort <= BOOLEANS;
        }

        boolean isEmpty(int shelf) {
            return holds[shelf] == NOTHING;
        }

        boolean isRow(int shelf) {
            return isSort(holds[shelf]);
        }

        boolean isRowOf(int shelf, int sort) {
            return holds[shelf] == sort;
        }

        void clear(int shelf) {
            holds[shelf] = NOTHING;
            size[shelf] = 0;
        }

        void holdShoe(int shelf, int body) {
            holds[shelf] = A_SHOE;
            size[shelf] = body;
        }

        void holdRow(int shelf, int sort, int n) {
            holds[shelf] = sort;
            size[shelf] = n;
            Arrays.fill(rows[shelf], 0L);
        }

        /** Why a shelf is no ROW of a sort; 0: it is one. */
        int refusal(int shelf, int sort) {
            if (isEmpty(shelf)) {
                return NOTHING_THERE;
            }
            return isRowOf(shelf, sort) ? 0 : OTHER_KIND;
        }

        /** Why a shelf has no element i; 0: it has it. */
        int refusalAt(int shelf, int i) {
            if (isEmpty(shelf)) {
                return NOTHING_THERE;
            }
            if (!isRow(shelf)) {
                return OTHER_KIND;
            }
            return i >= 0 && i < size[shelf] ? 0 : NO_PLACE;
        }

        /** Whether a ROW has n elements from i on; a sum of i and n could wrap. */
        boolean hasPart(int shelf, int i, int n) {
            return i >= 0 && n >= 0 && i <= size[shelf] && n <= size[shelf] - i;
        }

        /** What an element of a sort keeps of v. */
        static long lowest(int sort, long v) {
            switch (sort) {
                case BYTES:
                    return (byte) v;
                case SHORTS:
                    return (short) v;
                case INTS:
                    return (int) v;
                case LONGS:
                    return v;
                default:
                    return v != 0 ? 1 : 0;
            }
        }
    }

    /** BETS on the ways of a cart, told by a ROW of shorts. */
    private static final class Bets {
        private static final int MOST_WAYS = 6, MOST_PAID = 999, HUNDREDTHS = 100, MOST_DIVISIONS = 200;

        /** All of 1 by what is paid together, in lowest terms. */
        long above = 0;
        long below = 1;
        /** The way that pays most; NOT. */
        int best = NOT;

        void read(long[] row, int size) {
            above = 0;
            below = 1;
            best = NOT;
            int ways = Math.min(size, MOST_WAYS);
            for (int way = 0; way < ways && row[way] >= 1 && row[way] <= MOST_PAID; way++) {
                add(row[way]);
                if (best == NOT || row[way] > row[best]) {
                    best = way;
                }
            }
        }

        boolean isSure() {
            return best != NOT && above < below;
        }

        private void add(long paid) {
            above = above * paid + HUNDREDTHS * below;
            below = below * paid;
            long common = commonDivisor(above, below);
            if (common > 1) {
                above /= common;
                below /= common;
            }
        }

        private static long commonDivisor(long a, long b) {
            long greater = a;
            long lesser = b;
            for (int n = 0; n < MOST_DIVISIONS && lesser != 0; n++) {
                long rest = greater % lesser;
                greater = lesser;
                lesser = rest;
            }
            return greater;
        }
    }
}
