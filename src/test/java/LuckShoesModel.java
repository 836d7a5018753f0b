import java.util.ArrayList;
import java.util.Arrays;
import java.util.List;
import java.util.Random;

/**
 * Random runs of calls on LuckShoes beside a model that is written another way: all candidates are tried,
 * the law is worked out on its text, acts come from real Java classes. Every answer must be the same.
 */
public final class LuckShoesModel {
    private static final int RUNS = 600;
    private static final int CALLS = 450;
    private static final int[] EDGES = {
        Integer.MIN_VALUE, Integer.MIN_VALUE + 1, -10000, -100, -15, -2, -1, 0, 1, 2, 3, 5, 6, 7, 8, 9, 12, 24,
        35, 36, 48, 49, 50, 59, 60, 61, 99, 100, 119, 255, 256, 999, 9998, 9999, 10000, 10001, 3548, 3549, 3600,
        120000, 129999, 130000, 314, 535, 304012, 10100, 310100, Integer.MAX_VALUE - 1, Integer.MAX_VALUE,
    };

    public static void main(String[] args) {
        int wrong = 0;
        long answers = 0;
        int[] good = new int[42];
        for (int run = 0; run < RUNS && wrong < 5; run++) {
            Random random = new Random(run * 7919L + 17);
            LuckShoes shoes = new LuckShoes();
            Model model = new Model();
            Caller caller = new Caller(random, run % 4 == 3 ? 40 : 5);
            for (int call = 0; call < CALLS; call++) {
                caller.choose(model);
                long due = caller.ask(model);
                long got;
                try {
                    got = caller.ask(shoes);
                } catch (RuntimeException | StackOverflowError e) {
                    System.out.println("run " + run + ", call " + call + ": " + caller + " threw " + e);
                    wrong++;
                    break;
                }
                answers++;
                if (due >= 0) {
                    good[caller.which]++;
                }
                if (got != due) {
                    System.out.println("run " + run + ", call " + call + ": " + caller + " answered " + got
                        + ", due is " + due);
                    wrong++;
                    break;
                }
            }
        }
        for (int which = 0; which < 41; which++) {
            if (good[which] < 20) {
                System.out.println("call " + which + " was answered well only " + good[which] + " times");
                wrong++;
            }
        }
        System.out.println(answers + " answers beside the model, " + wrong + " wrong");
        if (wrong != 0) {
            System.exit(1);
        }
    }

    /** One call with its arguments, that can be asked of the class and of the model. */
    static final class Caller {
        final Random random;
        final int wild;
        int which;
        int a, b, c, d, e;
        long v;
        String text = "";
        int fedOfText = 0;

        Caller(Random random, int wild) {
            this.random = random;
            this.wild = wild;
        }

        int upTo(int most) {
            return random.nextInt(most + 1);
        }

        int maybeWild(int tame) {
            return upTo(99) < wild ? EDGES[random.nextInt(EDGES.length)] : tame;
        }

        void choose(Model m) {
            if (fedOfText < text.length()) {
                set(4, text.charAt(fedOfText++));
                return;
            }
            if (!text.isEmpty()) {
                text = "";
                set(5);
                return;
            }
            which = upTo(99) < 45 ? pickState() : upTo(40);
            if (which == 4 || which == 5) {
                if (upTo(3) == 0) {
                    text = new Texts(random).some();
                    fedOfText = 0;
                    which = 5;
                }
                set(which == 5 && upTo(1) == 0 ? 5 : 4, upTo(255));
                return;
            }
            arguments(m);
        }

        int pickState() {
            int[] often = {2, 2, 2, 2, 2, 2, 0, 23, 23, 24, 25, 26, 30, 31, 36, 37, 37, 37};
            return often[random.nextInt(often.length)];
        }

        void set(int call, int... of) {
            which = call;
            a = of.length > 0 ? of[0] : 0;
            b = of.length > 1 ? of[1] : 0;
            c = of.length > 2 ? of[2] : 0;
            d = of.length > 3 ? of[3] : 0;
            e = of.length > 4 ? of[4] : 0;
            a = maybeWild(a);
            b = maybeWild(b);
            c = maybeWild(c);
            d = maybeWild(d);
            e = maybeWild(e);
        }

        int one(Model m) {
            return m.people.isEmpty() || upTo(30) == 0 ? upTo(8) : random.nextInt(m.people.size());
        }

        void arguments(Model m) {
            int one = one(m);
            int cell = upTo(35);
            int near = m.people.isEmpty() || upTo(2) == 0 ? cell : m.people.get(random.nextInt(m.people.size())).cell;
            switch (which) {
                case 0: set(0, cell); break;
                case 1: set(1, upTo(5), upTo(3) - 1, 1 + upTo(7)); break;
                case 2: mending(one, near); break;
                case 3: set(3, upTo(7) == 7 ? 0 : one, upTo(7)); break;
                case 6: case 14: case 13: set(which, which == 13 && upTo(4) == 0 ? -1 : cell, upTo(1)); break;
                case 7: set(7, upTo(48)); int kind = upTo(1); b = kind == 0 ? cell : one; c = kind; break;
                case 8: set(8, upTo(48), upTo(1)); break;
                case 9: case 23: case 28: case 29: case 30: case 31: set(which); break;
                case 10: set(10, one, upTo(2) == 0 ? upTo(9999) : upTo(120)); break;
                case 11: set(11, upTo(1) == 0 ? one : 7, upTo(1)); set(11, cell, upTo(1)); break;
                case 12: set(12, upTo(5) == 0 ? -1 : cell); break;
                case 15: set(15, one, 10000 * upTo(12) + (upTo(2) == 0 ? upTo(9999) : wanted(m, one)), upTo(1)); break;
                case 16: set(16, one, upTo(24), upTo(1)); break;
                case 17: set(17, upTo(5), cell); break;
                case 18: set(18, upTo(5), 100 * cell + (upTo(1) == 0 ? cell : near), upTo(2)); break;
                case 19: case 20: set(which, upTo(5), upTo(1)); break;
                case 21: set(21, 10 * one + one(m), 100 * upTo(5) + 10 * (1 + upTo(2)) + upTo(6), upTo(1)); break;
                case 22: set(22, random.nextInt(), 10000 * (1 + upTo(29)) + 100 * (1 + upTo(39)) + upTo(12),
                    one); if (upTo(2) == 0) { c = -1; } break;
                case 24: set(24, near, 1 + upTo(upTo(3) == 0 ? 9998 : 300)); break;
                case 25: set(25, cell, upTo(2)); break;
                case 26: set(26, one, cell); break;
                case 27: set(27, upTo(4)); break;
                case 32: set(32, upTo(7)); break;
                case 33: set(33, m.bodies.isEmpty() ? 0 : random.nextInt(m.bodies.size()), upTo(3),
                    upTo(1) == 0 ? random.nextInt() : upTo(9)); break;
                case 34: set(34, upTo(25)); break;
                case 35: set(35, upTo(5), upTo(3) == 0 ? -1 : upTo(9)); break;
                case 36: set(36, upTo(5), upTo(3) == 0 ? upTo(4) : upTo(1), upTo(6) == 0 ? -1 : upTo(60)); break;
                case 37: putting(m); break;
                case 38: set(38, upTo(5), upTo(12)); break;
                case 39: set(39, upTo(5), upTo(8), upTo(5), upTo(8), upTo(9)); break;
                case 40: set(40, upTo(5), upTo(7)); break;
                default: set(41, upTo(5)); which = 41; break;
            }
            if (which == 14) {
                set(14, 100 * near + upTo(48), 1 + upTo(upTo(2) == 0 ? 9998 : 200), upTo(2) == 0 ? -1 : one);
            }
        }

        int wanted(Model m, int one) {
            return one < m.people.size() ? Math.min(9999, m.people.get(one).has + upTo(120)) : upTo(120);
        }

        void mending(int one, int near) {
            int what = upTo(9);
            switch (what) {
                case 0: case 8: set(2, upTo(35), 0, upTo(9)); break;
                case 1: set(2, near, 1, upTo(upTo(3) == 0 ? 9999 : 150)); break;
                case 2: set(2, upTo(35), 2, upTo(2)); break;
                case 3: set(2, one, 3, upTo(35)); break;
                case 4: set(2, one, 4, upTo(99)); break;
                case 5: set(2, one, 5, upTo(3) == 0 ? 1 : 0); break;
                case 6: set(2, one, 6, upTo(4) == 0 ? 9900 + upTo(99) : upTo(400)); break;
                case 7: set(2, 0, 7, upTo(23)); break;
                default: set(2, upTo(35), 1, upTo(99)); break;
            }
        }

        /** Often what makes a row fit: the luck that is due, a bet, or someone. */
        void putting(Model m) {
            set(37, upTo(5), upTo(8));
            v = upTo(3) == 0 ? random.nextLong() : upTo(3) == 0 ? upTo(999) : upTo(40);
            if (upTo(2) == 0) {
                v = m.behind(b < 0 || b > 48 ? 0 : b).luck[upTo(35)];
            }
            if (upTo(4) == 0) {
                v = upTo(1);
            }
        }

        long ask(LuckShoes x) {
            switch (which) {
                case 0: return x.person(a);
                case 1: return x.people(a, b, c);
                case 2: return x.mend(a, b, c);
                case 3: return x.of(a, b);
                case 4: return x.feed(a);
                case 5: return x.law();
                case 6: return x.runs(a);
                case 7: return x.later(a, b, c);
                case 8: return x.all(a, b);
                case 9: return x.still();
                case 10: return x.rich(a, b);
                case 11: return x.sink(a, b);
                case 12: return x.basin(a);
                case 13: return x.basin(a);
                case 14: return x.fall(a, b, c);
                case 15: return x.shoes(a, b, c);
                case 16: return x.seat(a, b, c);
                case 17: return x.judge(a, b);
                case 18: return x.seen(a, b, c);
                case 19: return x.bets(a, b);
                case 20: return x.margin(a, b);
                case 21: return x.byTurns(a, b, c);
                case 22: return x.drawn(a, b, c);
                case 23: return x.hour();
                case 24: return x.pour(a, b);
                case 25: return x.hang(a, b);
                case 26: return x.moves(a, b);
                case 27: return x.led(a);
                case 28: return x.image();
                case 29: return x.back();
                case 30: return x.undo();
                case 31: return x.redo();
                case 32: return x.body(a);
                case 33: return x.act(a, b, c);
                case 34: return x.trace(a);
                case 35: return x.keep(a, b);
                case 36: return x.row(a, b, c);
                case 37: return x.put(a, b, v);
                case 38: return x.element(a, b);
                case 39: return x.shift(a, b, c, d, e);
                case 40: return x.taken(a, b);
                default: return x.count(a);
            }
        }

        long ask(Model x) {
            switch (which) {
                case 0: return x.person(a);
                case 1: return x.people(a, b, c);
                case 2: return x.mend(a, b, c);
                case 3: return x.of(a, b);
                case 4: return x.feed(a);
                case 5: return x.law();
                case 6: return x.runs(a);
                case 7: return x.later(a, b, c);
                case 8: return x.all(a, b);
                case 9: return x.still();
                case 10: return x.rich(a, b);
                case 11: return x.sink(a, b);
                case 12: return x.basin(a);
                case 13: return x.basin(a);
                case 14: return x.fall(a, b, c);
                case 15: return x.shoes(a, b, c);
                case 16: return x.seat(a, b, c);
                case 17: return x.judge(a, b);
                case 18: return x.seen(a, b, c);
                case 19: return x.bets(a, b);
                case 20: return x.margin(a, b);
                case 21: return x.byTurns(a, b, c);
                case 22: return x.drawn(a, b, c);
                case 23: return x.hour();
                case 24: return x.pour(a, b);
                case 25: return x.hang(a, b);
                case 26: return x.moves(a, b);
                case 27: return x.led(a);
                case 28: return x.image();
                case 29: return x.back();
                case 30: return x.undo();
                case 31: return x.redo();
                case 32: return x.body(a);
                case 33: return x.act(a, b, c);
                case 34: return x.trace(a);
                case 35: return x.keep(a, b);
                case 36: return x.row(a, b, c);
                case 37: return x.put(a, b, v);
                case 38: return x.element(a, b);
                case 39: return x.shift(a, b, c, d, e);
                case 40: return x.taken(a, b);
                default: return x.count(a);
            }
        }

        @Override
        public String toString() {
            return "call " + which + " (" + a + ", " + b + ", " + c + ", " + d + ", " + e + "; " + v + ")";
        }
    }

    /** Random texts of laws, most of them right, some with a byte changed. */
    static final class Texts {
        final Random random;

        Texts(Random random) {
            this.random = random;
        }

        String some() {
            StringBuilder text = new StringBuilder();
            int lines = 1 + random.nextInt(3);
            for (int line = 0; line < lines; line++) {
                text.append(line > 0 ? ";" : "").append(either(3));
                if (random.nextInt(2) == 0) {
                    text.append("?").append(either(2));
                }
            }
            if (random.nextInt(3) == 0) {
                String bytes = "0123456789lshpoc!-()+*/%<=>&|?; x" + (char) 200;
                int place = random.nextInt(text.length());
                char one = bytes.charAt(random.nextInt(bytes.length()));
                if (random.nextInt(2) == 0) {
                    text.setCharAt(place, one);
                } else {
                    text.insert(place, one);
                }
            }
            if (random.nextInt(8) == 0) {
                text.setLength(random.nextInt(text.length() + 1));
            }
            return text.length() > 118 ? text.substring(0, 118) : text.toString();
        }

        String either(int deep) {
            String[] joins = {"|", "&", "<", "=", ">", "+", "-", "*", "/", "%", "+", "-", "*", "/", "%"};
            StringBuilder text = new StringBuilder(operand(deep));
            int more = random.nextInt(3);
            for (int i = 0; i < more; i++) {
                text.append(joins[random.nextInt(joins.length)]).append(operand(deep));
            }
            return text.toString();
        }

        String operand(int deep) {
            int pick = random.nextInt(deep > 0 ? 10 : 7);
            if (pick < 5) {
                return "" + "lllshpoc".charAt(random.nextInt(8));
            }
            if (pick < 7) {
                return "" + random.nextInt(random.nextInt(4) == 0 ? 10000 : 12);
            }
            if (pick == 7) {
                return "(" + either(deep - 1) + ")";
            }
            return (pick == 8 ? "!" : "-") + operand(deep - 1);
        }
    }

    /** One of PEOPLE. */
    static final class One {
        int cell, thirst = 5, skin, has;

        One copy() {
            One other = new One();
            other.cell = cell;
            other.thirst = thirst;
            other.skin = skin;
            other.has = has;
            return other;
        }
    }

    /** Shoes as Java itself has them. */
    interface Runs {
        List<Integer> ran();

        int n();

        default int runs(int x) {
            ran().add(1);
            return x + n();
        }
    }

    interface Tells {
        List<Integer> ran();

        int holds(int x);

        int drinks(int x);

        default int tells(int x) {
            ran().add(2);
            return holds(x) - drinks(1);
        }
    }

    static class Shoe implements Runs, Tells {
        final List<Integer> ran;
        final int n;

        Shoe(List<Integer> ran, int n) {
            this.ran = ran;
            this.n = n;
        }

        public List<Integer> ran() {
            return ran;
        }

        public int n() {
            return n;
        }

        int kind() {
            return 0;
        }

        public int holds(int x) {
            ran.add(10);
            return runs(x) * 2;
        }

        public int drinks(int x) {
            ran.add(11);
            return x ^ n;
        }
    }

    static class Point extends Shoe {
        Point(List<Integer> ran, int n) {
            super(ran, n);
        }

        int kind() {
            return 1;
        }

        public int runs(int x) {
            ran.add(20);
            return super.runs(x) + 3;
        }
    }

    static class Cellar extends Shoe {
        Cellar(List<Integer> ran, int n) {
            super(ran, n);
        }

        int kind() {
            return 2;
        }

        public int holds(int x) {
            ran.add(30);
            return -super.holds(x);
        }
    }

    static class Rat extends Cellar {
        Rat(List<Integer> ran, int n) {
            super(ran, n);
        }

        int kind() {
            return 3;
        }

        public int drinks(int x) {
            ran.add(40);
            return super.drinks(x) * 3;
        }

        public int holds(int x) {
            ran.add(41);
            return super.holds(x + 1);
        }
    }

    static class Potman extends Point {
        Potman(List<Integer> ran, int n) {
            super(ran, n);
        }

        int kind() {
            return 4;
        }

        public int drinks(int x) {
            ran.add(50);
            return super.drinks(x) - runs(2);
        }
    }

    static class Cart extends Rat {
        Cart(List<Integer> ran, int n) {
            super(ran, n);
        }

        int kind() {
            return 5;
        }

        public int tells(int x) {
            ran.add(60);
            return super.tells(x) ^ 5;
        }
    }

    static class Cup extends Shoe {
        Cup(List<Integer> ran, int n) {
            super(ran, n);
        }

        int kind() {
            return 6;
        }

        public int runs(int x) {
            ran.add(70);
            return super.runs(x) * 2;
        }
    }

    static class Horse extends Potman {
        Horse(List<Integer> ran, int n) {
            super(ran, n);
        }

        int kind() {
            return 7;
        }

        public int holds(int x) {
            ran.add(80);
            return super.holds(x) + drinks(2);
        }

        public int tells(int x) {
            ran.add(81);
            return super.tells(x) - 1;
        }
    }

    /** The document again, by trying all there is. */
    static final class Model {
        static final int[] GREATEST = {9, 9999, 2, 35, 99, 1, 9999, 23};
        int[] height = new int[36];
        int[] luck = new int[36];
        int[] shoe = new int[36];
        List<One> people = new ArrayList<>();
        int hour;
        String law;
        StringBuilder tape = new StringBuilder();
        long[] led = new long[5];
        Model image;
        List<int[]> done = new ArrayList<>();
        List<int[]> undone = new ArrayList<>();
        List<Shoe> bodies = new ArrayList<>();
        List<Integer> ran = new ArrayList<>();
        Object[] shelves = new Object[6];
        int drunk, out;

        Model copy() {
            Model m = new Model();
            m.height = height.clone();
            m.luck = luck.clone();
            m.shoe = shoe.clone();
            for (One one : people) {
                m.people.add(one.copy());
            }
            m.hour = hour;
            m.law = law;
            m.led = led.clone();
            return m;
        }

        boolean in(int v, int least, int most) {
            return v >= least && v <= most;
        }

        boolean who(int one) {
            return one >= 0 && one < people.size();
        }

        int below(int cell) {
            int y = cell / 6;
            int x = cell % 6;
            int[][] steps = {{-1, 0}, {0, 1}, {1, 0}, {0, -1}};
            int found = -1;
            for (int[] step : steps) {
                int ny = y + step[0];
                int nx = x + step[1];
                if (in(ny, 0, 5) && in(nx, 0, 5) && height[6 * ny + nx] < height[cell]
                    && (found < 0 || height[6 * ny + nx] < height[found])) {
                    found = 6 * ny + nx;
                }
            }
            return found;
        }

        int out(int cell) {
            int l = luck[cell];
            int gives;
            if (law == null) {
                gives = shoe[cell] == 1 ? l - 20 : shoe[cell] == 2 ? l : l / 2;
            } else {
                gives = byText(cell);
            }
            return Math.min(l, Math.max(gives, 0));
        }

        int byText(int cell) {
            for (String line : law.split(";")) {
                String[] parts = line.split("\\?");
                if (parts.length == 1 || worth(parts[0], cell) != 0) {
                    return worth(parts[parts.length - 1], cell);
                }
            }
            return 0;
        }

        /** Splits a text at its last join of the loosest level that stands in it outside of ( ). */
        int worth(String text, int cell) {
            for (String joins : new String[] {"|", "&", "<=>", "+-", "*/%"}) {
                int deep = 0;
                for (int i = text.length() - 1; i > 0; i--) {
                    char c = text.charAt(i);
                    deep += c == ')' ? 1 : c == '(' ? -1 : 0;
                    char before = text.charAt(i - 1);
                    boolean behindOperand = Character.isLetterOrDigit(before) || before == ')';
                    if (deep == 0 && joins.indexOf(c) >= 0 && behindOperand) {
                        return join(c, worth(text.substring(0, i), cell), worth(text.substring(i + 1), cell));
                    }
                }
            }
            char first = text.charAt(0);
            if (first == '!') {
                return worth(text.substring(1), cell) == 0 ? 1 : 0;
            }
            if (first == '-') {
                return -worth(text.substring(1), cell);
            }
            if (first == '(') {
                return worth(text.substring(1, text.length() - 1), cell);
            }
            return Character.isDigit(first) ? Integer.parseInt(text) : name(first, cell);
        }

        int name(char name, int cell) {
            switch (name) {
                case 'l': return luck[cell];
                case 's': return shoe[cell];
                case 'h': return height[cell] - height[below(cell)];
                case 'p': return (int) people.stream().filter(one -> one.cell == cell).count();
                case 'o': return hour;
                default: return cell;
            }
        }

        int join(char c, int a, int b) {
            switch (c) {
                case '|': return (a != 0) | (b != 0) ? 1 : 0;
                case '&': return (a != 0) & (b != 0) ? 1 : 0;
                case '<': return a < b ? 1 : 0;
                case '=': return a == b ? 1 : 0;
                case '>': return a > b ? 1 : 0;
                case '+': return (int) ((long) a + b);
                case '-': return (int) ((long) a - b);
                case '*': return (int) ((long) a * b);
                case '/': return b == 0 ? 0 : (int) ((long) a / b);
                default: return b == 0 ? 0 : (int) ((long) a % b);
            }
        }

        void pass() {
            drunk = 0;
            out = 0;
            for (One one : people) {
                int sip = Math.min(Math.min(one.thirst, luck[one.cell]), 9999 - one.has);
                if (one.skin == 0) {
                    one.has += sip;
                    luck[one.cell] -= sip;
                    drunk += sip;
                }
            }
            int[] next = luck.clone();
            for (int cell = 0; cell < 36; cell++) {
                int to = below(cell);
                if (to >= 0) {
                    int runs = luck[cell] == 0 ? 0 : out(cell);
                    next[cell] -= runs;
                    next[to] += runs;
                    out += runs;
                }
            }
            for (int cell = 0; cell < 36; cell++) {
                luck[cell] = Math.min(next[cell], 9999);
            }
            hour = (hour + 1) % 24;
        }

        Model behind(int n) {
            Model then = copy();
            for (int i = 0; i < n; i++) {
                then.pass();
            }
            return then;
        }

        long person(int cell) {
            return come(cell, 5, 0);
        }

        int come(int cell, int thirst, int skin) {
            if (!in(cell, 0, 35) || !in(thirst, 0, 99) || !in(skin, 0, 1)) {
                return -1;
            }
            if (people.size() == 8) {
                return -3;
            }
            One one = new One();
            one.cell = cell;
            one.thirst = thirst;
            one.skin = skin;
            people.add(one);
            return people.size() - 1;
        }

        long people(int shelf, int i, int n) {
            if (!in(shelf, 0, 5) || !in(n, 1, 8)) {
                return -1;
            }
            if (shelves[shelf] == null) {
                return 0;
            }
            if (!(shelves[shelf] instanceof byte[])) {
                return -12;
            }
            byte[] row = (byte[]) shelves[shelf];
            int came = 0;
            try {
                while (came < n && come(row[i], row[i + 1], row[i + 2]) >= 0) {
                    came++;
                    i += 3;
                }
            } catch (ArrayIndexOutOfBoundsException e) {
                return came;
            }
            return came;
        }

        boolean known(int number, int what) {
            return what == 7 ? number == 0 : in(what, 0, 2) ? in(number, 0, 35) : in(what, 3, 6) && who(number);
        }

        long of(int number, int what) {
            if (!known(number, what)) {
                return -1;
            }
            switch (what) {
                case 0: return height[number];
                case 1: return luck[number];
                case 2: return shoe[number];
                case 3: return people.get(number).cell;
                case 4: return people.get(number).thirst;
                case 5: return people.get(number).skin;
                case 6: return people.get(number).has;
                default: return hour;
            }
        }

        void become(int number, int what, int v) {
            switch (what) {
                case 0: height[number] = v; break;
                case 1: luck[number] = v; break;
                case 2: shoe[number] = v; break;
                case 3: people.get(number).cell = v; break;
                case 4: people.get(number).thirst = v; break;
                case 5: people.get(number).skin = v; break;
                case 6: people.get(number).has = v; break;
                default: hour = v; break;
            }
        }

        long mend(int number, int what, int v) {
            if (!known(number, what) || !in(v, 0, GREATEST[what])) {
                return -1;
            }
            int was = (int) of(number, what);
            if (was != v) {
                become(number, what, v);
                done.add(new int[] {number, what, was, v});
                if (done.size() > 40) {
                    done.remove(0);
                }
                undone.clear();
            }
            return was;
        }

        long undo() {
            if (done.isEmpty()) {
                return -5;
            }
            int[] change = done.remove(done.size() - 1);
            become(change[0], change[1], change[2]);
            undone.add(change);
            return done.size();
        }

        long redo() {
            if (undone.isEmpty()) {
                return -5;
            }
            int[] change = undone.remove(undone.size() - 1);
            become(change[0], change[1], change[3]);
            done.add(change);
            return undone.size();
        }

        long feed(int letter) {
            if (!in(letter, 0, 255)) {
                return -1;
            }
            if (tape.length() == 120) {
                return -3;
            }
            tape.append((char) letter);
            return tape.length();
        }

        long law() {
            String text = tape.toString();
            tape.setLength(0);
            int fault = fault(text);
            if (fault >= 0) {
                return -100 - fault;
            }
            law = text;
            return 1;
        }

        /** Byte by byte: what is open, whether an operand is due, whether a comparison may still come. */
        static int fault(String text) {
            StringBuilder open = new StringBuilder();
            List<Boolean> outer = new ArrayList<>();
            boolean compared = false;
            boolean asked = false;
            boolean due = true;
            int digits = 0;
            for (int i = 0; i < text.length(); i++) {
                char c = text.charAt(i);
                if (due) {
                    if ("lshpoc".indexOf(c) >= 0 || c >= '0' && c <= '9') {
                        digits = c <= '9' ? 1 : 0;
                        due = false;
                        closeAhead(open);
                    } else if ("(!-".indexOf(c) >= 0 && open.length() < 6) {
                        open.append(c);
                        if (c == '(') {
                            outer.add(compared);
                            compared = false;
                        }
                    } else {
                        return i;
                    }
                    continue;
                }
                if (c >= '0' && c <= '9' && digits > 0 && digits < 4) {
                    digits++;
                    continue;
                }
                digits = 0;
                boolean outside = open.indexOf("(") < 0;
                if ("+-*/%".indexOf(c) >= 0) {
                    due = true;
                } else if ("<=>".indexOf(c) >= 0 && !compared) {
                    compared = true;
                    due = true;
                } else if (c == '|' || c == '&') {
                    compared = false;
                    due = true;
                } else if (c == ')' && !outside) {
                    open.setLength(open.length() - 1);
                    closeAhead(open);
                    compared = outer.remove(outer.size() - 1);
                } else if (outside && (c == ';' || c == '?' && !asked)) {
                    asked = c == '?';
                    compared = false;
                    due = true;
                } else {
                    return i;
                }
            }
            return due || open.length() > 0 ? text.length() : -1;
        }

        static void closeAhead(StringBuilder open) {
            while (open.length() > 0 && open.charAt(open.length() - 1) != '(') {
                open.setLength(open.length() - 1);
            }
        }

        long runs(int cell) {
            return !in(cell, 0, 35) ? -1 : below(cell) < 0 ? -2 : out(cell);
        }

        long later(int n, int number, int what) {
            if (!in(n, 0, 48) || !in(what, 0, 1) || !(what == 0 ? in(number, 0, 35) : who(number))) {
                return -1;
            }
            return behind(n).of(number, what == 0 ? 1 : 6);
        }

        int whole() {
            return Arrays.stream(luck).sum();
        }

        long all(int n, int what) {
            if (!in(n, 0, 48) || !in(what, 0, 1)) {
                return -1;
            }
            Model then = behind(n);
            if (what == 0) {
                return then.whole();
            }
            int most = Arrays.stream(then.luck).max().getAsInt();
            for (int cell = 0; ; cell++) {
                if (then.luck[cell] == most) {
                    return cell;
                }
            }
        }

        long still() {
            Model then = this;
            for (int n = 0; n <= 48; n++) {
                Model next = then.behind(1);
                boolean same = Arrays.equals(next.luck, then.luck);
                for (int one = 0; one < people.size(); one++) {
                    same &= next.people.get(one).has == then.people.get(one).has;
                }
                if (same) {
                    return n;
                }
                then = next;
            }
            return -2;
        }

        long rich(int one, int x) {
            if (!who(one) || !in(x, 0, 9999)) {
                return -1;
            }
            for (int n = 0; n <= 48; n++) {
                if (behind(n).people.get(one).has >= x) {
                    return n;
                }
            }
            return -2;
        }

        long sink(int cell, int what) {
            if (!in(cell, 0, 35) || !in(what, 0, 1)) {
                return -1;
            }
            int to = below(cell);
            if (to < 0) {
                return what == 0 ? cell : 0;
            }
            return sink(to, what) + what;
        }

        long basin(int cell) {
            if (!in(cell, -1, 35)) {
                return Long.MIN_VALUE;
            }
            long bits = 0;
            for (int from = 0; from < 36; from++) {
                boolean counts = cell < 0 && below(from) < 0;
                for (int at = from; at >= 0; at = below(at)) {
                    counts |= at == cell;
                }
                bits += counts ? 1L << from : 0;
            }
            return bits;
        }

        long fall(int cn, int v, int one) {
            if (cn < 0 || cn / 100 > 35 || cn % 100 > 48 || !in(v, 1, 9999) || !(one == -1 || who(one))) {
                return -2000000000;
            }
            Model other = copy();
            other.luck[cn / 100] = Math.min(9999, luck[cn / 100] + v);
            Model with = other.behind(cn % 100);
            Model without = behind(cn % 100);
            return one == -1 ? with.whole() - without.whole()
                : with.people.get(one).has - without.people.get(one).has;
        }

        boolean hasBy(int a, int b, int one, int t, int x) {
            if (a >= 0 && shoe[a] == 1 || b >= 0 && shoe[b] == 1) {
                return false;
            }
            Model other = copy();
            if (a >= 0) {
                other.shoe[a] = 1;
            }
            if (b >= 0) {
                other.shoe[b] = 1;
            }
            return other.behind(t).people.get(one).has >= x;
        }

        long shoes(int one, int tx, int what) {
            if (!who(one) || tx < 0 || tx / 10000 > 12 || !in(what, 0, 1)) {
                return -1;
            }
            int t = tx / 10000;
            int x = tx % 10000;
            if (hasBy(-1, -1, one, t, x)) {
                return what == 0 ? 0 : -9;
            }
            if (people.get(one).has + t * people.get(one).thirst < x) {
                return -2;
            }
            for (int a = 0; a < 36; a++) {
                if (hasBy(a, -1, one, t, x)) {
                    return what == 0 ? 1 : a;
                }
            }
            for (int a = 0; a < 36; a++) {
                for (int b = a + 1; b < 36; b++) {
                    if (hasBy(a, b, one, t, x)) {
                        return what == 0 ? 2 : 36 * a + b;
                    }
                }
            }
            return -2;
        }

        long seat(int one, int t, int what) {
            if (!who(one) || !in(t, 0, 24) || !in(what, 0, 1)) {
                return -1;
            }
            int best = -1;
            int most = -1;
            for (int cell = 0; cell < 36; cell++) {
                Model other = copy();
                other.people.get(one).cell = cell;
                int has = other.behind(t).people.get(one).has;
                if (has > most) {
                    most = has;
                    best = cell;
                }
            }
            return what == 0 ? best : most;
        }

        int wrongFor(short[] row, int cell) {
            Model then = copy();
            for (int n = 0; n < row.length && n < 49; n++) {
                if (then.luck[cell] != row[n]) {
                    return n;
                }
                then.pass();
            }
            return -2;
        }

        long shorts(int shelf) {
            return shelves[shelf] == null ? -11 : shelves[shelf] instanceof short[] ? 0 : -12;
        }

        long judge(int shelf, int cell) {
            if (!in(shelf, 0, 5) || !in(cell, 0, 35)) {
                return -1;
            }
            return shorts(shelf) != 0 ? shorts(shelf) : wrongFor((short[]) shelves[shelf], cell);
        }

        long seen(int shelf, int cc, int what) {
            if (!in(shelf, 0, 5) || cc < 0 || cc / 100 > 35 || cc % 100 > 35 || !in(what, 0, 2)) {
                return -1;
            }
            if (shorts(shelf) != 0) {
                return shorts(shelf);
            }
            short[] row = (short[]) shelves[shelf];
            int found = 0;
            int least = -2;
            for (int v = 0; v < (what == 0 ? 3 : 100); v++) {
                Model other = copy();
                (what == 0 ? other.shoe : other.luck)[cc % 100] = v;
                if (other.wrongFor(row, cc / 100) == -2) {
                    found += what == 0 ? 1 << v : 1;
                    least = least == -2 ? v : least;
                }
            }
            return what == 2 ? least : found;
        }

        List<Integer> ways(int shelf) {
            List<Integer> ways = new ArrayList<>();
            for (short paid : (short[]) shelves[shelf]) {
                if (paid < 1 || paid > 999 || ways.size() == 6) {
                    break;
                }
                ways.add((int) paid);
            }
            return ways;
        }

        java.math.BigInteger[] fraction(int shelf) {
            java.math.BigInteger below = java.math.BigInteger.ONE;
            for (int paid : ways(shelf)) {
                below = below.multiply(java.math.BigInteger.valueOf(paid));
            }
            java.math.BigInteger above = java.math.BigInteger.ZERO;
            for (int paid : ways(shelf)) {
                above = above.add(below.multiply(java.math.BigInteger.valueOf(100))
                    .divide(java.math.BigInteger.valueOf(paid)));
            }
            java.math.BigInteger common = above.gcd(below);
            return new java.math.BigInteger[] {above.divide(common), below.divide(common)};
        }

        long bets(int shelf, int what) {
            if (!in(shelf, 0, 5) || !in(what, 0, 1)) {
                return -1;
            }
            if (shorts(shelf) != 0) {
                return shorts(shelf);
            }
            List<Integer> ways = ways(shelf);
            if (ways.isEmpty()) {
                return what == 0 ? 0 : -2;
            }
            if (what == 1) {
                return ways.indexOf(java.util.Collections.max(ways));
            }
            return fraction(shelf)[0].compareTo(fraction(shelf)[1]) < 0 ? 1 : 0;
        }

        long margin(int shelf, int part) {
            if (!in(shelf, 0, 5) || !in(part, 0, 1) || shorts(shelf) != 0) {
                return Long.MIN_VALUE;
            }
            return fraction(shelf)[part].longValueExact();
        }

        int[] played(int[] ab, int y, int left, int t, boolean firstsTurn) {
            if (left == 0) {
                Model then = behind(t);
                return new int[] {then.people.get(ab[0]).has - then.people.get(ab[1]).has, 6};
            }
            int[] best = null;
            for (int x : new int[] {6, 0, 1, 2, 3, 4, 5}) {
                Model other = copy();
                if (x < 6) {
                    other.shoe[6 * y + x] = (shoe[6 * y + x] + 1) % 3;
                }
                int got = other.played(ab, y, left - 1, t, !firstsTurn)[0];
                if (best == null || (firstsTurn ? got > best[0] : got < best[0])) {
                    best = new int[] {got, x};
                }
            }
            return best;
        }

        long byTurns(int ab, int ynt, int what) {
            if (ab < 0 || !who(ab / 10) || !who(ab % 10) || ab / 10 == ab % 10 || !in(what, 0, 1)) {
                return -2000000000;
            }
            if (ynt < 0 || ynt / 100 > 5 || !in(ynt / 10 % 10, 1, 3) || ynt % 10 > 6) {
                return -2000000000;
            }
            return played(new int[] {ab / 10, ab % 10}, ynt / 100, ynt / 10 % 10, ynt % 10, true)[what];
        }

        long drawn(int seed, int nmc, int one) {
            int n = nmc / 10000;
            int m = nmc / 100 % 100;
            int carts = nmc % 100;
            if (nmc < 0 || !in(n, 1, 30) || !in(m, 1, 40) || carts > 12 || !(one == -1 || who(one))) {
                return -1;
            }
            long whole = 0;
            int z = seed;
            for (int year = 0; year < n; year++) {
                Model then = copy();
                for (int i = 0; i < m; i++) {
                    z = z * 1103515245 + 12345;
                    for (One each : then.people) {
                        if (each.cell == (z >>> 8) % 36 && (z >>> 16) % 12 < carts) {
                            each.has /= 2;
                        }
                    }
                    then.pass();
                }
                for (int each = 0; each < people.size(); each++) {
                    whole += one == -1 || one == each ? then.people.get(each).has : 0;
                }
            }
            return whole;
        }

        long hour() {
            pass();
            led[0]++;
            led[1] += drunk;
            led[2] += out;
            return drunk;
        }

        long pour(int cell, int v) {
            if (!in(cell, 0, 35) || !in(v, 1, 9999)) {
                return -1;
            }
            led[3] += v;
            luck[cell] = Math.min(9999, luck[cell] + v);
            return luck[cell];
        }

        long hang(int cell, int to) {
            if (!in(cell, 0, 35) || !in(to, 0, 2)) {
                return -1;
            }
            led[4]++;
            int was = shoe[cell];
            shoe[cell] = to;
            return was;
        }

        long moves(int one, int cell) {
            if (!who(one) || !in(cell, 0, 35)) {
                return -1;
            }
            int was = people.get(one).cell;
            people.get(one).cell = cell;
            return was;
        }

        long led(int what) {
            return in(what, 0, 4) ? led[what] : -1;
        }

        long image() {
            image = copy();
            return led[0];
        }

        long back() {
            if (image == null) {
                return -5;
            }
            luck = image.luck.clone();
            shoe = image.shoe.clone();
            hour = image.hour;
            led = image.led.clone();
            for (int one = 0; one < image.people.size(); one++) {
                people.get(one).cell = image.people.get(one).cell;
                people.get(one).has = image.people.get(one).has;
            }
            return led[0];
        }

        long body(int kind) {
            if (!in(kind, 0, 7)) {
                return -1;
            }
            if (bodies.size() == 50) {
                return -3;
            }
            bodies.add(shoeOf(kind, bodies.size()));
            return bodies.size() - 1;
        }

        Shoe shoeOf(int kind, int n) {
            switch (kind) {
                case 0: return new Shoe(ran, n);
                case 1: return new Point(ran, n);
                case 2: return new Cellar(ran, n);
                case 3: return new Rat(ran, n);
                case 4: return new Potman(ran, n);
                case 5: return new Cart(ran, n);
                case 6: return new Cup(ran, n);
                default: return new Horse(ran, n);
            }
        }

        long act(int body, int act, int x) {
            ran.clear();
            if (!in(body, 0, bodies.size() - 1) || !in(act, 0, 3)) {
                return 0;
            }
            Shoe of = bodies.get(body);
            return act == 0 ? of.runs(x) : act == 1 ? of.holds(x) : act == 2 ? of.drinks(x) : of.tells(x);
        }

        long trace(int i) {
            return in(i, 0, Math.min(24, ran.size()) - 1) ? ran.get(i) : -1;
        }

        long keep(int shelf, int body) {
            if (!in(shelf, 0, 5) || !in(body, -1, bodies.size() - 1)) {
                return -1;
            }
            shelves[shelf] = body < 0 ? null : bodies.get(body);
            return 1;
        }

        long row(int shelf, int sort, int n) {
            if (!in(shelf, 0, 5) || !in(sort, 0, 4) || n > 60) {
                return -1;
            }
            if (n < 0) {
                return -14;
            }
            shelves[shelf] = sort == 0 ? new byte[n] : sort == 1 ? new short[n] : sort == 2 ? new int[n]
                : sort == 3 ? (Object) new long[n] : new boolean[n];
            return 1;
        }

        long refusal(int shelf, int i) {
            if (!in(shelf, 0, 5)) {
                return -1;
            }
            Object held = shelves[shelf];
            return held == null ? -11 : held instanceof Shoe ? -12
                : in(i, 0, java.lang.reflect.Array.getLength(held) - 1) ? 0 : -13;
        }

        long put(int shelf, int i, long v) {
            if (refusal(shelf, i) != 0) {
                return refusal(shelf, i);
            }
            Object held = shelves[shelf];
            if (held instanceof byte[]) {
                ((byte[]) held)[i] = (byte) v;
            } else if (held instanceof short[]) {
                ((short[]) held)[i] = (short) v;
            } else if (held instanceof int[]) {
                ((int[]) held)[i] = (int) v;
            } else if (held instanceof long[]) {
                ((long[]) held)[i] = v;
            } else {
                ((boolean[]) held)[i] = v != 0;
            }
            return 1;
        }

        long element(int shelf, int i) {
            if (refusal(shelf, i) != 0) {
                return Long.MIN_VALUE;
            }
            Object of = java.lang.reflect.Array.get(shelves[shelf], i);
            return of instanceof Boolean ? ((Boolean) of ? 1 : 0) : ((Number) of).longValue();
        }

        long shift(int shelf, int i, int other, int j, int n) {
            if (!in(shelf, 0, 5) || !in(other, 0, 5)) {
                return -1;
            }
            try {
                System.arraycopy(shelves[shelf], i, shelves[other], j, n);
            } catch (NullPointerException e) {
                return -11;
            } catch (ArrayStoreException e) {
                return -12;
            } catch (IndexOutOfBoundsException e) {
                return -13;
            }
            return n;
        }

        long taken(int shelf, int k) {
            if (!in(shelf, 0, 5) || !in(k, 0, 7)) {
                return -1;
            }
            if (shelves[shelf] == null) {
                return -11;
            }
            Class<?> kind = shoeOf(k, 0).getClass();
            return kind.isInstance(shelves[shelf]) ? ((Shoe) shelves[shelf]).kind() : -12;
        }

        long count(int what) {
            switch (what) {
                case 0: return people.size();
                case 1: return Arrays.stream(luck).filter(l -> l > 0).count();
                case 2: return tape.length();
                case 3: return done.size();
                case 4: return bodies.size();
                case 5: return ran.size();
                default: return -1;
            }
        }
    }
}
