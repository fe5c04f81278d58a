import java.util.Arrays;
import java.util.Random;

/** Long runs of calls on SixAcres, each answer held against Plain's. The seeds are fixed, so a run is always the same. */
public final class RunsTest {
    private static final String[] NAMES = {"day", "note", "undo", "state", "door", "way", "bar", "out", "cutOff",
        "weigh", "load", "broken", "adds", "feed", "custom", "fault", "rule", "may", "pay", "paid", "wire", "amps",
        "gone", "twice", "supply", "turn", "water", "says", "kept", "foul", "fire", "saved", "wall", "wish", "met",
        "clear", "goes", "count"};
    private static final int[] EDGES = {Integer.MIN_VALUE, -2, -1, 0, 1, 6, 7, 8, 39, 40, 47, 48, 59, 60, 191, 192, 239,
        240, 299, 300, 999, 1000, 9999, 10000, 99999, 100000, Integer.MAX_VALUE};

    private final Random random;
    private final int cellsWide;
    private final int cellsDeep;
    private final int floors;
    private final int wildness;
    private SixAcres real = new SixAcres();
    private Plain plain = new Plain();
    private int wrong;

    private RunsTest(int seed) {
        random = new Random(seed);
        cellsWide = 2 + random.nextInt(random.nextInt(3) == 0 ? 7 : 3);
        cellsDeep = 1 + random.nextInt(random.nextInt(3) == 0 ? 6 : 3);
        floors = 1 + random.nextInt(5);
        wildness = random.nextInt(4) == 0 ? 5 : 60;
    }

    public static void main(String[] args) {
        int wrong = 0;
        for (int seed = 0; seed < 400 && wrong < 20; seed++) {
            RunsTest run = new RunsTest(seed);
            run.go(seed, seed % 3);
            wrong += run.wrong;
        }
        System.out.println(wrong == 0 ? "runs: all answers as Plain's" : "runs: " + wrong + " answers not as Plain's");
        System.exit(wrong == 0 ? 0 : 1);
    }

    private void go(int seed, int style) {
        int calls = style == 0 ? 0 : build(seed, style);
        while (calls < 500) {
            if (random.nextInt(40) == 0) {
                calls += tellCustom(seed);
            } else {
                int op = random.nextInt(NAMES.length);
                boolean tooOften = op == 0 || op == 2 || op == 9 || op == 13 || op == 35;
                if (op != 14 && (!tooOften || random.nextInt(8) == 0)) {
                    check(seed, op, arguments(op));
                    calls++;
                }
            }
        }
    }

    /** Rooms and doors all over the part of the block that the run is about, with a custom, wires and turns. */
    private int build(int seed, int style) {
        int rooms = 4 + random.nextInt(7);
        int walls = 3 + random.nextInt(7);
        int calls = tellCustom(seed);
        for (int c = 0; c < 240; c++) {
            if (c / 48 < floors && c / 8 % 6 < cellsDeep && c % 8 < cellsWide && calls < 360) {
                if (random.nextInt(10) < rooms) {
                    int kind = kind(c, style);
                    check(seed, 1, c, kind, random.nextInt(7) - 1, kind % 7 == 0 ? 0 : random.nextInt(6), 0);
                    calls++;
                }
                for (int next : new int[] {c + 1, c + 8}) {
                    if (random.nextInt(10) < walls && Plain.cell(next) && Plain.beside(c, next)) {
                        check(seed, 4, c, next, pick(1, 1, 2));
                        calls++;
                    }
                }
            }
        }
        for (int i = 0; i < 40; i++) {
            int op = pick(20, 20, 24, 25, 27, 33);
            check(seed, op, arguments(op));
        }
        return calls + 40;
    }

    private int kind(int cell, int style) {
        if (style == 2 && random.nextInt(2) == 0) {
            return cell % 8 == 1 ? 5 : cell < 48 ? 4 : 3;
        }
        return kind(cell);
    }

    private int pick(int... of) {
        return of[random.nextInt(of.length)];
    }

    private int n(int below) {
        return random.nextInt(wildness) == 0 ? pick(EDGES) : random.nextInt(below);
    }

    private int cell() {
        if (random.nextInt(wildness) == 0) {
            return random.nextInt(4) == 0 ? pick(EDGES) : random.nextInt(240);
        }
        return 48 * random.nextInt(floors) + 8 * random.nextInt(cellsDeep) + random.nextInt(cellsWide);
    }

    private int kind(int cell) {
        if (random.nextInt(3) == 0) {
            return n(8);
        }
        return cell < 48 ? pick(1, 2, 4, 4, 5, 6) : pick(1, 1, 2, 3, 3, 5, 5, 6);
    }

    private int day() {
        return random.nextInt(wildness) == 0 ? pick(EDGES) : random.nextInt(plain.today + 3);
    }

    private int[] arguments(int op) {
        int c = cell();
        switch (NAMES[op]) {
            case "day": return new int[] {plain.today + n(5)};
            case "note": {
                int k = kind(c);
                int people = k % 7 == 0 ? n(9) / 8 : n(10);
                int from = random.nextInt(wildness) == 0 ? n(9) - 1 : Math.max(0, plain.today - random.nextInt(4) / 2);
                return new int[] {c, k, n(8) - 1, people, from};
            }
            case "undo": return new int[] {n(plain.notes.size() + 1)};
            case "state": return new int[] {c, day(), day(), n(4)};
            case "door": return new int[] {c, c + pick(1, 1, 8, 8, -1, -8, pick(0, 2, 48, 7)), pick(1, 1, 1, 2, 2, n(3))};
            case "way": return new int[] {c, cell(), day(), day()};
            case "bar": return new int[] {c, cell()};
            case "weigh": return new int[] {n(8), n(30), n(120)};
            case "adds": return new int[] {c, n(8), n(2)};
            case "feed": return new int[] {random.nextInt(), random.nextInt(), random.nextInt(), 1, 2};
            case "rule": return new int[] {n(8), n(2)};
            case "may": return new int[] {c, n(8)};
            case "paid": return new int[] {n(8)};
            case "wire": return new int[] {c, n(plain.wires.size() + 1) - 1, n(30)};
            case "amps": return new int[] {n(plain.wires.size() + 1), n(4)};
            case "supply", "says": return new int[] {c, n(40)};
            case "turn": return new int[] {c, cell()};
            case "kept": return new int[] {c, n(5), n(2)};
            case "fire": return new int[] {c, cell()};
            case "wish": return new int[] {c, 1 + n(6)};
            case "met": return new int[] {n(2)};
            case "goes": return new int[] {n(12)};
            case "broken", "gone", "twice": return new int[] {n(4)};
            case "count": return new int[] {n(12)};
            case "fault", "clear": return new int[0];
            default: return new int[] {c};
        }
    }

    private int tellCustom(int seed) {
        String text = new PlainTexts(random).text();
        int calls = 0;
        int at = 0;
        int before = plain.tape.length();
        while (at < text.length() && plain.tape.length() + 20 <= 500) {
            int[] words = new int[5];
            for (int i = 0; i < 20; i++) {
                int b = at + i < text.length() ? text.charAt(at + i) : ' ';
                words[i / 4] = words[i / 4] << 8 | b;
            }
            check(seed, 13, words);
            at += 20;
            calls++;
        }
        int length = random.nextInt(12) == 0 ? n(520) : Math.min(before + text.length(), plain.tape.length());
        check(seed, 14, length);
        check(seed, 15);
        return calls + 2;
    }

    private void check(int seed, int op, int... a) {
        long want = ofPlain(op, a);
        long got = ofReal(op, a);
        if (got != want) {
            wrong++;
            System.out.println("seed " + seed + ": " + NAMES[op] + Arrays.toString(a) + " answered " + got + ", Plain "
                    + want);
        }
    }

    private static long bit(boolean b) {
        return b ? 1 : 0;
    }

    private long ofReal(int op, int[] a) {
        SixAcres s = real;
        switch (NAMES[op]) {
            case "day": return bit(s.day(a[0]));
            case "note": return s.note(a[0], a[1], a[2], a[3], a[4]);
            case "undo": return bit(s.undo(a[0]));
            case "state": return s.state(a[0], a[1], a[2], a[3]);
            case "door": return bit(s.door(a[0], a[1], a[2]));
            case "way": return s.way(a[0], a[1], a[2], a[3]);
            case "bar": return s.bar(a[0], a[1]);
            case "out": return s.out(a[0]);
            case "cutOff": return s.cutOff(a[0]);
            case "weigh": return bit(s.weigh(a[0], a[1], a[2]));
            case "load": return s.load(a[0]);
            case "broken": return s.broken(a[0]);
            case "adds": return s.adds(a[0], a[1], a[2]);
            case "feed": return s.feed(a[0], a[1], a[2], a[3], a[4]);
            case "custom": return s.custom(a[0]);
            case "fault": return s.fault();
            case "rule": return s.rule(a[0], a[1]);
            case "may": return s.may(a[0], a[1]);
            case "pay": return s.pay(a[0]);
            case "paid": return s.paid(a[0]);
            case "wire": return s.wire(a[0], a[1], a[2]);
            case "amps": return s.amps(a[0], a[1]);
            case "gone": return s.gone(a[0]);
            case "twice": return s.twice(a[0]);
            case "supply": return bit(s.supply(a[0], a[1]));
            case "turn": return s.turn(a[0], a[1]);
            case "water": return s.water(a[0]);
            case "says": return bit(s.says(a[0], a[1]));
            case "kept": return s.kept(a[0], a[1], a[2]);
            case "foul": return s.foul(a[0]);
            case "fire": return s.fire(a[0], a[1]);
            case "saved": return s.saved(a[0]);
            case "wall": return s.wall(a[0]);
            case "wish": return s.wish(a[0], a[1]);
            case "met": return s.met(a[0]);
            case "clear": return s.clear();
            case "goes": return s.goes(a[0]);
            default: return s.count(a[0]);
        }
    }

    private long ofPlain(int op, int[] a) {
        Plain p = plain;
        switch (NAMES[op]) {
            case "day": return p.day(a[0]);
            case "note": return p.note(a[0], a[1], a[2], a[3], a[4]);
            case "undo": return p.undo(a[0]);
            case "state": return p.state(a[0], a[1], a[2], a[3]);
            case "door": return p.door(a[0], a[1], a[2]);
            case "way": return p.way(a[0], a[1], a[2], a[3]);
            case "bar": return p.bar(a[0], a[1]);
            case "out": return p.out(a[0]);
            case "cutOff": return p.cutOff(a[0]);
            case "weigh": return p.weigh(a[0], a[1], a[2]);
            case "load": return p.load(a[0]);
            case "broken": return p.broken(a[0]);
            case "adds": return p.adds(a[0], a[1], a[2]);
            case "feed": return p.feed(a);
            case "custom": return p.custom(a[0]);
            case "fault": return p.faultPlace;
            case "rule": return p.rule(a[0], a[1]);
            case "may": return p.may(a[0], a[1]);
            case "pay": return p.pay(a[0]);
            case "paid": return p.paid(a[0]);
            case "wire": return p.wire(a[0], a[1], a[2]);
            case "amps": return p.amps(a[0], a[1]);
            case "gone": return p.gone(a[0]);
            case "twice": return p.twice(a[0]);
            case "supply": return p.supply(a[0], a[1]);
            case "turn": return p.turn(a[0], a[1]);
            case "water": return p.water(a[0]);
            case "says": return p.says(a[0], a[1]);
            case "kept": return p.kept(a[0], a[1], a[2]);
            case "foul": return p.foul(a[0]);
            case "fire": return p.fire(a[0], a[1]);
            case "saved": return p.saved(a[0]);
            case "wall": return p.wall(a[0]);
            case "wish": return p.wish(a[0], a[1]);
            case "met": return p.met(a[0]);
            case "clear": return p.clear();
            case "goes": return p.goes(a[0]);
            default: return p.count(a[0]);
        }
    }
}
