/** For each promise of the document: ordinary inputs, the edges that it names, and wrong inputs, worked out by hand. */
public final class PromiseTest {
    private static final int NONE = SixAcres.NONE;
    private static final int LEAST = Integer.MIN_VALUE;
    private static final int MOST = Integer.MAX_VALUE;
    private static int wrong;
    private static int asked;

    public static void main(String[] args) {
        newObject();
        day();
        note();
        undo();
        state();
        stateByTwoTimes();
        door();
        way();
        bar();
        out();
        cutOff();
        weigh();
        load();
        broken();
        adds();
        feed();
        custom();
        fault();
        rule();
        may();
        pay();
        paid();
        wire();
        amps();
        gone();
        twice();
        supply();
        turn();
        water();
        says();
        kept();
        foul();
        fire();
        saved();
        wall();
        wish();
        met();
        clear();
        goes();
        count();
        System.out.println("promises: " + asked + " answers asked, " + wrong + " not as due");
        System.exit(wrong == 0 ? 0 : 1);
    }

    private static void due(int promise, String call, long got, long want) {
        asked++;
        if (got != want) {
            wrong++;
            System.out.println("promise " + promise + ": " + call + " answered " + got + ", due is " + want);
        }
    }

    private static void due(int promise, String call, boolean got, boolean want) {
        due(promise, call, got ? 1 : 0, want ? 1 : 0);
    }

    private static SixAcres block(int... cellKindPeople) {
        SixAcres s = new SixAcres();
        for (int i = 0; i < cellKindPeople.length; i += 3) {
            s.note(cellKindPeople[i], cellKindPeople[i + 1], NONE, cellKindPeople[i + 2], 0);
        }
        return s;
    }

    private static int tell(SixAcres s, String text) {
        TextsTest.tape(s, text);
        return s.custom(text.length());
    }

    private static void newObject() {
        SixAcres s = new SixAcres();
        due(1, "NONE", SixAcres.NONE, -1);
        for (int what = 0; what <= 11; what++) {
            due(1, "count " + what, s.count(what), 0);
        }
        for (int cell = 0; cell < 240; cell++) {
            due(1, "state", s.state(cell, 9999, 9999, 0), 0);
            due(1, "load", s.load(cell), 0);
        }
        due(1, "fault", s.fault(), NONE);
        due(1, "may", s.may(0, 1), NONE);
        due(1, "rule", s.rule(1, 0), 2);
        due(1, "rule", s.rule(6, 1), 3);
    }

    private static void day() {
        SixAcres s = new SixAcres();
        due(2, "day 0", s.day(0), false);
        due(2, "day -1", s.day(-1), false);
        due(2, "day least", s.day(LEAST), false);
        due(2, "day 7", s.day(7), true);
        due(2, "day 7 again", s.day(7), false);
        due(2, "day 6", s.day(6), false);
        due(2, "day 10000", s.day(10000), false);
        due(2, "day most", s.day(MOST), false);
        due(2, "today", s.count(0), 7);
        due(2, "day 9999", s.day(9999), true);
        due(2, "today", s.count(0), 9999);
    }

    private static void note() {
        SixAcres s = new SixAcres();
        due(3, "first", s.note(0, 1, 0, 9, 0), 0);
        due(3, "second", s.note(239, 7, 39, 0, 0), 1);
        due(3, "space with an owner", s.note(5, 0, 3, 0, 0), 2);
        int[][] refused = {{-1, 1, 0, 0, 0}, {240, 1, 0, 0, 0}, {0, -1, 0, 0, 0}, {0, 8, 0, 0, 0}, {0, 1, -2, 0, 0},
            {0, 1, 40, 0, 0}, {0, 1, 0, -1, 0}, {0, 1, 0, 10, 0}, {0, 0, 0, 1, 0}, {0, 7, 0, 1, 0}, {0, 1, 0, 0, 1},
            {0, 1, 0, 0, -1}, {LEAST, LEAST, LEAST, LEAST, LEAST}, {MOST, MOST, MOST, MOST, MOST}};
        for (int[] a : refused) {
            due(3, "refused", s.note(a[0], a[1], a[2], a[3], a[4]), NONE);
        }
        due(3, "did nothing", s.count(1), 3);
        due(3, "did nothing", s.state(0, 0, 0, 2), 9);
        s.day(4);
        due(3, "from today", s.note(0, 2, NONE, 0, 4), 3);
        due(3, "from tomorrow", s.note(0, 2, NONE, 0, 5), NONE);
        for (int i = 4; i < 300; i++) {
            due(3, "numbers", s.note(1, 1, NONE, 0, 0), i);
        }
        due(3, "301st", s.note(1, 2, NONE, 0, 0), NONE);
        due(4, "too high", s.undo(300), false);
        due(3, "undone ones count", s.undo(0), true);
        due(3, "301st", s.note(1, 2, NONE, 0, 0), NONE);
        due(3, "did nothing", s.state(1, 4, 4, 0), 1);
    }

    private static void undo() {
        SixAcres s = new SixAcres();
        due(4, "none", s.undo(0), false);
        s.note(3, 1, NONE, 0, 0);
        s.note(3, 2, NONE, 0, 0);
        due(4, "negative", s.undo(-1), false);
        due(4, "too high", s.undo(2), false);
        due(4, "least", s.undo(LEAST), false);
        due(4, "most", s.undo(MOST), false);
        due(4, "undone", s.undo(1), true);
        due(4, "it is", s.undo(1), false);
        due(4, "the earlier one holds", s.state(3, 0, 0, 0), 1);
        s.day(5);
        due(4, "undone", s.undo(0), true);
        due(4, "known before", s.state(3, 5, 4, 0), 1);
        due(4, "not known from then on", s.state(3, 5, 5, 0), 0);
        due(4, "not known from then on", s.state(3, 0, 9999, 3), NONE);
    }

    private static void state() {
        SixAcres s = new SixAcres();
        s.note(7, 6, 12, 3, 0);
        due(5, "kind", s.state(7, 0, 0, 0), 6);
        due(5, "owner", s.state(7, 0, 0, 1), 12);
        due(5, "people", s.state(7, 0, 0, 2), 3);
        due(5, "from", s.state(7, 9999, 9999, 3), 0);
        due(5, "no kind", s.state(8, 0, 0, 0), 0);
        due(5, "no owner", s.state(8, 0, 0, 1), NONE);
        due(5, "no people", s.state(8, 0, 0, 2), 0);
        due(5, "never told", s.state(8, 0, 0, 3), NONE);
        int[][] refused = {{-1, 0, 0, 0}, {240, 0, 0, 0}, {7, -1, 0, 0}, {7, 10000, 0, 0}, {7, 0, -1, 0},
            {7, 0, 10000, 0}, {7, 0, 0, -1}, {7, 0, 0, 4}, {MOST, MOST, MOST, MOST}, {LEAST, LEAST, LEAST, LEAST}};
        for (int[] a : refused) {
            due(5, "none such", s.state(a[0], a[1], a[2], a[3]), -2);
        }
    }

    private static void stateByTwoTimes() {
        SixAcres s = new SixAcres();
        s.day(10);
        s.note(0, 1, NONE, 1, 5);
        s.day(20);
        s.note(0, 2, NONE, 2, 3);
        s.note(0, 4, NONE, 4, 15);
        s.note(0, 5, NONE, 5, 15);
        due(5, "before all", s.state(0, 2, 20, 0), 0);
        due(5, "by the late note", s.state(0, 4, 20, 0), 2);
        due(5, "not known yet", s.state(0, 4, 19, 0), 0);
        due(5, "the latest from-day, not the note told last", s.state(0, 14, 20, 0), 1);
        due(5, "of one day the one told last", s.state(0, 15, 20, 2), 5);
        due(5, "as known then", s.state(0, 20, 19, 3), 5);
        due(5, "not known at all", s.state(0, 20, 9, 3), NONE);
        s.undo(3);
        due(5, "told and undone on one day", s.state(0, 20, 20, 0), 4);
        s.day(21);
        s.undo(0);
        due(5, "undone, known by then", s.state(0, 14, 20, 0), 1);
        due(5, "undone", s.state(0, 14, 21, 0), 2);
    }

    private static void door() {
        SixAcres s = new SixAcres();
        due(6, "x", s.door(0, 1, 1), true);
        due(6, "y", s.door(16, 8, 2), true);
        due(6, "told again", s.door(1, 0, 2), true);
        due(6, "count", s.count(2), 2);
        due(6, "none", s.door(0, 1, 0), true);
        due(6, "count", s.count(2), 1);
        int[][] refused = {{7, 8, 1}, {40, 48, 1}, {47, 48, 1}, {0, 48, 1}, {3, 3, 1}, {0, 9, 1}, {0, 2, 1}, {-1, 0, 1},
            {239, 240, 1}, {232, 240, 1}, {0, 1, -1}, {0, 1, 3}, {MOST, LEAST, 1}, {0, 1, MOST}, {LEAST, MOST, LEAST}};
        for (int[] a : refused) {
            due(6, "refused " + a[0] + " " + a[1], s.door(a[0], a[1], a[2]), false);
        }
        due(6, "count", s.count(2), 1);
        due(6, "last in the block", s.door(239, 238, 1), true);
        due(6, "last in the block", s.door(231, 239, 1), true);
    }

    private static void way() {
        SixAcres s = block(0, 4, 0, 1, 1, 0, 2, 3, 0, 3, 3, 0, 9, 5, 0, 57, 5, 0, 105, 5, 0, 58, 2, 0, 4, 7, 0, 8, 1, 0);
        s.door(0, 1, 1);
        s.door(1, 2, 1);
        s.door(1, 9, 1);
        s.door(57, 58, 1);
        s.door(3, 4, 1);
        s.door(4, 5, 1);
        s.door(0, 8, 2);
        due(7, "itself", s.way(0, 0, 0, 0), 0);
        due(7, "bricked up itself", s.way(4, 4, 0, 0), NONE);
        due(7, "space itself", s.way(5, 5, 0, 0), NONE);
        due(7, "over roofs", s.way(0, 3, 0, 0), 3);
        due(7, "to what is bricked up", s.way(3, 4, 0, 0), NONE);
        due(7, "by a shut door", s.way(0, 8, 0, 0), NONE);
        due(7, "up stairs", s.way(0, 58, 0, 0), 4);
        due(7, "down stairs", s.way(105, 3, 0, 0), 5);
        s.day(2);
        s.note(57, 1, NONE, 0, 1);
        due(7, "no stair any more", s.way(0, 58, 2, 2), NONE);
        due(7, "on an earlier day", s.way(0, 58, 0, 2), 4);
        due(7, "as known earlier", s.way(0, 58, 2, 1), 4);
        due(7, "on a day to come", s.way(0, 9, 9999, 9999), 2);
        int[][] refused = {{-1, 0, 0, 0}, {0, 240, 0, 0}, {0, 1, -1, 0}, {0, 1, 10000, 0}, {0, 1, 0, -1}, {0, 1, 0, 10000},
            {LEAST, MOST, LEAST, MOST}};
        for (int[] a : refused) {
            due(7, "none such", s.way(a[0], a[1], a[2], a[3]), NONE);
        }
    }

    private static void bar() {
        SixAcres s = block(0, 1, 0, 1, 1, 0, 8, 1, 0, 9, 1, 0, 2, 1, 0, 10, 7, 0);
        s.door(0, 1, 2);
        s.door(0, 8, 1);
        s.door(8, 9, 2);
        s.door(1, 9, 1);
        s.door(1, 2, 2);
        s.door(9, 10, 2);
        due(8, "the first of two", s.bar(0, 9), 1);
        due(8, "the other way about", s.bar(9, 0), 1);
        due(8, "two doors in a row", s.bar(0, 2), NONE);
        due(8, "one door", s.bar(9, 2), 242);
        due(8, "there is a way", s.bar(0, 8), NONE);
        due(8, "itself", s.bar(0, 0), NONE);
        due(8, "bricked up", s.bar(9, 10), NONE);
        due(8, "space", s.bar(0, 30), NONE);
        due(8, "space itself", s.bar(30, 30), NONE);
        s.door(0, 1, 0);
        due(8, "the greater lesser cell", s.bar(0, 1), 240 * 8 + 9);
        s.door(0, 1, 2);
        s.door(0, 8, 0);
        s.door(0, 8, 2);
        s.door(8, 9, 1);
        due(8, "least lesser, then least greater", s.bar(0, 9), 1);
        due(8, "none such", s.bar(-1, 0), NONE);
        due(8, "none such", s.bar(0, 240), NONE);
        due(8, "none such", s.bar(LEAST, MOST), NONE);
    }

    private static void out() {
        SixAcres s = block(9, 4, 0, 8, 4, 0, 10, 1, 0, 11, 1, 0, 15, 4, 0, 4, 4, 0, 44, 4, 0, 48, 4, 0, 18, 7, 0);
        s.door(8, 9, 1);
        s.door(9, 10, 1);
        s.door(10, 11, 2);
        due(9, "x 0", s.out(8), 0);
        due(9, "x 7", s.out(15), 0);
        due(9, "y 0", s.out(4), 0);
        due(9, "y 5", s.out(44), 0);
        due(9, "floor 1", s.out(48), NONE);
        due(9, "a passage within", s.out(9), 1);
        due(9, "two steps", s.out(10), 2);
        due(9, "shut", s.out(11), NONE);
        due(9, "space", s.out(12), NONE);
        due(9, "bricked up", s.out(18), NONE);
        s.note(3, 4, NONE, 0, 0);
        s.note(2, 1, NONE, 0, 0);
        s.door(2, 3, 1);
        s.door(2, 10, 1);
        due(9, "the nearer one", s.out(2), 1);
        due(9, "none such", s.out(-1), NONE);
        due(9, "none such", s.out(240), NONE);
        due(9, "none such", s.out(LEAST), NONE);
        due(9, "none such", s.out(MOST), NONE);
    }

    private static void cutOff() {
        SixAcres s = block(0, 4, 1, 1, 1, 2, 2, 1, 4, 3, 1, 5, 9, 1, 8, 11, 7, 0);
        s.door(0, 1, 1);
        s.door(1, 2, 1);
        s.door(2, 3, 1);
        s.door(1, 9, 2);
        due(10, "the exit", s.cutOff(0), 11);
        due(10, "others' people alone", s.cutOff(1), 9);
        due(10, "the last but one", s.cutOff(2), 5);
        due(10, "the last", s.cutOff(3), 0);
        due(10, "without a way", s.cutOff(9), 0);
        due(10, "space", s.cutOff(20), 0);
        due(10, "bricked up", s.cutOff(11), 0);
        s.door(1, 9, 1);
        s.note(10, 1, NONE, 0, 0);
        s.door(9, 10, 1);
        s.door(2, 10, 1);
        due(10, "a ring", s.cutOff(2), 5);
        due(10, "a ring", s.cutOff(9), 0);
        due(10, "a ring", s.cutOff(1), 17);
        s.note(3, 4, NONE, 5, 0);
        due(10, "two exits", s.cutOff(0), 0);
        due(10, "two exits", s.cutOff(1), 0);
        SixAcres above = block(0, 4, 0, 1, 5, 0, 49, 5, 2, 48, 4, 3);
        above.door(0, 1, 1);
        above.door(48, 49, 1);
        due(10, "a passage above is no exit", above.cutOff(49), 3);
        due(10, "by a stair", above.cutOff(1), 5);
        due(10, "none such", s.cutOff(-1), NONE);
        due(10, "none such", s.cutOff(240), NONE);
        due(10, "none such", s.cutOff(MOST), NONE);
    }

    private static void weigh() {
        SixAcres s = block(0, 7, 0, 1, 1, 0);
        due(11, "bricked up", s.weigh(7, 9999, 9999), true);
        due(11, "nothing", s.weigh(1, 0, 0), true);
        due(11, "load", s.load(0), 9999);
        due(11, "load", s.load(1), 0);
        due(11, "none broken", s.broken(0), NONE);
        int[][] refused = {{0, 1, 1}, {8, 1, 1}, {-1, 1, 1}, {1, -1, 1}, {1, 10000, 1}, {1, 1, -1}, {1, 1, 10000},
            {MOST, MOST, MOST}, {LEAST, LEAST, LEAST}};
        for (int[] a : refused) {
            due(11, "refused", s.weigh(a[0], a[1], a[2]), false);
        }
        due(11, "did nothing", s.load(1), 0);
        due(11, "over", s.weigh(1, 1, 0), true);
        due(11, "over", s.broken(0), 1);
    }

    private static void load() {
        int[] weights = {0, 10, 20, 4, 5, 12, 8, 10};
        for (int kind = 1; kind < 8; kind++) {
            due(12, "weight", block(0, kind, 0).load(0), weights[kind]);
        }
        // Cell 57 hangs with 7 beside 49, 56, 58 and 65, which stand; shop 105 on it brings 20 more.
        SixAcres s = block(1, 1, 0, 8, 1, 0, 10, 1, 0, 17, 1, 0, 49, 1, 0, 56, 1, 0, 58, 1, 0, 65, 1, 0, 57, 4, 2, 105, 2, 0);
        due(12, "hangs", s.load(57), 27);
        due(12, "part and one more", s.load(49), 17);
        due(12, "part and one more", s.load(56), 17);
        due(12, "part and one more", s.load(58), 17);
        due(12, "part", s.load(65), 16);
        due(12, "goes on down", s.load(1), 27);
        due(12, "goes on down", s.load(17), 26);
        due(12, "nothing goes straight down", s.load(9), 0);
        s.note(17, 0, NONE, 0, 0);
        due(12, "65 hangs too", s.load(65), 10);
        due(12, "three bearers", s.load(49), 19);
        // A space above a room bears nothing.
        s.note(49, 0, NONE, 0, 0);
        due(12, "space", s.load(49), 0);
        due(12, "two bearers", s.load(56), 24);
        due(12, "two bearers", s.load(58), 23);
        due(12, "under a space", s.load(1), 10);
        SixAcres tower = block(0, 1, 0, 48, 1, 0, 96, 1, 0, 144, 1, 0, 192, 1, 9);
        due(12, "floor 0", tower.load(0), 59);
        due(12, "floor 4", tower.load(192), 19);
        due(12, "none such", s.load(-1), NONE);
        due(12, "none such", s.load(240), NONE);
        due(12, "none such", s.load(LEAST), NONE);
    }

    private static void broken() {
        SixAcres s = block(100, 1, 0, 0, 3, 0, 48, 1, 6, 3, 3, 0, 51, 1, 7, 55, 3, 0, 54, 3, 0);
        due(13, "bears just so much, then one more", s.broken(0), 3);
        due(13, "falls beside what hangs", s.broken(1), 54);
        due(13, "falls", s.broken(2), 55);
        due(13, "falls", s.broken(3), 100);
        due(13, "no more", s.broken(4), NONE);
        due(13, "count", s.count(10), 4);
        due(13, "negative", s.broken(-1), NONE);
        due(13, "least", s.broken(LEAST), NONE);
        due(13, "most", s.broken(MOST), NONE);
        SixAcres hanging = block(0, 1, 0, 48, 1, 0, 49, 3, 9, 97, 3, 9);
        due(13, "what hangs can be over", hanging.broken(0), 49);
        due(13, "what stands on it isn't", hanging.broken(1), NONE);
    }

    private static void adds() {
        SixAcres s = block(0, 3, 0, 1, 3, 0, 100, 1, 0);
        due(14, "what is under it", s.adds(48, 2, 0), 0);
        due(14, "no more", s.adds(48, 2, 1), NONE);
        due(14, "falls itself", s.adds(150, 1, 0), 150);
        due(14, "100 was broken already", s.adds(150, 1, 1), NONE);
        due(14, "another kind of what is there", s.adds(0, 2, 0), NONE);
        due(14, "bricked up", s.adds(48, 7, 0), NONE);
        SixAcres t = block(0, 1, 0, 48, 1, 0, 49, 3, 0, 97, 3, 0);
        t.weigh(2, 70, 50);
        due(14, "k 0", t.adds(144, 2, 0), 144);
        due(14, "k 1", t.adds(144, 2, 1), NONE);
        due(14, "k 0", t.adds(145, 2, 0), 0);
        due(14, "k 1", t.adds(145, 2, 1), 48);
        due(14, "k 2", t.adds(145, 2, 2), 49);
        due(14, "k 3", t.adds(145, 2, 3), 97);
        due(14, "k 4", t.adds(145, 2, 4), 145);
        due(14, "k 5", t.adds(145, 2, 5), NONE);
        due(14, "did nothing", t.state(145, 0, 0, 0), 0);
        int[][] refused = {{-1, 1, 0}, {240, 1, 0}, {150, 0, 0}, {150, 8, 0}, {150, 1, -1}, {MOST, MOST, MOST},
            {150, 1, LEAST}, {LEAST, LEAST, LEAST}, {150, 1, MOST}};
        for (int[] a : refused) {
            due(14, "none such", s.adds(a[0], a[1], a[2]), NONE);
        }
    }

    private static void feed() {
        SixAcres s = new SixAcres();
        for (int i = 1; i <= 25; i++) {
            due(15, "there are", s.feed(LEAST, MOST, 0, -1, 1), 20 * i);
        }
        due(15, "no more", s.feed(0, 0, 0, 0, 0), NONE);
        due(15, "did nothing", s.count(9), 500);
        due(15, "the highest byte first", s.custom(500), NONE);
        due(15, "the highest byte first", s.fault(), 0);
        due(15, "there are", s.feed(0x64726177, 0x20746170, 0x20343b0a, 0x20200a20, 0x800000ff), 20);
        due(15, "in this order", s.custom(16), 0);
        due(15, "in this order", s.rule(6, 0), 4);
    }

    private static void custom() {
        SixAcres s = new SixAcres();
        due(16, "below 0", s.custom(-1), -2);
        due(16, "least", s.custom(LEAST), -2);
        due(16, "more than there are", s.custom(1), -2);
        due(16, "most", s.custom(MOST), -2);
        TextsTest.tape(s, "draw tap 9;draw tap 8;");
        due(16, "more than there are", s.custom(41), -2);
        due(16, "did nothing", s.count(9), 40);
        due(16, "the first bytes", s.custom(11), 0);
        due(16, "the tape is empty", s.count(9), 0);
        due(16, "in force", s.rule(6, 0), 9);
        due(16, "a fault", tell(s, "draw tap 7;x"), NONE);
        due(16, "the tape is empty", s.count(9), 0);
        due(16, "the old one is in force", s.rule(6, 0), 9);
        due(16, "blanks alone", tell(s, " \n "), 1);
        due(16, "bare again", s.rule(6, 0), 2);
        for (int i = 2; i < 8; i++) {
            due(16, "numbers", tell(s, "draw tap 5;"), i);
        }
        TextsTest.tape(s, "draw tap 4;");
        due(16, "8 are told", s.custom(11), -3);
        due(16, "did nothing", s.count(9), 20);
        due(16, "did nothing", s.rule(6, 0), 5);
        due(16, "8 are told", s.count(5), 8);
    }

    private static int faultOf(String text) {
        SixAcres s = new SixAcres();
        tell(s, text);
        return s.fault();
    }

    private static String times(String part, int n) {
        return part.repeat(n);
    }

    private static void fault() {
        SixAcres s = new SixAcres();
        due(17, "none yet", s.fault(), NONE);
        tell(s, "x");
        due(17, "a fault", s.fault(), 0);
        s.custom(1);
        due(17, "-2 leaves it", s.fault(), 0);
        s.custom(0);
        due(17, "it had none", s.fault(), NONE);
        Object[][] texts = {{"", NONE}, {"m", 0}, {"may", 3}, {"may ", 4}, {"mayhome;", 0}, {"may home", 8},
            {"may home;;", 9}, {"may home; maybe", 10}, {"may home if 1<2;", NONE}, {"may home if (1<2);", 14},
            {"may home if {1<2};", NONE}, {"may home if {1};", 14}, {"may home if 1<2<3;", 15}, {"may home if 1<=2;", 14},
            {"may home if 1<2 or;", 18}, {"may home if not {1<2 and not 2=3} or sky>0;", NONE},
            {"may home if{1<2}+1<2;", 16}, {"pay home", 8}, {"pay home +1;", 9}, {"pay home 1+;", 11},
            {"pay home 1*(2-3)/floor;", NONE}, {"pay home (1);", NONE}, {"pay home {1};", 9}, {"pay home ();", 10},
            {"pay home 1 2;", 11}, {"pay home 1 floor;", 11}, {"pay home 12345;", NONE}, {"pay home 123456;", 9},
            {"pay home 00000;", NONE}, {"pay home 000001;", 9}, {"pay home home;", 9}, {"pay home floors;", 9},
            {"pay home 1 if floor;", 19}, {"pay home 1 if not not 1=1;", NONE}, {"pay home not 1;", 9},
            {"draw home 1+1;", 11}, {"draw home floor;", 10}, {"draw home 1 if 1=1;", 12}, {"water tap 99999;", NONE},
            {"water water 1;", 6}, {"may\thome;", 3}, {"may home\r;", 8}, {"may home\n;\n", NONE}, {"may home;\0", 9},
            {"may home;\u00e9", 9}, {"Xmay home;", 0}, {"may homE;", 4}, {"may homez;", 4}, {"az", 0}, {"may home if 1 < 2 and", 21},
            {"may home 3;", 9}, {"if 1<2;", 0}, {"pay tap 1-2-3*4/5 if 1<2 and 2<3 or 3<4;", NONE}};
        for (Object[] t : texts) {
            due(17, "\"" + t[0] + "\"", faultOf((String) t[0]), (Integer) t[1]);
        }
        due(17, "nine open", faultOf("pay tap " + times("(", 9) + "1" + times(")", 9) + ";"), NONE);
        due(17, "ten open", faultOf("pay tap " + times("(", 10) + "1" + times(")", 10) + ";"), 17);
        due(17, "nine not", faultOf("may tap if " + times("not ", 9) + "1<2;"), NONE);
        due(17, "ten not", faultOf("may tap if " + times("not ", 10) + "1<2;"), 47);
        due(17, "ten of all sorts", faultOf("may tap if " + times("not{", 4) + "((1)) < 2" + times("}", 4) + ";"), 28);
        due(17, "not is shut", faultOf("may tap if " + times("not 1<2 and ", 20) + "1<2;"), NONE);
        due(17, "braces are shut", faultOf("may tap if " + times("{1<2} or ", 20) + "((1))<2;"), NONE);
        due(17, "not stays open on the right", faultOf("may tap if " + times("not ", 9) + "1<(2);"), 49);
        due(17, "24 statements", faultOf(times("may tap;", 24)), NONE);
        due(17, "the 25th", faultOf(times("may tap;", 24) + " may tap;"), 193);
        due(17, "the 25th", faultOf(times("may tap;", 24) + "\n\n?"), 194);
        due(17, "24 and blanks", faultOf(times("may tap;", 24) + "  "), NONE);
    }

    private static void rule() {
        SixAcres s = new SixAcres();
        for (int kind = 1; kind <= 6; kind++) {
            due(18, "bare", s.rule(kind, 0), 2);
            due(18, "bare", s.rule(kind, 1), 3);
        }
        tell(s, "draw home 1;water shop 2;draw roof 99999;water passage 0;draw stair 5;draw stair 6;water tap 7;");
        due(18, "draw", s.rule(1, 0), 1);
        due(18, "water", s.rule(2, 1), 2);
        due(18, "draw", s.rule(3, 0), 99999);
        due(18, "water", s.rule(4, 1), 0);
        due(18, "the last", s.rule(5, 0), 6);
        due(18, "water", s.rule(6, 1), 7);
        due(18, "else", s.rule(2, 0), 2);
        due(18, "else", s.rule(1, 1), 3);
        int[][] refused = {{0, 0}, {7, 0}, {-1, 0}, {1, -1}, {1, 2}, {MOST, MOST}, {LEAST, LEAST}};
        for (int[] a : refused) {
            due(18, "none such", s.rule(a[0], a[1]), NONE);
        }
    }

    private static void may() {
        SixAcres s = block(0, 3, 5, 48, 1, 4, 144, 7, 0);
        due(19, "bare", s.may(0, 1), NONE);
        tell(s, "pay home 1;may home if floor=4;may home if below=9;may shop if people=0 and since=0 and owner=0-1;"
                + "may roof if sky=1;may tap if below=3;may stair;may stair;");
        due(19, "floor", s.may(239, 1), 1);
        due(19, "the ground", s.may(0, 1), 2);
        due(19, "it may not", s.may(48, 1), NONE);
        due(19, "to be built", s.may(48, 2), 3);
        due(19, "sky", s.may(144, 3), 4);
        due(19, "sky on floor 4", s.may(192, 3), 4);
        due(19, "no sky", s.may(96, 3), NONE);
        due(19, "no sky, not just above", s.may(0, 3), NONE);
        due(19, "kind below", s.may(48, 6), 5);
        due(19, "another kind below", s.may(96, 6), NONE);
        due(19, "the first", s.may(7, 5), 6);
        due(19, "no statement", s.may(7, 4), NONE);
        int[][] refused = {{-1, 5}, {240, 5}, {0, 0}, {0, 7}, {MOST, 5}, {0, MOST}, {LEAST, LEAST}};
        for (int[] a : refused) {
            due(19, "none such", s.may(a[0], a[1]), NONE);
        }
    }

    private static int payOf(String ex) {
        SixAcres s = new SixAcres();
        s.day(9);
        s.note(8, 2, NONE, 0, 9);
        s.note(56, 1, 17, 6, 4);
        s.note(104, 7, NONE, 0, 0);
        tell(s, "pay home " + ex + ";");
        return s.pay(56);
    }

    private static void pay() {
        Object[][] texts = {{"floor", 1}, {"people", 6}, {"since", 5}, {"below", 2}, {"sky", 0}, {"owner", 17},
            {"1+2*3", 7}, {"(1+2)*3", 9}, {"9-4-3", 2}, {"100/7/2", 7}, {"7*3/2", 10}, {"7/0", 0}, {"1-2", 0},
            {"0-7/2+4", 1}, {"(0-7)/2+4", 1}, {"(0-7)/(0-2)", 3}, {"99999*99999", 1000000000},
            {"99999*99999-99999*99999", 0}, {"99999*99999/10000", 100000}, {"(0-99999)*99999+99999*10000", 0},
            {"0-(0-99999)*99999", 1000000000}, {"0-((0-99999)*99999-5)-1", 999999999}, {"5 if 1<2", 5}, {"5 if 2<1", 0},
            {"5 if 2>1", 5}, {"5 if 2=1", 0}, {"5 if 1=1 or 1=1 and 1=2", 5}, {"5 if {1=1 or 1=1} and 1=2", 0},
            {"5 if not 1=2 and 1=1", 5}, {"5 if not {1=2 or 1=1}", 0}, {"5 if not not 1=1", 5}, {"5 if 1<1", 0},
            {"5 if 1>1", 0}, {"5 if 2<1;pay home 6 if 1<2;pay home 7", 6}};
        for (Object[] t : texts) {
            due(20, (String) t[0], payOf((String) t[0]), (Integer) t[1]);
        }
        SixAcres s = block(0, 7, 0, 1, 1, 0, 2, 2, 0);
        due(20, "bare", s.pay(1), 0);
        tell(s, "pay home 5-1*0 if owner=0-1;pay home 6;pay tap 9;may shop;");
        due(20, "no owner", s.pay(1), 5);
        due(20, "without", s.pay(2), 0);
        due(20, "bricked up", s.pay(0), 0);
        due(20, "space", s.pay(3), 0);
        due(20, "none such", s.pay(-1), NONE);
        due(20, "none such", s.pay(240), NONE);
        due(20, "none such", s.pay(MOST), NONE);
    }

    private static void paid() {
        SixAcres s = new SixAcres();
        for (int cell = 0; cell < 10; cell++) {
            s.note(cell, 1, 39, 0, 0);
        }
        s.note(10, 2, 39, 0, 0);
        s.note(11, 1, NONE, 0, 0);
        s.note(12, 1, 0, 0, 0);
        due(21, "bare", s.paid(39), 0);
        tell(s, "pay home 99999*99999;pay shop 7;");
        due(21, "more than an int", s.paid(39), 10000000007L);
        due(21, "owner 0", s.paid(0), 1000000000L);
        due(21, "owns nothing", s.paid(5), 0);
        due(21, "none such", s.paid(NONE), NONE);
        due(21, "none such", s.paid(40), NONE);
        due(21, "none such", s.paid(LEAST), NONE);
        due(21, "none such", s.paid(MOST), NONE);
    }

    private static void wire() {
        SixAcres s = new SixAcres();
        due(22, "no such wire yet", s.wire(0, 0, 5), NONE);
        due(22, "a cable", s.wire(0, NONE, 0), 0);
        due(22, "from a wire", s.wire(239, 0, 999), 1);
        int[][] refused = {{-1, NONE, 5}, {240, NONE, 5}, {0, -2, 5}, {0, 2, 5}, {0, NONE, -1}, {0, NONE, 1000},
            {MOST, MOST, MOST}, {LEAST, LEAST, LEAST}};
        for (int[] a : refused) {
            due(22, "refused", s.wire(a[0], a[1], a[2]), NONE);
        }
        due(22, "did nothing", s.count(6), 2);
        for (int i = 2; i < 60; i++) {
            due(22, "numbers", s.wire(7, i - 1, 5), i);
        }
        due(22, "60 are there", s.wire(7, NONE, 5), NONE);
        due(22, "60 are there", s.count(6), 60);
    }

    private static void amps() {
        SixAcres s = block(0, 1, 0, 1, 2, 0, 2, 7, 0);
        tell(s, "draw home 5;draw shop 7;");
        s.wire(3, NONE, 11);
        s.wire(0, 0, 9);
        s.wire(1, 1, 9);
        s.wire(1, 0, 9);
        s.wire(2, 0, 0);
        due(23, "no fuse gone", s.amps(0, 0), 12);
        due(23, "no fuse gone", s.amps(1, 0), 12);
        due(23, "first wire to it", s.amps(2, 0), 7);
        due(23, "second wire to it", s.amps(3, 0), 0);
        due(23, "bricked up", s.amps(4, 0), 0);
        // Wire 1 (12 above 9) is farther off than wire 0 (12 above 11); then wire 3 feeds the shop, and all hold.
        due(23, "those that go", s.amps(0, 1), 7);
        due(23, "dark", s.amps(1, 1), 0);
        due(23, "dark", s.amps(2, 1), 0);
        due(23, "the next wire", s.amps(3, 1), 7);
        due(23, "gone", s.amps(1, 2), 1);
        due(23, "dark, not gone", s.amps(2, 2), 0);
        due(23, "dark", s.amps(1, 3), 1);
        due(23, "behind", s.amps(2, 3), 1);
        due(23, "not dark", s.amps(0, 3), 0);
        due(23, "still the first", s.amps(2, 0), 7);
        int[][] refused = {{-1, 0}, {5, 0}, {0, -1}, {0, 4}, {MOST, MOST}, {LEAST, LEAST}};
        for (int[] a : refused) {
            due(23, "none such", s.amps(a[0], a[1]), NONE);
        }
    }

    private static void gone() {
        SixAcres s = block(0, 1, 0, 1, 1, 0, 2, 1, 0, 3, 1, 0);
        due(24, "no wires", s.gone(0), NONE);
        s.wire(0, NONE, 2);
        s.wire(1, 0, 1);
        s.wire(2, NONE, 1);
        s.wire(3, 2, 1);
        due(24, "the farthest, the least", s.gone(0), 1);
        due(24, "the farthest", s.gone(1), 3);
        due(24, "then its cable's", s.gone(2), 2);
        due(24, "just its fuse holds", s.gone(3), NONE);
        due(24, "dark behind", s.amps(3, 3), 1);
        due(24, "negative", s.gone(-1), NONE);
        due(24, "most", s.gone(MOST), NONE);
        due(24, "least", s.gone(LEAST), NONE);
        tell(s, "draw home 0;");
        due(24, "draws nothing", s.gone(0), NONE);
        SixAcres t = block(0, 1, 0);
        t.wire(0, NONE, 1);
        t.wire(0, NONE, 1);
        due(24, "the next takes over and goes", t.gone(1), 1);
    }

    private static void twice() {
        SixAcres s = new SixAcres();
        due(25, "none", s.twice(0), NONE);
        s.wire(9, NONE, 0);
        s.wire(5, NONE, 0);
        s.wire(9, 1, 0);
        s.wire(5, 1, 0);
        s.wire(5, 1, 0);
        s.wire(7, 1, 0);
        due(25, "by numbers", s.twice(0), 5);
        due(25, "by numbers", s.twice(1), 9);
        due(25, "no more", s.twice(2), NONE);
        due(25, "negative", s.twice(-1), NONE);
        due(25, "least", s.twice(LEAST), NONE);
        due(25, "most", s.twice(MOST), NONE);
        s.note(9, 1, NONE, 0, 0);
        due(25, "dark ones too", s.twice(1), 9);
    }

    private static void supply() {
        SixAcres s = block(1, 1, 9);
        due(26, "no tap yet", s.supply(0, 20), true);
        s.turn(0, 1);
        due(26, "no tap", s.water(1), 0);
        due(26, "no tap", s.kept(0, 0, 0), NONE);
        s.note(0, 6, NONE, 0, 0);
        due(26, "a tap now", s.water(1), 20);
        due(26, "again", s.supply(0, 99999), true);
        due(26, "again", s.kept(0, 0, 0), 99999);
        int[][] refused = {{-1, 5}, {240, 5}, {0, -1}, {0, 100000}, {MOST, MOST}, {LEAST, LEAST}};
        for (int[] a : refused) {
            due(26, "refused", s.supply(a[0], a[1]), false);
        }
        due(26, "did nothing", s.kept(0, 0, 0), 99999);
        due(26, "nothing", s.supply(0, 0), true);
        due(26, "nothing", s.water(1), 0);
    }

    private static void turn() {
        SixAcres s = new SixAcres();
        due(27, "first", s.turn(0, 239), 1);
        due(27, "at itself", s.turn(0, 0), 2);
        due(27, "again", s.turn(0, 239), 3);
        int[][] refused = {{-1, 0}, {240, 0}, {0, -1}, {0, 240}, {MOST, MOST}, {LEAST, LEAST}};
        for (int[] a : refused) {
            due(27, "refused", s.turn(a[0], a[1]), NONE);
        }
        for (int i = 4; i <= 40; i++) {
            due(27, "in all", s.turn(i, 1), i);
        }
        due(27, "40 are there", s.turn(0, 1), NONE);
        due(27, "40 are there", s.count(7), 40);
    }

    private static void water() {
        SixAcres s = block(0, 6, 2, 1, 1, 4, 2, 2, 5, 3, 6, 0, 4, 7, 0);
        s.supply(0, 30);
        s.supply(3, 7);
        tell(s, "water home 2;");
        s.turn(0, 1);
        s.turn(3, 1);
        s.turn(0, 2);
        s.turn(0, 1);
        s.turn(0, 0);
        s.turn(0, 4);
        s.turn(0, 9);
        due(28, "at each turn, by all taps", s.water(1), 8 + 7 + 7);
        due(28, "in turn", s.water(2), 15);
        due(28, "nothing left", s.water(0), 0);
        due(28, "bricked up", s.water(4), 0);
        due(28, "space", s.water(9), 0);
        due(28, "no turn", s.water(8), 0);
        s.supply(0, 32);
        due(28, "what is left", s.water(0), 1);
        s.supply(0, 50);
        due(28, "a tap's own people", s.water(0), 6);
        s.note(0, 1, NONE, 2, 0);
        due(28, "no tap any more", s.water(2), 0);
        due(28, "the other one", s.water(1), 7);
        due(28, "none such", s.water(-1), NONE);
        due(28, "none such", s.water(240), NONE);
        due(28, "none such", s.water(LEAST), NONE);
    }

    private static void says() {
        SixAcres s = block(0, 6, 0);
        s.supply(0, 50000);
        s.turn(0, 1);
        due(29, "0 at first", s.kept(0, 0, 0), 50000);
        due(29, "says", s.says(1, 49999), true);
        due(29, "says", s.kept(0, 0, 0), 1);
        int[][] refused = {{-1, 5}, {240, 5}, {1, -1}, {1, 100000}, {MOST, MOST}, {LEAST, LEAST}};
        for (int[] a : refused) {
            due(29, "refused", s.says(a[0], a[1]), false);
        }
        due(29, "did nothing", s.kept(0, 0, 1), 1);
        due(29, "most", s.says(1, 99999), true);
        due(29, "0 at least", s.kept(0, 0, 0), 0);
        due(29, "again", s.says(1, 0), true);
        due(29, "again", s.kept(0, 0, 0), 50000);
    }

    private static void kept() {
        SixAcres s = block(0, 6, 0, 9, 6, 0, 5, 1, 3);
        s.supply(0, 100);
        s.turn(0, 1);
        s.turn(0, 2);
        s.turn(0, 1);
        s.turn(9, 3);
        s.says(1, 30);
        s.says(2, 10);
        s.says(3, 50);
        due(30, "each cell once", s.kept(0, 0, 0), 60);
        due(30, "at least", s.kept(0, 12, 0), 36);
        due(30, "at most, 0 at least", s.kept(0, 12, 1), 82);
        due(30, "0 at least", s.kept(0, 31, 0), 0);
        due(30, "all", s.kept(0, 9999, 1), 100);
        due(30, "no supply", s.kept(9, 0, 1), 0);
        int[][] refused = {{-1, 0, 0}, {240, 0, 0}, {0, -1, 0}, {0, 10000, 0}, {0, 0, -1}, {0, 0, 2}, {5, 0, 0}, {6, 0, 0},
            {MOST, MOST, MOST}, {LEAST, LEAST, LEAST}, {0, LEAST, 1}};
        for (int[] a : refused) {
            due(30, "none such", s.kept(a[0], a[1], a[2]), NONE);
        }
    }

    private static void foul() {
        for (int kind = 0; kind < 8; kind++) {
            SixAcres s = block(192, 2, 0, 96, kind, 0);
            boolean comesOut = kind == 3 || kind == 4 || kind == 6;
            due(31, "past kind " + kind, s.foul(192), comesOut ? 96 : 0);
            due(31, "just below", block(144, 2, 0, 96, kind, 0).foul(144), comesOut ? 96 : 0);
        }
        SixAcres s = block(0, 2, 0, 48, 2, 0, 49, 1, 0, 1, 7, 0, 98, 2, 0, 50, 6, 0, 2, 6, 0);
        due(31, "on floor 0", s.foul(0), NONE);
        due(31, "down to floor 0", s.foul(48), 0);
        due(31, "the first", s.foul(98), 50);
        due(31, "no shop", s.foul(49), NONE);
        due(31, "space", s.foul(100), NONE);
        due(31, "none such", s.foul(-1), NONE);
        due(31, "none such", s.foul(240), NONE);
        due(31, "none such", s.foul(MOST), NONE);
    }

    private static void fire() {
        SixAcres s = block(0, 1, 0, 1, 1, 0, 2, 1, 0, 3, 7, 0, 51, 1, 0, 52, 3, 0, 100, 1, 0, 10, 1, 0);
        s.door(0, 1, 1);
        s.door(1, 2, 2);
        due(32, "itself", s.fire(0, 0), 0);
        due(32, "open", s.fire(0, 1), 2);
        due(32, "shut", s.fire(0, 2), 7);
        due(32, "no door", s.fire(0, 10), 16);
        due(32, "into what is bricked up", s.fire(0, 3), 16);
        due(32, "above", s.fire(0, 51), 19);
        due(32, "on", s.fire(0, 100), 31);
        due(32, "below", s.fire(100, 52), 6);
        due(32, "and on", s.fire(100, 3), 21);
        due(32, "begins in what is bricked up", s.fire(3, 51), 3);
        due(32, "space", s.fire(0, 9), NONE);
        due(32, "begins in space", s.fire(9, 0), NONE);
        s.note(20, 1, NONE, 0, 0);
        due(32, "never", s.fire(0, 20), NONE);
        s.note(9, 4, NONE, 0, 0);
        s.door(1, 9, 1);
        s.door(9, 10, 1);
        due(32, "the least", s.fire(0, 10), 6);
        int[][] refused = {{-1, 0}, {240, 0}, {0, -1}, {0, 240}, {MOST, MOST}, {LEAST, LEAST}};
        for (int[] a : refused) {
            due(32, "none such", s.fire(a[0], a[1]), NONE);
        }
    }

    private static void saved() {
        SixAcres s = block(0, 4, 1, 1, 1, 2, 2, 1, 3, 3, 1, 4, 20, 1, 5);
        s.door(0, 1, 1);
        s.door(1, 2, 1);
        s.door(2, 3, 1);
        due(33, "from the exit", s.saved(0), 0);
        due(33, "from the last", s.saved(3), 6);
        due(33, "the last are cut off", s.saved(2), 3);
        due(33, "far off", s.saved(20), 10);
        due(33, "space", s.saved(30), NONE);
        // Cell 8 is beside the exit: by a wall the fire takes 9 minutes, by a shut door 5, by an open one 2.
        s.note(8, 1, NONE, 6, 0);
        due(33, "by a wall", s.saved(8), 10);
        s.door(0, 8, 1);
        due(33, "in the exit at minute 0 and 1", s.saved(8), 3);
        s.door(0, 8, 2);
        due(33, "by a shut door", s.saved(8), 10);
        due(33, "none such", s.saved(-1), NONE);
        due(33, "none such", s.saved(240), NONE);
        due(33, "none such", s.saved(LEAST), NONE);
    }

    private static void wall() {
        // 9 and 10 have no way; 1 and 2 are exits. Either wall saves both, if 9 and 10 are joined.
        SixAcres s = block(1, 4, 0, 2, 4, 0, 9, 1, 3, 10, 1, 4, 40, 1, 0);
        due(34, "the one of more people", s.wall(40), 240 * 2 + 10);
        s.door(9, 10, 1);
        due(34, "of several the least", s.wall(40), 240 + 9);
        s.door(1, 9, 2);
        due(34, "a shut door is no wall", s.wall(40), 240 * 2 + 10);
        s.door(1, 9, 1);
        due(34, "none saves more", s.wall(40), NONE);
        s.door(1, 9, 0);
        // In 9 it burns: 10 gets out by 2, as the fire needs 2 minutes to 10.
        due(34, "out of the fire's way", s.wall(9), 240 * 2 + 10);
        s.note(10, 7, NONE, 0, 0);
        due(34, "not through what is bricked up", s.wall(40), 240 + 9);
        s.note(1, 7, NONE, 0, 0);
        due(34, "nothing helps", s.wall(40), NONE);
        due(34, "did nothing", s.count(2), 1);
        due(34, "space", s.wall(30), NONE);
        due(34, "none such", s.wall(-1), NONE);
        due(34, "none such", s.wall(240), NONE);
        due(34, "none such", s.wall(MOST), NONE);
        // The fire in the exit 0 goes by the new door, too: 8 would burn at minute 2, ahead of those from 10.
        SixAcres t = block(0, 4, 0, 8, 4, 0, 9, 1, 0, 10, 1, 2, 1, 1, 0);
        t.door(9, 10, 1);
        t.door(0, 1, 1);
        due(34, "in time", t.wall(0), 240 * 8 + 9);
        SixAcres u = block(0, 1, 0, 1, 1, 1, 9, 1, 0, 8, 4, 0);
        u.door(0, 1, 2);
        u.door(0, 8, 1);
        u.door(8, 9, 1);
        due(34, "the fire is first", u.wall(0), NONE);
    }

    private static void wish() {
        SixAcres s = block(0, 1, 0);
        due(35, "first", s.wish(239, 1), 1);
        due(35, "no space there", s.wish(0, 6), 2);
        int[][] refused = {{-1, 1}, {240, 1}, {5, 0}, {5, 7}, {MOST, MOST}, {LEAST, LEAST}};
        for (int[] a : refused) {
            due(35, "refused", s.wish(a[0], a[1]), NONE);
        }
        for (int i = 3; i <= 8; i++) {
            due(35, "how many", s.wish(239, 1), i);
        }
        due(35, "8 are there", s.wish(1, 1), NONE);
        due(35, "8 are there", s.count(8), 8);
    }

    private static void met() {
        SixAcres s = block(0, 3, 0, 100, 1, 0);
        due(36, "no wishes", s.met(0), 0);
        due(36, "no wishes", s.met(1), 0);
        s.wish(0, 1);
        s.wish(48, 4);
        due(36, "it may not", s.met(0), 0);
        tell(s, "may home;may passage;may roof if below=0;may shop;");
        due(36, "one has no space", s.met(1), 2);
        s.wish(96, 4);
        due(36, "both", s.met(1), 6);
        s.wish(144, 1);
        due(36, "no more on it", s.met(1), 6);
        s.wish(10, 1);
        s.wish(10, 2);
        due(36, "of one cell one", s.met(0), 3);
        due(36, "the least bits", s.met(1), 2 + 4 + 16);
        s.wish(58, 3);
        due(36, "asked as the block is now, though one is built below", s.met(1), 2 + 4 + 16 + 64);
        s.wish(240 - 1, 1);
        due(36, "would fall", s.met(0), 4);
        due(36, "others", s.met(2), NONE);
        due(36, "others", s.met(-1), NONE);
        due(36, "others", s.met(LEAST), NONE);
        s.note(48, 1, NONE, 0, 0);
        due(36, "anew after a note", s.met(1), 4 + 16 + 64);
        s.weigh(3, 4, 0);
        due(36, "broken already may take more", s.met(1), 4 + 8 + 16);
        due(36, "did nothing", s.state(10, 0, 0, 0), 0);
    }

    private static void clear() {
        SixAcres s = new SixAcres();
        due(37, "none", s.clear(), 0);
        tell(s, "may home;");
        s.wish(1, 1);
        s.wish(2, 1);
        due(37, "met", s.met(0), 2);
        due(37, "two", s.clear(), 2);
        due(37, "gone", s.count(8), 0);
        due(37, "gone", s.met(1), 0);
        due(37, "again", s.wish(1, 1), 1);
        due(37, "again", s.met(1), 1);
    }

    private static void goes() {
        SixAcres s = block(0, 4, 0, 1, 1, 2, 2, 1, 3, 50, 7, 0, 98, 1, 0, 239, 3, 1, 20, 1, 9);
        due(38, "k 0: on nobody's way", s.goes(0), 0);
        s.door(0, 1, 1);
        s.door(1, 2, 1);
        due(38, "without a way", s.goes(0), 20);
        due(38, "the top", s.goes(1), 98);
        due(38, "then what it stood on", s.goes(2), 50);
        due(38, "then 2 with its people", s.goes(3), 2);
        due(38, "then 1", s.goes(4), 1);
        due(38, "then 0", s.goes(5), 0);
        due(38, "floor 4", s.goes(6), 239);
        due(38, "no more", s.goes(7), NONE);
        due(38, "how many", s.count(11), 7);
        due(38, "did nothing", s.state(0, 0, 0, 0), 4);
        s.note(48, 1, NONE, 0, 0);
        s.note(8, 4, NONE, 0, 0);
        s.note(9, 1, NONE, 0, 0);
        s.door(8, 9, 1);
        s.door(9, 1, 1);
        due(38, "another way out", s.goes(0), 8);
        s.door(0, 1, 2);
        due(38, "8 is needed", s.goes(0), 20);
        due(38, "negative", s.goes(-1), NONE);
        due(38, "least", s.goes(LEAST), NONE);
        due(38, "most", s.goes(MOST), NONE);
    }

    private static void count() {
        SixAcres s = block(0, 4, 1, 1, 1, 2, 9, 1, 4, 100, 1, 0);
        s.door(0, 1, 1);
        s.door(0, 8, 2);
        s.day(3);
        s.undo(3);
        s.note(100, 1, NONE, 0, 3);
        tell(s, "may home;");
        s.wire(0, NONE, 3);
        s.turn(0, 1);
        s.turn(0, 1);
        s.wish(3, 1);
        s.feed(0, 0, 0, 0, 0);
        int[] counts = {3, 5, 2, 7, 3, 1, 1, 2, 1, 20, 1, 4};
        for (int what = 0; what <= 11; what++) {
            due(39, "count " + what, s.count(what), counts[what]);
        }
        due(39, "others", s.count(-1), NONE);
        due(39, "others", s.count(12), NONE);
        due(39, "others", s.count(LEAST), NONE);
        due(39, "others", s.count(MOST), NONE);
    }
}
