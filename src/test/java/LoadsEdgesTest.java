/** The boundary cases of loads: promises 11 to 14, and what part 2 says of weights, what stands, hangs and falls. */
public final class LoadsEdgesTest {
    private static final int NONE = Edges.NONE;
    private static final int LEAST = Edges.LEAST;
    private static final int MOST = Edges.MOST;
    private static final int[] FIRST_WEIGHT = {0, 10, 20, 4, 5, 12, 8, 10};
    private static final int[] FIRST_BEARS = {0, 60, 50, 20, 30, 90, 30, 80};
    private static final Edges E = new Edges("edges of loads");

    public static void main(String[] args) {
        weighKinds();
        weighNumbers();
        weightsAtFirst();
        bearsAtFirst();
        ownLoad();
        standsOnTheGround();
        hangsInEqualParts();
        leastBearersFirst();
        hangsAtTheRim();
        onlyWhatStandsBears();
        fallsNowhere();
        fromBesideGoesDown();
        heaviest();
        loadOfSpace();
        noSuchLoad();
        overIsAbove();
        kthBroken();
        noSuchBroken();
        addsNoPeople();
        addsWhatIsntNow();
        kthAdded();
        addsKinds();
        noSuchAdds();
        E.end();
    }

    private static void refusedWeigh(int kind, int weight, int bears) {
        E.refused("weigh " + kind + " " + weight + " " + bears, Edges::town,
                s -> Edges.bit(s.weigh(kind, weight, bears)), 0);
    }

    private static void weighKinds() {
        E.sentence(11, "of a KIND (1 to 7): true; false: not as told");
        for (int kind = 1; kind <= 7; kind++) {
            SixAcres s = Edges.block(0, kind, 0);
            E.due("kind " + kind, s.weigh(kind, 77, 76), true);
            E.due("load of " + kind, s.load(0), 77);
            E.due("broken " + kind, s.broken(0), 0);
        }
        for (int kind : new int[] {LEAST, -1, 0, 8, 9, MOST}) {
            refusedWeigh(kind, 1, 1);
        }
    }

    private static void weighNumbers() {
        E.sentence(11, "A KIND has a WEIGHT and BEARS (0 to 9,999 each");
        SixAcres s = Edges.block(0, 1, 0);
        E.due("least", s.weigh(1, 0, 0), true);
        E.due("least", s.load(0), 0);
        E.due("bears just that", s.broken(0), NONE);
        E.due("most", s.weigh(1, 9999, 9999), true);
        E.due("most", s.load(0), 9999);
        E.due("bears just that", s.broken(0), NONE);
        for (int wrong : new int[] {LEAST, -1, 10000, 10001, MOST}) {
            refusedWeigh(1, wrong, 5);
            refusedWeigh(1, 5, wrong);
            refusedWeigh(3, wrong, wrong);
        }
    }

    private static void weightsAtFirst() {
        E.sentence(12, "0, 10, 20, 4, 5, 12, 8, 10");
        for (int kind = 0; kind <= 7; kind++) {
            E.due("kind " + kind, Edges.block(47, kind, 0).load(47), FIRST_WEIGHT[kind]);
        }
    }

    private static void bearsAtFirst() {
        E.sentence(13, "0, 60, 50, 20, 30, 90, 30, 80 at first");
        for (int kind = 1; kind <= 7; kind++) {
            int upper = kind == 7 ? 1 : 7;
            int spare = FIRST_BEARS[kind] - FIRST_WEIGHT[kind];
            SixAcres s = Edges.block(0, kind, 0, 48, upper, 0);
            s.weigh(upper, spare, 9999);
            E.due("kind " + kind + " bears so much", s.broken(0), NONE);
            s.weigh(upper, spare + 1, 9999);
            E.due("kind " + kind + " and no more", s.broken(0), 0);
        }
    }

    private static void ownLoad() {
        E.sentence(12, "WEIGHT, and one for each of its PEOPLE");
        for (int people = 0; people <= 9; people++) {
            E.due(people + " people", Edges.block(0, 1, people).load(0), 10 + people);
        }
    }

    private static void standsOnTheGround() {
        E.sentence(12, "On floor 0, or with no space below, it STANDS: all that it has goes to the one below");
        SixAcres s = Edges.block(0, 1, 0, 47, 1, 0, 48, 1, 1, 96, 1, 2, 144, 1, 3, 192, 1, 4);
        int[] loads = {60, 50, 39, 27, 14};
        for (int floor = 0; floor < 5; floor++) {
            E.due("floor " + floor, s.load(48 * floor), loads[floor]);
        }
        E.due("the ground's other end", s.load(47), 10);
        E.due("none falls", s.broken(0), NONE);
        E.due("the first cell of floor 1 isn't on the ground", Edges.block(48, 1, 0).broken(0), 48);
        E.due("nor is the last one", Edges.block(95, 1, 0).broken(0), 95);
        for (int kind = 1; kind <= 7; kind++) {
            E.due("on kind " + kind, Edges.block(0, kind, 0, 48, 3, 0).load(0), FIRST_WEIGHT[kind] + 4);
        }
    }

    /** Cell 105 hangs on floor 2 with this load, and the first of 97, 104, 106 and 113 stand beside it. */
    private static SixAcres hanging(int load, int... bearers) {
        SixAcres s = Edges.block(105, 3, 0);
        s.weigh(3, load, 9999);
        s.weigh(4, 0, 9999);
        for (int c : bearers) {
            s.note(c, 4, NONE, 0, 0);
            s.note(c - 48, 4, NONE, 0, 0);
            s.note(c - 96, 4, NONE, 0, 0);
        }
        return s;
    }

    private static void hangsInEqualParts() {
        E.sentence(12, "all that it has goes to those beside it that stand, in equal parts (cut");
        SixAcres four = hanging(8, 97, 104, 106, 113);
        for (int c : new int[] {97, 104, 106, 113}) {
            E.due("two each", four.load(c), 2);
        }
        E.due("all to one", hanging(9999, 106).load(106), 9999);
        E.due("nothing to share", hanging(0, 97, 113).load(97), 0);
        E.due("its own stays told", four.load(105), 8);
        E.due("nothing goes straight down", four.load(57), 0);
    }

    private static void leastBearersFirst() {
        E.sentence(12, "what is left one by one from the least CELL on");
        int[] cells = {97, 104, 106, 113};
        for (int load = 1; load <= 9; load++) {
            for (int n = 1; n <= 4; n++) {
                SixAcres s = hanging(load, java.util.Arrays.copyOf(cells, n));
                for (int i = 0; i < n; i++) {
                    int due = load / n + (i < load % n ? 1 : 0);
                    E.due(load + " on " + n + ", the one of number " + i, s.load(cells[i]), due);
                }
            }
        }
    }

    private static void hangsAtTheRim() {
        E.sentence(12, "beside it, at a row's or a floor's end");
        // 55 is x 7 of its row and hangs; 56 begins the next row and stands. The same for 88 and 96, a floor on.
        SixAcres row = Edges.block(8, 1, 0, 56, 1, 0, 55, 3, 0);
        E.due("not to the next row", row.load(56), 10);
        E.due("it falls", row.broken(0), 55);
        SixAcres back = Edges.block(7, 1, 0, 55, 1, 0, 56, 3, 0);
        E.due("not to the row before", back.load(55), 10);
        E.due("it falls", back.broken(0), 56);
        SixAcres floor = Edges.block(48, 1, 0, 96, 1, 0, 0, 1, 0, 88, 3, 0, 95, 3, 0);
        E.due("not to the next floor", floor.load(96), 10);
        E.due("they fall", floor.count(10), 2);
        SixAcres ends = Edges.block(191, 1, 0, 143, 1, 0, 95, 1, 0, 47, 1, 0, 239, 1, 0, 238, 3, 0, 231, 3, 1);
        E.due("the last cell bears both", ends.load(239), 10 + 4 + 5);
        SixAcres begin = Edges.block(0, 1, 0, 48, 1, 0, 49, 3, 0, 56, 3, 1);
        E.due("the first cell of a floor bears both", begin.load(48), 10 + 4 + 5);
    }

    private static void onlyWhatStandsBears() {
        E.sentence(12, "those beside it that stand");
        SixAcres s = Edges.block(8, 1, 0, 56, 1, 0, 57, 3, 0, 58, 3, 2);
        E.due("57 hangs on 56", s.load(56), 14);
        E.due("58 hangs beside 57 alone", s.load(57), 4);
        E.due("so it falls", s.broken(0), 58);
        s.note(9, 7, NONE, 0, 0);
        E.due("57 stands now and bears it", s.load(57), 10);
        E.due("no more on 56", s.load(56), 10);
        SixAcres tower = Edges.block(0, 1, 0, 48, 1, 0, 96, 1, 0, 49, 3, 0, 97, 3, 0);
        E.due("not what is above those beside", tower.load(96), 10);
        E.due("those beside alone", tower.load(48), 10 + 10 + 8);
        SixAcres space = Edges.block(8, 1, 0, 57, 3, 0);
        E.due("space over a room doesn't bear", space.broken(0), 57);
        E.due("nor does what is under it", space.load(8), 10);
    }

    private static void fallsNowhere() {
        E.sentence(12, "with none it FALLS (its load goes nowhere)");
        SixAcres s = Edges.block(57, 1, 5, 105, 1, 3, 9, 0, 0);
        E.due("it has what comes from above", s.load(57), 28);
        E.due("nothing below", s.load(9), 0);
        E.due("it falls", s.broken(0), 57);
        E.due("what stands on it doesn't", s.broken(1), NONE);
        SixAcres far = Edges.block(9, 1, 0, 105, 1, 0);
        E.due("not past space", far.load(9), 10);
        E.due("it falls", far.broken(0), 105);
    }

    private static void fromBesideGoesDown() {
        E.sentence(12, "What comes from beside goes on down as well");
        SixAcres s = hanging(7, 97, 104);
        E.due("beside", s.load(97), 4);
        E.due("one below", s.load(49), 4);
        E.due("two below", s.load(1), 4);
        E.due("the other", s.load(8), 3);
        // What hangs on floor 2 goes down to 57, which hangs on floor 1 in its turn.
        SixAcres twice = Edges.block(8, 4, 0, 56, 4, 0, 57, 4, 0, 105, 4, 0, 106, 3, 0);
        E.due("105 bears 106", twice.load(105), 9);
        E.due("57 hangs with all of it", twice.load(57), 14);
        E.due("56 bears all", twice.load(56), 19);
        E.due("so does the ground", twice.load(8), 24);
    }

    private static void heaviest() {
        E.sentence(12, "0 to 9,999 each, on every CELL");
        SixAcres s = new SixAcres();
        s.weigh(1, 9999, 9999);
        for (int c = 0; c < 240; c++) {
            s.note(c, 1, NONE, 9, 0);
        }
        for (int floor = 0; floor < 5; floor++) {
            E.due("floor " + floor, s.load(48 * floor + 47), (5 - floor) * 10008);
        }
        E.due("all are over", s.count(10), 240);
        E.due("the last one", s.broken(239), 239);
        E.due("no more", s.broken(240), NONE);
    }

    private static void loadOfSpace() {
        E.sentence(12, "0 for space");
        SixAcres s = Edges.block(0, 1, 9, 96, 1, 9, 49, 1, 9, 97, 0, 0);
        for (int c : new int[] {48, 1, 97, 144, 239}) {
            E.due("cell " + c, s.load(c), 0);
        }
    }

    private static void noSuchLoad() {
        E.sentence(12, "NONE: none such");
        SixAcres s = Edges.town();
        for (int c : Edges.NO_CELLS) {
            E.due("cell " + c, s.load(c), NONE);
        }
    }

    private static void overIsAbove() {
        E.sentence(13, "OVER: LOAD above BEARS");
        SixAcres s = Edges.block(0, 1, 3);
        s.weigh(1, 10, 13);
        E.due("just what it bears", s.broken(0), NONE);
        s.weigh(1, 10, 12);
        E.due("one more", s.broken(0), 0);
        // What hangs is over by its own and what is above it; what comes from beside doesn't count there.
        SixAcres t = Edges.block(8, 7, 0, 56, 7, 0, 57, 3, 0, 58, 3, 0, 10, 7, 0);
        t.weigh(3, 4, 4);
        E.due("58 stands, 57 hangs", t.load(58), 6);
        E.due("58 is over", t.broken(0), 58);
        E.due("57 isn't", t.broken(1), NONE);
    }

    private static void kthBroken() {
        E.sentence(13, "The k-th BROKEN CELL NOW (k from 0 on, by numbers)");
        SixAcres s = Edges.block(239, 1, 0, 100, 1, 0, 0, 1, 9, 60, 1, 0);
        s.weigh(1, 10, 18);
        int[] cells = {0, 60, 100, 239};
        for (int k = 0; k < 4; k++) {
            E.due("k " + k, s.broken(k), cells[k]);
        }
        E.due("k 4", s.broken(4), NONE);
        E.due("over and falls at once: once", Edges.block(100, 3, 0, 148, 2, 0).count(10), 1);
    }

    private static void noSuchBroken() {
        E.sentence(13, "NONE: none such");
        SixAcres s = Edges.town();
        E.due("there is one", s.broken(0), 239);
        for (int k : Edges.NO_PLACES) {
            E.due("k " + k, s.broken(k), NONE);
            E.due("nothing broken, k " + k, new SixAcres().broken(k), NONE);
        }
        E.due("nothing broken", new SixAcres().broken(0), NONE);
    }

    private static void addsNoPeople() {
        E.sentence(14, "of another KIND (1 to 7, no PEOPLE)");
        SixAcres s = Edges.block(0, 7, 0, 48, 2, 9);
        s.weigh(7, 10, 39);
        E.due("with its people it's just what is borne", s.broken(0), NONE);
        s.weigh(1, 29, 60);
        E.due("just so much, as nobody is in it", s.adds(48, 1, 0), NONE);
        s.weigh(1, 30, 60);
        E.due("one more", s.adds(48, 1, 0), 0);
        E.due("its people are still there", s.load(48), 29);
    }

    private static void addsWhatIsntNow() {
        E.sentence(14, "that is BROKEN then and isn't NOW");
        SixAcres s = Edges.block(100, 1, 0, 0, 3, 8, 48, 3, 9);
        E.due("broken now", s.broken(0), 0);
        E.due("and 100 falls", s.broken(1), 100);
        E.due("more on what is broken", s.adds(96, 3, 0), NONE);
        E.due("what is broken, of another kind", s.adds(100, 2, 0), NONE);
        E.due("hung beside, so 49 falls not", s.adds(49, 3, 0), NONE);
        E.due("beside 100, which hangs", s.adds(101, 3, 0), 101);
        E.due("100 would stand, but 52 falls", s.adds(52, 7, 0), 52);
        E.due("did nothing", s.count(10), 2);
        E.due("did nothing", s.state(52, 0, 0, 3), NONE);
    }

    private static void kthAdded() {
        E.sentence(14, "the k-th CELL");
        SixAcres s = Edges.block(0, 3, 0, 48, 3, 0, 96, 3, 0, 1, 3, 0);
        s.weigh(2, 17, 16);
        int[] cells = {0, 48, 96, 144};
        for (int k = 0; k < 4; k++) {
            E.due("k " + k, s.adds(144, 2, k), k < 3 ? cells[k] : 144);
        }
        E.due("k 4", s.adds(144, 2, 4), NONE);
        E.due("in the last cell", s.adds(239, 1, 0), 239);
        E.due("in the first cell", s.adds(0, 2, 0), 0);
    }

    private static void addsKinds() {
        E.sentence(14, "KIND (1 to 7");
        SixAcres s = new SixAcres();
        for (int kind = 1; kind <= 7; kind++) {
            E.due("kind " + kind, s.adds(100, kind, 0), 100);
        }
        for (int kind : new int[] {LEAST, -1, 0, 8, 9, MOST}) {
            E.due("kind " + kind, s.adds(100, kind, 0), NONE);
        }
        E.due("space isn't added though it would break", Edges.block(0, 1, 0, 48, 1, 0).adds(0, 0, 0), NONE);
    }

    private static void noSuchAdds() {
        E.sentence(14, "NONE: none such");
        SixAcres s = new SixAcres();
        for (int c : Edges.NO_CELLS) {
            E.due("cell " + c, s.adds(c, 1, 0), NONE);
        }
        for (int k : Edges.NO_PLACES) {
            E.due("k " + k, s.adds(100, 1, k), NONE);
        }
        E.refused("adds", Edges::town, t -> t.adds(240, 1, 0), NONE);
        E.refused("adds", Edges::town, t -> t.adds(48, 0, 0), NONE);
        E.refused("adds that adds", Edges::town, t -> t.adds(100, 1, 0), 4);
    }
}
