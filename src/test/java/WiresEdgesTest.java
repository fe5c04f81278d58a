/** The boundary cases of wires, taps and foul water: promises 22 to 31, and what part 4 says of them. */
public final class WiresEdgesTest {
    private static final int NONE = Edges.NONE;
    private static final int LEAST = Edges.LEAST;
    private static final int MOST = Edges.MOST;
    private static final Edges E = new Edges("edges of wires and taps");

    public static void main(String[] args) {
        wireCells();
        wiresFromWires();
        wireFuses();
        sixtyWires();
        drawsNothing();
        firstWireThatIsntDark();
        ampsAtFirst();
        ampsWhenAllAreGone();
        noSuchAmps();
        aboveItsFuse();
        farthestFirst();
        leastOfSeveral();
        allBehindAreDark();
        sixtyGone();
        noSuchGone();
        twiceAllTold();
        noSuchTwice();
        supplyNumbers();
        asATapsIfItIsOne();
        turnCells();
        fortyTurns();
        byTurns();
        whatIsLeft();
        waterOfNobody();
        muchWater();
        noSuchWater();
        saysNumbers();
        saysNothingAtFirst();
        keptAtLeast();
        keptAtMost();
        keptOnce();
        noTapNow();
        noSuchKept();
        foulComesOut();
        foulOnTheGround();
        noShopNow();
        noSuchFoul();
        E.end();
    }

    private static void refusedWire(int cell, int from, int fuse) {
        E.refused("wire " + cell + " " + from + " " + fuse, Edges::town, s -> s.wire(cell, from, fuse), NONE);
    }

    private static void wireCells() {
        E.sentence(22, "A WIRE .. its number. NONE, doing nothing: not as told");
        SixAcres s = new SixAcres();
        E.due("cell 0", s.wire(0, NONE, 5), 0);
        E.due("cell 239", s.wire(239, NONE, 5), 1);
        for (int c : Edges.NO_CELLS) {
            refusedWire(c, NONE, 5);
        }
        E.due("refused ones have no number", s.wire(240, NONE, 5), NONE);
        E.due("the next", s.wire(0, NONE, 5), 2);
    }

    private static void wiresFromWires() {
        E.sentence(22, "from another one (NONE: a cable)");
        SixAcres s = new SixAcres();
        E.due("there is no wire yet", s.wire(0, 0, 5), NONE);
        E.due("a cable", s.wire(0, NONE, 5), 0);
        E.due("from itself", s.wire(0, 1, 5), NONE);
        E.due("from the last", s.wire(0, 0, 5), 1);
        E.due("from the first again", s.wire(0, 0, 5), 2);
        for (int from : new int[] {LEAST, -3, -2, 4, 5, 59, 60, MOST}) {
            refusedWire(1, from, 5);
        }
    }

    private static void wireFuses() {
        E.sentence(22, "with a FUSE (0 to 999)");
        SixAcres s = new SixAcres();
        E.due("least", s.wire(0, NONE, 0), 0);
        E.due("most", s.wire(0, NONE, 999), 1);
        for (int fuse : new int[] {LEAST, -1, 1000, 1001, MOST}) {
            refusedWire(1, NONE, fuse);
            refusedWire(1, 0, fuse);
        }
    }

    private static SixAcres sixty(int fuse) {
        SixAcres s = new SixAcres();
        for (int i = 0; i < 60; i++) {
            s.note(i, 1, NONE, 0, 0);
            s.wire(i, i - 1, fuse);
        }
        return s;
    }

    private static void sixtyWires() {
        E.sentence(22, "60 are there");
        SixAcres s = new SixAcres();
        for (int i = 0; i < 60; i++) {
            E.due("wire " + i, s.wire(i, i - 1, 5), i);
        }
        E.due("there are", s.count(6), 60);
        E.refused("one more off a cable", () -> sixty(9), f -> f.wire(0, NONE, 5), NONE);
        E.refused("one more off the last", () -> sixty(9), f -> f.wire(0, 59, 5), NONE);
    }

    private static void drawsNothing() {
        E.sentence(23, "draws DRAW of its KIND (space, what is bricked up: nothing)");
        for (int kind = 0; kind <= 7; kind++) {
            SixAcres s = Edges.block(0, kind, 0);
            s.wire(0, NONE, 0);
            int draw = kind == 0 || kind == 7 ? 0 : 2;
            E.due("kind " + kind, s.amps(0, 0), draw);
            E.due("is gone", s.amps(0, 2), draw == 0 ? 0 : 1);
        }
        SixAcres s = Edges.block(0, 1, 0);
        s.wire(0, NONE, 0);
        Edges.tell(s, "draw home 0;");
        E.due("a draw of 0", s.amps(0, 0), 0);
        E.due("a draw of 0", s.gone(0), NONE);
    }

    private static void firstWireThatIsntDark() {
        E.sentence(23, "on the first WIRE to it that isn't dark");
        SixAcres s = Edges.block(0, 1, 0);
        for (int fuse : new int[] {1, 0, 2, 9}) {
            s.wire(0, NONE, fuse);
        }
        int[] first = {2, 0, 0, 0};
        int[] then = {0, 0, 2, 0};
        for (int w = 0; w < 4; w++) {
            E.due("as none is gone", s.amps(w, 0), first[w]);
            E.due("as all are gone", s.amps(w, 1), then[w]);
            E.due("gone", s.amps(w, 2), w < 2 ? 1 : 0);
            E.due("dark", s.amps(w, 3), w < 2 ? 1 : 0);
        }
    }

    private static void ampsAtFirst() {
        E.sentence(23, "AMPS of a WIRE, as no FUSE is gone yet (what 0)");
        SixAcres s = sixty(0);
        E.due("the whole chain", s.amps(0, 0), 120);
        E.due("its end", s.amps(59, 0), 2);
        Edges.tell(s, "draw home 99999;");
        E.due("the most", s.amps(0, 0), 60 * 99999);
        E.due("asked behind what 1", s.amps(0, 1), 0);
        E.due("still as none is gone", s.amps(0, 0), 60 * 99999);
    }

    private static void ampsWhenAllAreGone() {
        E.sentence(23, "as all are gone that go (1; 0 if it's dark), whether it is GONE itself (2), dark (3)");
        SixAcres s = Edges.block(0, 1, 0, 1, 1, 0, 2, 1, 0);
        s.wire(0, NONE, 3);
        s.wire(1, 0, 1);
        s.wire(2, 1, 9);
        int[][] due = {{6, 2, 0, 0}, {4, 0, 1, 1}, {2, 0, 0, 1}};
        for (int w = 0; w < 3; w++) {
            for (int what = 0; what < 4; what++) {
                E.due("wire " + w + " what " + what, s.amps(w, what), due[w][what]);
            }
        }
        s.note(1, 0, NONE, 0, 0);
        s.note(2, 0, NONE, 0, 0);
        E.due("none is gone once nothing is drawn", s.amps(1, 2), 0);
        E.due("nor dark", s.amps(2, 3), 0);
    }

    private static void noSuchAmps() {
        E.sentence(23, "NONE: none such");
        SixAcres s = Edges.town();
        for (int w : new int[] {LEAST, -1, 4, 5, 59, 60, MOST}) {
            for (int what = 0; what < 4; what++) {
                E.due("wire " + w + " what " + what, s.amps(w, what), NONE);
            }
        }
        for (int what : new int[] {LEAST, -1, 4, 5, MOST}) {
            E.due("what " + what, s.amps(0, what), NONE);
        }
        E.due("no wires", new SixAcres().amps(0, 0), NONE);
        E.due("the last of sixty", sixty(999).amps(59, 0), 2);
        E.due("none behind it", sixty(999).amps(60, 0), NONE);
    }

    private static void aboveItsFuse() {
        E.sentence(24, "has AMPS above its FUSE");
        SixAcres s = Edges.block(0, 1, 0);
        s.wire(0, NONE, 999);
        Edges.tell(s, "draw home 999;");
        E.due("just its fuse", s.gone(0), NONE);
        Edges.tell(s, "draw home 1000;");
        E.due("one more", s.gone(0), 0);
        SixAcres none = Edges.block(0, 1, 0);
        none.wire(1, NONE, 0);
        E.due("0 on a fuse of 0", none.gone(0), NONE);
        SixAcres chain = Edges.block(0, 1, 0, 1, 1, 0);
        chain.wire(0, NONE, 4);
        chain.wire(1, 0, 2);
        E.due("its own and what is behind it", chain.gone(0), NONE);
        chain.wire(0, 1, 0);
        E.due("a second wire to a cell has nothing to bear", chain.gone(0), NONE);
    }

    private static void farthestFirst() {
        E.sentence(24, "of those the one the farthest from its cable (by WIRES");
        SixAcres s = Edges.block(0, 1, 0, 1, 1, 0, 2, 1, 0, 3, 1, 0);
        s.wire(0, NONE, 1);
        s.wire(1, 0, 1);
        s.wire(2, NONE, 1);
        s.wire(3, 1, 1);
        int[] order = {3, 1, 0, 2};
        for (int k = 0; k < 4; k++) {
            E.due("k " + k, s.gone(k), order[k]);
        }
        E.due("no more", s.gone(4), NONE);
    }

    private static void leastOfSeveral() {
        E.sentence(24, "of several the least");
        SixAcres s = Edges.block(0, 1, 0, 1, 1, 0, 2, 1, 0);
        s.wire(9, NONE, 4);
        s.wire(2, 0, 1);
        s.wire(0, 0, 1);
        s.wire(1, 0, 1);
        int[] order = {1, 2, 3};
        for (int k = 0; k < 3; k++) {
            E.due("k " + k, s.gone(k), order[k]);
        }
        E.due("then its own fuse holds", s.gone(3), NONE);
    }

    private static void allBehindAreDark() {
        E.sentence(24, "is GONE: it and all behind it are dark");
        SixAcres s = Edges.block(0, 1, 0, 1, 1, 0, 2, 1, 0, 3, 1, 0);
        s.wire(0, NONE, 3);
        s.wire(1, 0, 9);
        s.wire(2, NONE, 9);
        s.wire(3, 1, 9);
        s.wire(3, 2, 1);
        E.due("the first of three is gone", s.gone(0), 0);
        E.due("then 3 is fed by the other one, which goes", s.gone(1), 4);
        E.due("no more", s.gone(2), NONE);
        int[] dark = {1, 1, 0, 1, 1};
        for (int w = 0; w < 5; w++) {
            E.due("dark " + w, s.amps(w, 3), dark[w]);
        }
        E.due("the other cable's", s.amps(2, 1), 2);
    }

    private static void sixtyGone() {
        E.sentence(24, "The k-th WIRE that is GONE, in the order in which they go");
        SixAcres s = sixty(1);
        for (int k = 0; k < 60; k++) {
            E.due("k " + k, s.gone(k), 59 - k);
        }
        E.due("no more", s.gone(60), NONE);
        SixAcres root = sixty(999);
        Edges.tell(root, "draw home 17;");
        E.due("the first two alone are above 999", root.amps(1, 0), 59 * 17);
        E.due("the second goes, with all behind it", root.gone(0), 1);
        E.due("the first holds then", root.gone(1), NONE);
        E.due("all behind are dark", root.amps(59, 3), 1);
    }

    private static void noSuchGone() {
        E.sentence(24, "NONE: none such");
        SixAcres s = sixty(1);
        for (int k : Edges.NO_PLACES) {
            E.due("k " + k, s.gone(k), NONE);
        }
        E.due("no wires", new SixAcres().gone(0), NONE);
    }

    private static void twiceAllTold() {
        E.sentence(25, "CELLS with two WIRES or more (all told) .. by numbers");
        SixAcres s = Edges.block(239, 1, 0);
        s.wire(239, NONE, 0);
        E.due("one wire", s.twice(0), NONE);
        s.wire(239, NONE, 0);
        s.wire(0, NONE, 0);
        s.wire(0, 2, 0);
        s.wire(0, 2, 0);
        s.wire(100, 2, 0);
        E.due("the first", s.twice(0), 0);
        E.due("the last, though its wires are gone", s.twice(1), 239);
        E.due("no more", s.twice(2), NONE);
        SixAcres many = new SixAcres();
        for (int i = 0; i < 60; i++) {
            many.wire(29 - i % 30, NONE, 0);
        }
        for (int k = 0; k < 30; k++) {
            E.due("k " + k, many.twice(k), k);
        }
        E.due("no more", many.twice(30), NONE);
    }

    private static void noSuchTwice() {
        E.sentence(25, "NONE: none such");
        SixAcres s = Edges.town();
        E.due("there is one", s.twice(0), 49);
        E.due("one alone", s.twice(1), NONE);
        for (int k : Edges.NO_PLACES) {
            E.due("k " + k, s.twice(k), NONE);
        }
    }

    private static void supplyNumbers() {
        E.sentence(26, "a tap's SUPPLY (0 to 99,999 a DAY) .. false: not as told");
        SixAcres s = Edges.block(0, 6, 0, 239, 6, 0);
        E.due("0 at first", s.kept(0, 0, 0), 0);
        E.due("most", s.supply(0, 99999), true);
        E.due("most", s.kept(0, 0, 0), 99999);
        E.due("least", s.supply(0, 0), true);
        E.due("least", s.kept(0, 0, 0), 0);
        E.due("the last cell", s.supply(239, 5), true);
        E.due("the last cell", s.kept(239, 0, 0), 5);
        for (int much : new int[] {LEAST, -1, 100000, 100001, MOST}) {
            E.refused("supply " + much, Edges::town, t -> Edges.bit(t.supply(3, much)), 0);
        }
        for (int c : Edges.NO_CELLS) {
            E.refused("supply of " + c, Edges::town, t -> Edges.bit(t.supply(c, 50)), 0);
        }
    }

    private static void asATapsIfItIsOne() {
        E.sentence(26, "asked as a tap's if it is one NOW");
        for (int kind = 0; kind <= 7; kind++) {
            SixAcres s = Edges.block(1, 1, 9, 0, kind, 0);
            E.due("kind " + kind, s.supply(0, 20), true);
            s.turn(0, 1);
            E.due("kind " + kind + " gives", s.water(1), kind == 6 ? 20 : 0);
            s.day(3);
            s.note(0, 6, NONE, 0, 3);
            E.due("a tap by now", s.water(1), 20);
            s.undo(2);
            E.due("not any more", s.water(1), kind == 6 ? 20 : 0);
        }
    }

    private static void turnCells() {
        E.sentence(27, "A TURN of a CELL at a tap .. NONE, doing nothing: not as told");
        SixAcres s = new SixAcres();
        E.due("the ends", s.turn(0, 239), 1);
        E.due("the ends", s.turn(239, 0), 2);
        E.due("of the tap itself", s.turn(0, 0), 3);
        E.due("once more", s.turn(0, 239), 4);
        for (int c : Edges.NO_CELLS) {
            E.refused("tap " + c, Edges::town, t -> t.turn(c, 1), NONE);
            E.refused("cell " + c, Edges::town, t -> t.turn(3, c), NONE);
        }
    }

    private static SixAcres fullOfTurns() {
        SixAcres s = Edges.block(3, 6, 0, 1, 1, 2, 4, 6, 0);
        s.supply(3, 500);
        s.supply(4, 500);
        for (int i = 0; i < 40; i++) {
            s.turn(3 + i % 2, 1);
        }
        return s;
    }

    private static void fortyTurns() {
        E.sentence(27, "how many there are in all .. 40 are there");
        SixAcres s = new SixAcres();
        for (int i = 1; i <= 40; i++) {
            E.due("turn " + i, s.turn(i, i + 1), i);
        }
        E.due("at a tap that has one", s.turn(1, 2), NONE);
        E.due("at one that has none", s.turn(100, 2), NONE);
        E.due("there are", s.count(7), 40);
        E.due("each of the forty counts", fullOfTurns().water(1), 40 * 6);
        E.refused("one more", WiresEdgesTest::fullOfTurns, t -> t.turn(3, 1), NONE);
    }

    private static void byTurns() {
        E.sentence(28, "gives by its TURNS one by one .. (a CELL with several TURNS at each)");
        SixAcres s = Edges.block(0, 6, 0, 1, 1, 2, 2, 1, 3, 9, 6, 0);
        s.supply(0, 20);
        s.turn(0, 1);
        s.turn(0, 2);
        s.turn(0, 1);
        s.turn(0, 2);
        E.due("6, and 5 of what is left", s.water(1), 11);
        E.due("9, and nothing", s.water(2), 9);
        s.supply(9, 4);
        s.turn(9, 2);
        E.due("by all taps", s.water(2), 13);
        E.due("the other tap's turns don't count here", s.water(1), 11);
    }

    private static void whatIsLeft() {
        E.sentence(28, "or what is left");
        SixAcres s = Edges.block(0, 6, 0, 1, 1, 2, 2, 1, 3);
        s.turn(0, 1);
        s.turn(0, 2);
        int[][] supplies = {{0, 0, 0}, {1, 1, 0}, {5, 5, 0}, {6, 6, 0}, {7, 6, 1}, {14, 6, 8}, {15, 6, 9}, {16, 6, 9}};
        for (int[] a : supplies) {
            s.supply(0, a[0]);
            E.due("the first of " + a[0], s.water(1), a[1]);
            E.due("the second of " + a[0], s.water(2), a[2]);
        }
    }

    private static void waterOfNobody() {
        E.sentence(28, "WATER of the CELL's KIND times its PEOPLE");
        SixAcres s = Edges.block(0, 6, 3, 1, 1, 0, 2, 7, 0, 4, 2, 9);
        s.supply(0, 99999);
        for (int c = 0; c <= 4; c++) {
            s.turn(0, c);
        }
        int[] due = {9, 0, 0, 0, 27};
        for (int c = 0; c <= 4; c++) {
            E.due("cell " + c, s.water(c), due[c]);
        }
        E.due("without a turn", s.water(5), 0);
        Edges.tell(s, "water shop 0;");
        E.due("a water of 0", s.water(4), 0);
    }

    private static void muchWater() {
        E.sentence(28, "0 to 99,999 a DAY, and NUMBERS of five digits");
        SixAcres s = Edges.block(0, 6, 0, 1, 1, 9, 2, 1, 1, 9, 6, 0);
        s.supply(0, 99999);
        s.supply(9, 99999);
        Edges.tell(s, "water home 99999;");
        s.turn(0, 2);
        s.turn(9, 1);
        s.turn(9, 2);
        E.due("just all of it", s.water(2), 99999);
        E.due("as much as there is", s.water(1), 99999);
        s.supply(9, 99998);
        E.due("as much as there is", s.water(1), 99998);
    }

    private static void noSuchWater() {
        E.sentence(28, "NONE: none such");
        SixAcres s = Edges.town();
        for (int c : Edges.NO_CELLS) {
            E.due("cell " + c, s.water(c), NONE);
        }
    }

    private static void saysNumbers() {
        E.sentence(29, "What a CELL says it got (0 to 99,999): true; false: not as told");
        SixAcres s = Edges.block(0, 6, 0);
        s.supply(0, 99999);
        s.turn(0, 239);
        s.turn(0, 0);
        E.due("most", s.says(239, 99999), true);
        E.due("most", s.kept(0, 0, 0), 0);
        E.due("most", s.kept(0, 1, 1), 1);
        E.due("in its place", s.says(239, 1), true);
        E.due("in its place", s.kept(0, 0, 0), 99998);
        E.due("least", s.says(239, 0), true);
        E.due("least", s.kept(0, 0, 0), 99999);
        E.due("cell 0", s.says(0, 9), true);
        E.due("cell 0", s.kept(0, 0, 0), 99990);
        for (int much : new int[] {LEAST, -1, 100000, 100001, MOST}) {
            E.refused("says " + much, Edges::town, t -> Edges.bit(t.says(1, much)), 0);
        }
        for (int c : Edges.NO_CELLS) {
            E.refused("cell " + c, Edges::town, t -> Edges.bit(t.says(c, 5)), 0);
        }
    }

    private static void saysNothingAtFirst() {
        E.sentence(29, "what a CELL tells that it got (0 at first)");
        SixAcres s = Edges.block(0, 6, 0, 1, 1, 5);
        s.supply(0, 70);
        s.turn(0, 1);
        E.due("it was given 15", s.water(1), 15);
        E.due("but says nothing", s.kept(0, 0, 0), 70);
        E.due("0 at least, if it had less", s.kept(0, 50, 1), 70);
        E.due("if it had more", s.kept(0, 50, 0), 20);
    }

    private static SixAcres twoSay() {
        SixAcres s = Edges.block(0, 6, 0);
        s.supply(0, 100);
        s.turn(0, 1);
        s.turn(0, 2);
        s.says(1, 30);
        s.says(2, 10);
        return s;
    }

    private static void keptAtLeast() {
        E.sentence(30, "at least, if each had SPAN more .. 0 at least");
        SixAcres s = twoSay();
        int[][] spans = {{0, 60}, {1, 58}, {29, 2}, {30, 0}, {31, 0}, {9999, 0}};
        for (int[] a : spans) {
            E.due("span " + a[0], s.kept(0, a[0], 0), a[1]);
        }
        s.says(1, 99999);
        E.due("they say more than there is", s.kept(0, 0, 0), 0);
    }

    private static void keptAtMost() {
        E.sentence(30, "at most, if each had SPAN less (0 at least)");
        SixAcres s = twoSay();
        int[][] spans = {{0, 60}, {9, 78}, {10, 80}, {11, 81}, {29, 99}, {30, 100}, {31, 100}, {9999, 100}};
        for (int[] a : spans) {
            E.due("span " + a[0], s.kept(0, a[0], 1), a[1]);
        }
        s.says(1, 99999);
        E.due("still more than there is", s.kept(0, 9999, 1), 0);
        s.says(1, 10098);
        E.due("99 and 0", s.kept(0, 9999, 1), 1);
    }

    private static void keptOnce() {
        E.sentence(30, "what all CELLS with TURNS there say (each CELL once)");
        SixAcres s = twoSay();
        s.turn(0, 1);
        s.turn(0, 1);
        s.turn(9, 3);
        s.says(3, 50);
        s.says(4, 50);
        E.due("each once", s.kept(0, 0, 0), 60);
        E.due("each once", s.kept(0, 5, 0), 50);
        s.turn(0, 3);
        E.due("one more cell", s.kept(0, 0, 0), 10);
        SixAcres none = Edges.block(0, 6, 0);
        none.supply(0, 100);
        E.due("no turns", none.kept(0, 9999, 0), 100);
    }

    private static void noTapNow() {
        E.sentence(30, "NONE: no tap NOW");
        for (int kind = 0; kind <= 7; kind++) {
            SixAcres s = Edges.block(0, kind, 0);
            s.supply(0, 7);
            E.due("kind " + kind, s.kept(0, 0, 0), kind == 6 ? 7 : NONE);
            E.due("kind " + kind, s.kept(0, 0, 1), kind == 6 ? 7 : NONE);
        }
        SixAcres s = twoSay();
        s.day(4);
        s.undo(0);
        E.due("a tap once", s.kept(0, 0, 0), NONE);
    }

    private static void noSuchKept() {
        E.sentence(30, "(SPAN 0 to 9,999) .. none such");
        SixAcres s = Edges.town();
        for (int c : Edges.NO_CELLS) {
            E.due("cell " + c, s.kept(c, 0, 0), NONE);
        }
        for (int span : new int[] {LEAST, -1, 10000, 10001, MOST}) {
            E.due("at least, span " + span, s.kept(3, span, 0), NONE);
            E.due("at most, span " + span, s.kept(3, span, 1), NONE);
        }
        for (int what : new int[] {LEAST, -1, 2, 3, MOST}) {
            E.due("what " + what, s.kept(3, 0, what), NONE);
        }
    }

    private static void foulComesOut() {
        E.sentence(31, "it comes out at the first passage, roof or tap below");
        for (int kind = 0; kind <= 7; kind++) {
            boolean out = kind == 3 || kind == 4 || kind == 6;
            E.due("just below, kind " + kind, Edges.block(239, 2, 0, 191, kind, 0).foul(239), out ? 191 : 47);
            E.due("two below, kind " + kind, Edges.block(239, 2, 0, 191, 7, 0, 143, kind, 0).foul(239), out ? 143 : 47);
            E.due("on floor 1, kind " + kind, Edges.block(239, 2, 0, 95, kind, 0).foul(239), out ? 95 : 47);
        }
        E.due("not its own cell, not above", Edges.block(144, 2, 0, 192, 4, 0).foul(144), 0);
        E.due("the first of two", Edges.block(192, 2, 0, 144, 1, 0, 96, 6, 0, 48, 3, 0).foul(192), 96);
    }

    private static void foulOnTheGround() {
        E.sentence(31, "or on floor 0");
        for (int kind = 0; kind <= 7; kind++) {
            E.due("kind " + kind, Edges.block(48, 2, 0, 0, kind, 0).foul(48), 0);
        }
        E.due("from the top", Edges.block(192, 2, 0).foul(192), 0);
        E.due("from the last", Edges.block(239, 2, 0).foul(239), 47);
    }

    private static void noShopNow() {
        E.sentence(31, "NONE: no shop NOW, one on floor 0");
        for (int kind = 0; kind <= 7; kind++) {
            E.due("kind " + kind, Edges.block(48, kind, 0).foul(48), kind == 2 ? 0 : NONE);
        }
        E.due("on floor 0", Edges.block(0, 2, 0).foul(0), NONE);
        E.due("the last on floor 0", Edges.block(47, 2, 0).foul(47), NONE);
        SixAcres s = Edges.block(48, 2, 0);
        s.day(1);
        s.undo(0);
        E.due("a shop once", s.foul(48), NONE);
    }

    private static void noSuchFoul() {
        E.sentence(31, "none such");
        SixAcres s = Edges.town();
        E.due("there is one", s.foul(52), 4);
        for (int c : Edges.NO_CELLS) {
            E.due("cell " + c, s.foul(c), NONE);
        }
    }
}
