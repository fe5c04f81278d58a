/** The boundary cases of doors and ways: promises 6 to 10, and what Terms says of doors, steps, exits and bars. */
public final class WaysEdgesTest {
    private static final int NONE = Edges.NONE;
    private static final int LEAST = Edges.LEAST;
    private static final int MOST = Edges.MOST;
    private static final Edges E = new Edges("edges of ways");

    public static void main(String[] args) {
        noDoorsAtFirst();
        doorsBeside();
        doorsNotBeside();
        doorCells();
        doorHow();
        doorToldAgain();
        cellToItself();
        neitherSpaceNorBricks();
        openDoorsAlone();
        overRoofs();
        upAndDownStairs();
        fewestSteps();
        noSuchWay();
        thereIsAWay();
        noneBars();
        firstBar();
        noSuchBar();
        exits();
        noExits();
        fewestStepsOut();
        noSuchOut();
        peopleOfOthers();
        nobodyCutOff();
        ifThatCellWereSpace();
        allCellsAndOneExit();
        noSuchCutOff();
        E.end();
    }

    private static void noDoorsAtFirst() {
        E.sentence(6, "DOORS between CELLS beside one another: none at first");
        SixAcres s = Edges.block(0, 4, 0, 1, 1, 0);
        E.due("doors", s.count(2), 0);
        E.due("way", s.way(0, 1, 0, 0), NONE);
        E.due("a shut one would be a bar", s.bar(0, 1), NONE);
    }

    private static void doorsBeside() {
        E.sentence(6, "BESIDE a CELL are those on its floor with x or y one more or less");
        SixAcres s = new SixAcres();
        int[][] pairs = {{0, 1}, {0, 8}, {6, 7}, {7, 15}, {39, 47}, {46, 47}, {32, 40}, {40, 41}, {48, 49}, {87, 95},
            {192, 193}, {192, 200}, {231, 239}, {238, 239}};
        for (int[] p : pairs) {
            E.due("door " + p[0] + " " + p[1], s.door(p[0], p[1], 1), true);
            E.due("door " + p[1] + " " + p[0], s.door(p[1], p[0], 2), true);
        }
        E.due("doors, each once", s.count(2), pairs.length);
    }

    private static void refusedDoor(int a, int b, int how) {
        E.refused("door " + a + " " + b + " " + how, Edges::town, s -> Edges.bit(s.door(a, b, how)), 0);
    }

    private static void doorsNotBeside() {
        E.sentence(6, "false: .. not beside one another");
        int[][] pairs = {{0, 0}, {239, 239}, {0, 2}, {0, 16}, {0, 9}, {1, 8}, {7, 8}, {15, 16}, {40, 48}, {47, 55}, {47, 48},
            {95, 96}, {0, 48}, {191, 239}, {0, 239}, {0, 7}, {0, 40}, {55, 56}, {88, 96}};
        for (int[] p : pairs) {
            refusedDoor(p[0], p[1], 1);
            E.due("the other way about", new SixAcres().door(p[1], p[0], 1), false);
        }
    }

    private static void doorCells() {
        E.sentence(6, "false: not as told");
        for (int c : Edges.NO_CELLS) {
            refusedDoor(c, 0, 1);
            refusedDoor(0, c, 1);
            refusedDoor(c, c, 1);
        }
        refusedDoor(-1, 0, 1);
        refusedDoor(-8, 0, 1);
        refusedDoor(239, 240, 1);
        refusedDoor(232, 240, 1);
        refusedDoor(-2, -1, 1);
        refusedDoor(240, 241, 1);
        refusedDoor(LEAST, MOST, 1);
    }

    private static void doorHow() {
        E.sentence(6, "A DOOR (0 none, 1 open, 2 shut)");
        SixAcres s = Edges.block(0, 4, 0, 1, 1, 0);
        E.due("open", s.door(0, 1, 1), true);
        E.due("open", s.way(0, 1, 0, 0), 1);
        E.due("shut", s.door(0, 1, 2), true);
        E.due("shut", s.way(0, 1, 0, 0), NONE);
        E.due("shut", s.bar(0, 1), 1);
        E.due("none", s.door(0, 1, 0), true);
        E.due("none", s.bar(0, 1), NONE);
        for (int how : new int[] {LEAST, -1, 3, 4, MOST}) {
            refusedDoor(0, 1, how);
            refusedDoor(5, 6, how);
        }
    }

    private static void doorToldAgain() {
        E.sentence(6, "told again: in place of what was");
        SixAcres s = new SixAcres();
        int[] how = {0, 1, 1, 2, 0, 2};
        int[] doors = {0, 1, 1, 1, 0, 1};
        for (int i = 0; i < how.length; i++) {
            E.due("told", i % 2 == 0 ? s.door(8, 9, how[i]) : s.door(9, 8, how[i]), true);
            E.due("doors", s.count(2), doors[i]);
        }
    }

    private static void cellToItself() {
        E.sentence(7, "a CELL to itself 0, if it's neither space nor bricked up");
        for (int kind = 0; kind <= 7; kind++) {
            SixAcres s = Edges.block(0, kind, 0, 239, kind, 0);
            int want = kind == 0 || kind == 7 ? NONE : 0;
            E.due("kind " + kind, s.way(0, 0, 0, 0), want);
            E.due("kind " + kind, s.way(239, 239, 9999, 9999), want);
        }
    }

    private static void neitherSpaceNorBricks() {
        E.sentence(7, "neither of which is space or bricked up");
        for (int kind = 0; kind <= 7; kind++) {
            SixAcres s = Edges.openDoors(Edges.block(0, 4, 0, 1, kind, 0, 2, 4, 0), 0, 1, 1, 2);
            boolean lets = kind != 0 && kind != 7;
            E.due("into kind " + kind, s.way(0, 1, 0, 0), lets ? 1 : NONE);
            E.due("out of kind " + kind, s.way(1, 2, 0, 0), lets ? 1 : NONE);
            E.due("through kind " + kind, s.way(0, 2, 0, 0), lets ? 2 : NONE);
        }
    }

    private static void openDoorsAlone() {
        E.sentence(7, "beside, if there is an open DOOR between");
        SixAcres s = Edges.block(6, 1, 0, 7, 1, 0, 8, 1, 0, 40, 5, 0, 48, 5, 0, 15, 1, 0);
        E.due("without a door", s.way(6, 7, 0, 0), NONE);
        s.door(6, 7, 2);
        E.due("by a shut door", s.way(6, 7, 0, 0), NONE);
        s.door(7, 6, 1);
        E.due("by an open door", s.way(6, 7, 0, 0), 1);
        E.due("and back", s.way(7, 6, 0, 0), 1);
        s.door(7, 15, 1);
        E.due("by y", s.way(15, 6, 0, 0), 2);
        E.due("not from a row's end to the next row", s.way(7, 8, 0, 0), NONE);
        E.due("not from a floor's end to the next floor", s.way(40, 48, 0, 0), NONE);
    }

    private static void overRoofs() {
        E.sentence(7, "or both are roofs");
        SixAcres s = Edges.block(6, 3, 0, 7, 3, 0, 8, 3, 0, 40, 3, 0, 48, 3, 0, 15, 3, 0, 14, 1, 0, 54, 3, 0);
        E.due("without a door", s.way(6, 7, 0, 0), 1);
        s.door(6, 7, 2);
        E.due("by a shut door", s.way(7, 6, 0, 0), 1);
        E.due("one roof isn't enough", s.way(6, 14, 0, 0), NONE);
        E.due("not from a row's end to the next row", s.way(7, 8, 0, 0), NONE);
        E.due("not from a floor's end to the next floor", s.way(40, 48, 0, 0), NONE);
        E.due("not up", s.way(6, 54, 0, 0), NONE);
    }

    private static void upAndDownStairs() {
        E.sentence(7, "above or below, if both are stairs");
        SixAcres s = Edges.block(5, 5, 0, 53, 5, 0, 101, 5, 0, 149, 5, 0, 197, 5, 0);
        E.due("to the top", s.way(5, 197, 0, 0), 4);
        E.due("to the ground", s.way(197, 5, 0, 0), 4);
        for (int kind = 0; kind <= 7; kind++) {
            SixAcres t = Edges.block(5, 5, 0, 53, kind, 0, 101, 5, 0);
            E.due("up to kind " + kind, t.way(5, 53, 0, 0), kind == 5 ? 1 : NONE);
            E.due("down to kind " + kind, t.way(101, 53, 0, 0), kind == 5 ? 1 : NONE);
            E.due("up from kind " + kind, t.way(53, 101, 0, 0), kind == 5 ? 1 : NONE);
        }
        E.due("not two floors", Edges.block(5, 5, 0, 101, 5, 0).way(5, 101, 0, 0), NONE);
        E.due("stairs beside one another need a door", Edges.block(5, 5, 0, 6, 5, 0).way(5, 6, 0, 0), NONE);
    }

    private static void fewestSteps() {
        E.sentence(7, "The fewest STEPS");
        SixAcres s = new SixAcres();
        for (int c = 0; c < 48; c++) {
            s.note(c, 1, NONE, 0, 0);
        }
        for (int y = 0; y < 6; y++) {
            for (int x = 0; x < 7; x++) {
                s.door(8 * y + x, 8 * y + x + 1, 1);
            }
            if (y < 5) {
                int end = y % 2 == 0 ? 8 * y + 7 : 8 * y;
                s.door(end, end + 8, 1);
            }
        }
        E.due("through all of a floor", s.way(0, 40, 0, 0), 47);
        s.door(0, 8, 1);
        E.due("by a shorter one", s.way(0, 40, 0, 0), 33);
    }

    private static void noSuchWay() {
        E.sentence(7, "NONE: no way, none such");
        SixAcres s = Edges.town();
        E.due("no way", s.way(0, 46, 5, 5), NONE);
        SixAcres apart = Edges.openDoors(Edges.block(0, 1, 0, 1, 1, 0, 18, 1, 0, 19, 1, 0), 0, 1, 18, 19);
        E.due("a way there", apart.way(18, 19, 0, 0), 1);
        for (int c : new int[] {18, 19}) {
            E.due("none from here to " + c, apart.way(0, c, 0, 0), NONE);
            E.due("none back from " + c, apart.way(c, 1, 0, 0), NONE);
            E.due("none from space to " + c, apart.way(30, c, 0, 0), NONE);
        }
        for (int c : Edges.NO_CELLS) {
            E.due("from " + c, s.way(c, 0, 5, 5), NONE);
            E.due("to " + c, s.way(0, c, 5, 5), NONE);
            E.due("itself " + c, s.way(c, c, 5, 5), NONE);
        }
        for (int d : Edges.NO_DAYS) {
            E.due("day " + d, s.way(0, 0, d, 5), NONE);
            E.due("known by " + d, s.way(0, 0, 5, d), NONE);
        }
        E.due("day 0, known by the last", s.way(0, 0, 0, 9999), 0);
        E.due("the last day, known by 0", s.way(0, 0, 9999, 0), 0);
    }

    private static void thereIsAWay() {
        E.sentence(8, "NONE: there is a way");
        SixAcres s = Edges.openDoors(Edges.block(0, 1, 0, 1, 1, 0, 8, 1, 0, 9, 1, 0), 0, 1);
        s.door(0, 8, 2);
        E.due("a step", s.bar(0, 1), NONE);
        E.due("a cell to itself", s.bar(0, 0), NONE);
        E.due("no way", s.bar(1, 8), 8);
        SixAcres roofs = Edges.block(0, 3, 0, 1, 3, 0);
        roofs.door(0, 1, 2);
        E.due("over roofs, by a shut door", roofs.bar(0, 1), NONE);
    }

    private static void noneBars() {
        E.sentence(8, "none is such");
        SixAcres s = Edges.block(0, 1, 0, 1, 1, 0, 2, 1, 0, 3, 7, 0, 9, 1, 0);
        E.due("no doors", s.bar(0, 1), NONE);
        s.door(0, 1, 2);
        s.door(1, 2, 2);
        s.door(2, 3, 2);
        s.door(0, 8, 2);
        s.door(8, 9, 2);
        E.due("two in a row", s.bar(0, 2), NONE);
        E.due("what is bricked up", s.bar(2, 3), NONE);
        E.due("space", s.bar(0, 8), NONE);
        E.due("space itself", s.bar(8, 8), NONE);
        E.due("bricks themselves", s.bar(3, 3), NONE);
        E.due("through space", s.bar(0, 9), NONE);
        E.due("each alone", s.bar(1, 2), 242);
    }

    private static void firstBar() {
        E.sentence(8, "the first (least lesser CELL, then least greater one) .. 240 times the lesser CELL and the greater one");
        SixAcres s = Edges.block(230, 1, 0, 231, 1, 0, 238, 1, 0, 239, 1, 0);
        s.door(239, 238, 2);
        E.due("the last two cells", s.bar(239, 238), 240 * 238 + 239);
        s.door(239, 231, 2);
        s.door(238, 230, 1);
        s.door(231, 230, 1);
        E.due("the least lesser", s.bar(239, 238), 240 * 231 + 239);
        s.door(238, 230, 2);
        s.door(239, 238, 1);
        E.due("lesser ahead of greater", s.bar(239, 230), 240 * 230 + 238);
        s.door(230, 231, 2);
        s.door(239, 231, 1);
        E.due("then the least greater", s.bar(239, 230), 240 * 230 + 231);
        SixAcres first = Edges.block(0, 1, 0, 1, 1, 0);
        first.door(0, 1, 2);
        E.due("the first two cells", first.bar(1, 0), 1);
    }

    private static void noSuchBar() {
        E.sentence(8, "none such");
        SixAcres s = Edges.town();
        E.due("there is one", s.bar(1, 4), 240 * 2 + 3);
        for (int c : Edges.NO_CELLS) {
            E.due("from " + c, s.bar(c, 4), NONE);
            E.due("to " + c, s.bar(1, c), NONE);
            E.due("itself " + c, s.bar(c, c), NONE);
        }
    }

    private static void exits() {
        E.sentence(9, "EXITS: passages on floor 0 with x 0 or 7 or y 0 or 5");
        SixAcres s = new SixAcres();
        for (int c = 0; c < 96; c++) {
            s.note(c, 4, NONE, 0, 0);
        }
        for (int c = 0; c < 96; c++) {
            boolean rim = c % 8 == 0 || c % 8 == 7 || c < 8 || c >= 40;
            E.due("passage " + c, s.out(c), c < 48 && rim ? 0 : NONE);
        }
    }

    private static void noExits() {
        E.sentence(9, "NONE: none");
        for (int kind = 0; kind <= 7; kind++) {
            SixAcres s = Edges.block(0, kind, 0, 47, kind, 0);
            E.due("kind " + kind, s.out(0), kind == 4 ? 0 : NONE);
            E.due("kind " + kind, s.out(47), kind == 4 ? 0 : NONE);
        }
        SixAcres apart = Edges.openDoors(Edges.block(9, 1, 0, 10, 1, 0, 11, 4, 0), 9, 10, 10, 11);
        E.due("a way within", apart.way(9, 11, 0, 0), 2);
        for (int c = 9; c <= 11; c++) {
            E.due("none out of " + c, apart.out(c), NONE);
        }
        SixAcres top = Edges.block(192, 4, 0, 239, 4, 0, 144, 4, 0, 96, 4, 0);
        E.due("floor 4", top.out(192), NONE);
        E.due("floor 4", top.out(239), NONE);
        E.due("floor 2", top.out(96), NONE);
    }

    private static void fewestStepsOut() {
        E.sentence(9, "The fewest STEPS from a CELL to an EXIT NOW");
        SixAcres s = Edges.openDoors(Edges.block(8, 4, 0, 9, 1, 0, 10, 1, 0, 11, 1, 0, 12, 1, 0, 13, 1, 0, 14, 1, 0, 15, 4, 0),
                8, 9, 9, 10, 10, 11, 11, 12, 12, 13, 13, 14, 14, 15);
        int[] steps = {0, 1, 2, 3, 3, 2, 1, 0};
        for (int x = 0; x < 8; x++) {
            E.due("from " + (8 + x), s.out(8 + x), steps[x]);
        }
        s.day(3);
        s.undo(0);
        E.due("NOW, not as it was", s.out(9), 6);
    }

    private static void noSuchOut() {
        E.sentence(9, "none such");
        SixAcres s = Edges.town();
        for (int c : Edges.NO_CELLS) {
            E.due("cell " + c, s.out(c), NONE);
        }
    }

    private static void peopleOfOthers() {
        E.sentence(10, "PEOPLE (of all other CELLS)");
        SixAcres s = Edges.openDoors(Edges.block(0, 4, 9, 1, 1, 8), 0, 1);
        E.due("not its own", s.cutOff(1), 0);
        E.due("others alone", s.cutOff(0), 8);
    }

    private static void nobodyCutOff() {
        E.sentence(10, "who have a way to an EXIT NOW");
        SixAcres s = Edges.openDoors(Edges.block(9, 1, 4, 10, 1, 5, 11, 4, 6, 30, 7, 0), 9, 10, 10, 11);
        for (int c : new int[] {9, 10, 11, 30, 0, 239}) {
            E.due("no exit at all: " + c, s.cutOff(c), 0);
        }
        E.due("a new block", new SixAcres().cutOff(0), 0);
        SixAcres above = Edges.openDoors(Edges.block(1, 4, 0, 2, 5, 0, 50, 5, 0, 49, 1, 6, 48, 4, 7), 1, 2, 49, 50, 48, 49);
        E.due("a passage on floor 1 is no exit", above.cutOff(49), 7);
        E.due("a passage on floor 1 is no exit", above.cutOff(50), 13);
        SixAcres first = Edges.openDoors(Edges.block(0, 1, 3, 1, 4, 0, 8, 1, 4), 0, 1, 0, 8);
        E.due("by cell 0", first.cutOff(0), 4);
        E.due("cell 0 and what is behind it", first.cutOff(1), 7);
    }

    private static void ifThatCellWereSpace() {
        E.sentence(10, "but none if that CELL were space");
        SixAcres s = Edges.openDoors(Edges.block(0, 4, 1, 1, 1, 2, 2, 4, 3, 9, 1, 4, 30, 7, 0), 0, 1, 1, 2, 1, 9);
        E.due("two exits, either will do", s.cutOff(0), 0);
        E.due("two exits, either will do", s.cutOff(2), 0);
        E.due("exits need no way", s.cutOff(1), 4);
        E.due("space it is", s.cutOff(8), 0);
        E.due("bricks", s.cutOff(30), 0);
        SixAcres many = new SixAcres();
        for (int c = 8; c < 48; c++) {
            many.note(c, c == 8 ? 4 : 3, NONE, 9, 0);
        }
        many.note(9, 4, NONE, 0, 0);
        many.door(8, 9, 1);
        many.door(9, 10, 1);
        E.due("all that are left", many.cutOff(9), 38 * 9);
        E.due("all that are left", many.cutOff(8), 38 * 9);
        E.due("over other roofs", many.cutOff(18), 0);
    }

    private static void allCellsAndOneExit() {
        E.sentence(10, "CUT OFF, with all CELLS on one way");
        SixAcres s = new SixAcres();
        for (int c = 0; c < 240; c++) {
            s.note(c, c == 0 ? 4 : 5, NONE, 1, 0);
        }
        for (int x = 0; x < 7; x++) {
            s.door(x, x + 1, 1);
        }
        for (int c = 0; c < 40; c++) {
            s.door(c, c + 8, 1);
        }
        s.door(48, 49, 1);
        E.due("all have a way", s.count(4), 240);
        E.due("all but those in the exit", s.cutOff(0), 239);
        E.due("41 whole stairs, and those above 0 and 1", s.cutOff(1), 41 * 5 + 8);
        E.due("those above the exit", s.cutOff(49), 4 + 3);
        E.due("the top of a column", s.cutOff(239), 0);
        E.due("what is under it", s.cutOff(191), 1);
        E.due("the foot of the last column", s.cutOff(47), 4);
    }

    private static void noSuchCutOff() {
        E.sentence(10, "NONE: none such");
        SixAcres s = Edges.town();
        E.due("there is one", s.cutOff(1), 2);
        for (int c : Edges.NO_CELLS) {
            E.due("cell " + c, s.cutOff(c), NONE);
        }
    }
}
