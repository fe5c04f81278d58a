/** The boundary cases of fires, wishes, rooms that go and counts: promises 32 to 39, and what part 5 says of them. */
public final class FiresEdgesTest {
    private static final int NONE = Edges.NONE;
    private static final int LEAST = Edges.LEAST;
    private static final int MOST = Edges.MOST;
    private static final Edges E = new Edges("edges of fires and wishes");

    public static void main(String[] args) {
        beginsWhereItIsntSpace();
        intoWhatIsntSpace();
        minutesByDoors();
        minutesUpAndDown();
        fireAtTheRim();
        leastMinute();
        farthestMinute();
        noSuchFire();
        aheadOfItsMinute();
        theirOwnAtMinuteZero();
        nobodySaved();
        savedFarOff();
        noSuchSaved();
        wallsWithoutADoor();
        wallsOfRooms();
        firstWall();
        wallsFarOff();
        fireGoesByItToo();
        noneSavesMore();
        noSuchWall();
        wishCells();
        wishKinds();
        eightWishes();
        noWishes();
        notInSpace();
        mayBeBuilt();
        ofOneCellOne();
        noneBroken();
        leastBits();
        allEight();
        metAnew();
        noSuchMet();
        clear();
        goesFromTheTop();
        goesWithItsPeople();
        tillNoneCan();
        goesAnew();
        allGo();
        noSuchGoes();
        counts();
        countsOfNow();
        noSuchCount();
        E.end();
    }

    private static void beginsWhereItIsntSpace() {
        E.sentence(32, "FIRE begins in a CELL that isn't space at minute 0");
        for (int kind = 0; kind <= 7; kind++) {
            SixAcres s = Edges.block(0, kind, 0, 1, 1, 0);
            E.due("itself, kind " + kind, s.fire(0, 0), kind == 0 ? NONE : 0);
            E.due("beside, kind " + kind, s.fire(0, 1), kind == 0 ? NONE : 9);
        }
        E.due("the last cell", Edges.block(239, 7, 0).fire(239, 239), 0);
    }

    private static void intoWhatIsntSpace() {
        E.sentence(32, "it comes from a CELL to another one that isn't space .. none");
        for (int kind = 0; kind <= 7; kind++) {
            SixAcres s = Edges.openDoors(Edges.block(0, 1, 0, 1, kind, 0, 2, 1, 0), 0, 1, 1, 2);
            E.due("into kind " + kind, s.fire(0, 1), kind == 0 ? NONE : 2);
            E.due("through kind " + kind, s.fire(0, 2), kind == 0 ? NONE : 4);
        }
        SixAcres apart = Edges.block(0, 1, 0, 2, 1, 0, 96, 1, 0, 9, 1, 0);
        for (int c : new int[] {2, 96, 9, 1, 48}) {
            E.due("not to " + c, apart.fire(0, c), NONE);
        }
    }

    private static void minutesByDoors() {
        E.sentence(32, "beside by an open DOOR in 2 minutes, by a shut one in 5, without one in 9");
        int[] minutes = {9, 2, 5};
        for (int how = 0; how <= 2; how++) {
            SixAcres s = Edges.block(0, 1, 0, 1, 1, 0, 8, 3, 0, 16, 3, 0);
            s.door(0, 1, how);
            s.door(8, 16, how);
            E.due("by x, door " + how, s.fire(0, 1), minutes[how]);
            E.due("and back", s.fire(1, 0), minutes[how]);
            E.due("by y, from roof to roof", s.fire(8, 16), minutes[how]);
            E.due("and back", s.fire(16, 8), minutes[how]);
        }
    }

    private static void minutesUpAndDown() {
        E.sentence(32, "above in 3, below in 6");
        SixAcres s = Edges.block(0, 1, 0, 48, 7, 0, 96, 5, 0, 144, 5, 0, 192, 3, 0);
        E.due("to the top", s.fire(0, 192), 12);
        E.due("to the ground", s.fire(192, 0), 24);
        E.due("one up", s.fire(96, 144), 3);
        E.due("one down", s.fire(144, 96), 6);
    }

    private static void fireAtTheRim() {
        E.sentence(32, "beside, above and below, at the block's rim");
        SixAcres s = Edges.block(7, 1, 0, 8, 1, 0, 47, 1, 0, 48, 1, 0, 40, 1, 0, 191, 1, 0, 192, 1, 0, 239, 1, 0);
        E.due("not from a row's end to the next row", s.fire(7, 8), NONE);
        E.due("not from the next row back", s.fire(8, 7), NONE);
        E.due("not from a floor's end to the next floor", s.fire(47, 48), NONE);
        E.due("not from a floor's last row to the next floor", s.fire(40, 48), NONE);
        E.due("not from floor 3's end to floor 4's begin", s.fire(191, 192), NONE);
        E.due("up to the last cell", s.fire(191, 239), 3);
        E.due("nowhere else", s.fire(239, 0), NONE);
    }

    private static void leastMinute() {
        E.sentence(32, "MINUTE of a CELL: the least");
        SixAcres s = Edges.block(0, 1, 0, 1, 1, 0, 8, 1, 0, 9, 1, 0);
        E.due("by walls", s.fire(0, 9), 18);
        E.due("by one wall", s.fire(0, 1), 9);
        Edges.openDoors(s, 0, 8, 8, 9, 9, 1);
        E.due("three doors are quicker than a wall", s.fire(0, 1), 6);
        SixAcres over = Edges.block(0, 1, 0, 1, 1, 0, 48, 1, 0, 49, 1, 0);
        E.due("9 by the wall", over.fire(0, 1), 9);
        over.door(48, 49, 1);
        E.due("up, over and down is 11", over.fire(0, 1), 9);
    }

    private static void farthestMinute() {
        E.sentence(32, "MINUTE of a CELL, as far as fires go");
        SixAcres s = new SixAcres();
        for (int c = 0; c < 240; c++) {
            s.note(c, 7, NONE, 0, 0);
        }
        E.due("to the far corner above", s.fire(0, 239), 12 * 9 + 4 * 3);
        E.due("to the far corner below", s.fire(239, 0), 12 * 9 + 4 * 6);
        // One lane through a floor without doors.
        SixAcres lane = new SixAcres();
        int minutes = 0;
        for (int y = 0; y < 6; y += 2) {
            for (int x = 0; x < 8; x++) {
                lane.note(8 * y + x, 1, NONE, 0, 0);
            }
            minutes += 7 * 9;
            if (y < 4) {
                lane.note(8 * y + 8 + (y == 0 ? 7 : 0), 1, NONE, 0, 0);
                minutes += 2 * 9;
            }
        }
        E.due("to the lane's end", lane.fire(0, 39), minutes);
    }

    private static void noSuchFire() {
        E.sentence(32, "NONE: .. none such");
        SixAcres s = Edges.town();
        for (int c : Edges.NO_CELLS) {
            E.due("from " + c, s.fire(c, 1), NONE);
            E.due("to " + c, s.fire(1, c), NONE);
            E.due("itself " + c, s.fire(c, c), NONE);
        }
    }

    /** People in cell 2 go by 1 to the exit 0; the fire begins in 8 or 9, beside 0 and 1. */
    private static SixAcres lane() {
        return Edges.openDoors(Edges.block(0, 4, 0, 1, 1, 0, 2, 1, 5, 8, 1, 0, 9, 1, 0), 0, 1, 1, 2);
    }

    private static void aheadOfItsMinute() {
        E.sentence(33, "they are in each CELL .. ahead of its MINUTE");
        SixAcres s = lane();
        s.door(0, 8, 2);
        E.due("in 0 at minute 2, it burns at 5", s.saved(8), 5);
        s.door(0, 8, 1);
        E.due("in 0 at minute 2, it burns at 2", s.saved(8), 0);
        SixAcres t = lane();
        t.door(1, 9, 1);
        E.due("in 1 at minute 1, it burns at 2; in 0 at 2, it burns at 4", t.saved(9), 5);
        t.note(1, 1, NONE, 7, 0);
        E.due("those in 1 as well", t.saved(9), 12);
        SixAcres up = Edges.openDoors(Edges.block(0, 4, 0, 1, 5, 0, 49, 5, 0, 97, 5, 0, 145, 5, 4), 0, 1);
        E.due("down ahead of a fire on their heels", up.saved(145), 0);
        up.note(193, 1, NONE, 3, 0);
        E.due("4 steps, and the fire is two floors behind", up.saved(193), 4);
        up.note(48, 1, NONE, 0, 0);
        E.due("49 burns at 9 by a wall, 2 minutes in", up.saved(48), 4);
        up.door(48, 49, 1);
        E.due("in 49 at minute 2, it burns at 2", up.saved(48), 0);
    }

    private static void theirOwnAtMinuteZero() {
        E.sentence(33, "their own at minute 0");
        SixAcres s = Edges.block(0, 4, 5, 1, 1, 0);
        E.due("in an exit that burns", s.saved(0), 0);
        E.due("in an exit beside it", s.saved(1), 5);
        s.door(0, 1, 1);
        E.due("in an exit that burns at 2", s.saved(1), 5);
        SixAcres far = lane();
        E.due("where it begins", far.saved(2), 0);
        far.note(1, 1, NONE, 4, 0);
        E.due("beside where it begins", far.saved(2), 4);
    }

    private static void nobodySaved() {
        E.sentence(33, "PEOPLE of a CELL that have a way to an EXIT");
        SixAcres s = Edges.openDoors(Edges.block(9, 4, 5, 10, 1, 6, 40, 7, 0), 9, 10);
        E.due("no exit", s.saved(40), 0);
        E.due("nobody there", Edges.block(0, 4, 0).saved(0), 0);
        SixAcres two = Edges.openDoors(Edges.block(0, 4, 0, 1, 1, 3, 2, 1, 4, 3, 4, 0, 40, 7, 0), 0, 1);
        E.due("one has a way", two.saved(40), 3);
        two.door(2, 3, 1);
        E.due("both have", two.saved(40), 7);
        E.due("the other exit burns", two.saved(3), 3);
        SixAcres first = Edges.openDoors(Edges.block(0, 1, 3, 1, 4, 0, 8, 1, 4, 40, 7, 0), 0, 1, 0, 8);
        E.due("in cell 0 and by it", first.saved(40), 7);
    }

    private static void savedFarOff() {
        E.sentence(33, "SAVED, where the fire never comes");
        SixAcres s = new SixAcres();
        for (int c = 0; c < 48; c++) {
            s.note(c, c == 0 ? 4 : 3, NONE, 9, 0);
        }
        s.note(239, 7, NONE, 0, 0);
        s.door(0, 1, 1);
        E.due("all of a floor", s.saved(239), 48 * 9);
        E.due("from the exit nobody", s.saved(0), 0);
    }

    private static void noSuchSaved() {
        E.sentence(33, "NONE: none such (space)");
        SixAcres s = Edges.town();
        for (int c : Edges.NO_CELLS) {
            E.due("cell " + c, s.saved(c), NONE);
        }
        E.due("space", s.saved(10), NONE);
        E.due("space that was told", Edges.block(0, 0, 0).saved(0), NONE);
        E.due("bricks", Edges.block(0, 7, 0).saved(0), 0);
    }

    private static void wallsWithoutADoor() {
        E.sentence(34, "without a DOOR");
        SixAcres s = Edges.block(0, 4, 0, 1, 1, 3, 40, 7, 0);
        E.due("a wall", s.wall(40), 1);
        s.door(0, 1, 2);
        E.due("a shut door isn't one", s.wall(40), NONE);
        s.door(0, 1, 1);
        E.due("an open door isn't one", s.wall(40), NONE);
        s.door(0, 1, 0);
        E.due("no door any more", s.wall(40), 1);
        E.refused("a wall that saves is told, not opened", Edges::town, t -> t.wall(239), 240 * 46 + 47);
    }

    private static void wallsOfRooms() {
        E.sentence(34, "of all CELLS beside one another, neither space nor bricked up");
        for (int kind = 0; kind <= 7; kind++) {
            SixAcres s = Edges.block(0, 4, 0, 1, kind, 0, 2, 1, 3, 40, 7, 0);
            s.door(1, 2, 1);
            boolean through = kind != 0 && kind != 7 && kind != 4;
            E.due("kind " + kind, s.wall(40), kind == 4 ? NONE : through ? 1 : NONE);
        }
        SixAcres rim = Edges.block(7, 4, 0, 8, 1, 3, 40, 4, 0, 48, 1, 3, 0, 1, 0, 30, 7, 0);
        E.due("neither rows' nor floors' ends are walls", rim.wall(30), NONE);
        SixAcres up = Edges.block(0, 4, 0, 48, 1, 3, 30, 7, 0);
        E.due("nor are those above", up.wall(30), NONE);
    }

    private static void firstWall() {
        E.sentence(34, "of several the least lesser, then the least greater one");
        SixAcres s = Edges.block(46, 1, 3, 38, 4, 0, 39, 4, 0, 47, 4, 0, 45, 4, 0, 0, 7, 0);
        E.due("the least lesser", s.wall(0), 240 * 45 + 46);
        s.note(45, 0, NONE, 0, 0);
        E.due("the last two cells of the floor", s.wall(0), 240 * 46 + 47);
        SixAcres t = Edges.block(6, 1, 3, 7, 4, 0, 14, 4, 0, 15, 4, 0, 40, 7, 0);
        E.due("then the least greater", t.wall(40), 240 * 6 + 7);
        t.note(7, 0, NONE, 0, 0);
        t.door(14, 15, 1);
        E.due("the greater one", t.wall(40), 240 * 6 + 14);
        SixAcres most = Edges.block(0, 4, 0, 1, 1, 3, 7, 4, 0, 6, 1, 4, 40, 7, 0);
        E.due("the one that saves most", most.wall(40), 240 * 6 + 7);
    }

    private static void wallsFarOff() {
        E.sentence(34, "the two of which it would save most");
        SixAcres one = Edges.block(0, 1, 1, 1, 4, 0, 40, 7, 0);
        E.due("one alone, in cell 0", one.wall(40), 1);
        SixAcres late = Edges.openDoors(Edges.block(0, 1, 0, 1, 4, 0, 2, 1, 3), 0, 1);
        E.due("in the exit at 1, it burns at 2", late.wall(0), 240 + 2);
        SixAcres far = Edges.openDoors(Edges.block(1, 4, 0, 2, 1, 0, 3, 1, 0, 9, 1, 0, 17, 1, 0, 25, 1, 1), 1, 2, 2, 3, 9, 17, 17, 25);
        E.due("in the exit at 3, it burns at 4", far.wall(3), 240 + 9);
        far.door(17, 25, 0);
        far.note(24, 1, NONE, 2, 0);
        Edges.openDoors(far, 25, 24);
        E.due("two walls are between", far.wall(3), NONE);
        SixAcres by = Edges.openDoors(Edges.block(0, 1, 0, 1, 1, 0, 2, 4, 0, 8, 1, 2, 40, 7, 0), 8, 0, 0, 1);
        E.due("by cell 0", by.wall(40), 240 + 2);
    }

    private static void fireGoesByItToo() {
        E.sentence(34, "if there were an open DOOR (the fire goes by it, too)");
        // The fire in 1 would come to 2 by the new door at minute 2, and to the exit 3 at minute 4.
        SixAcres s = Edges.openDoors(Edges.block(1, 1, 0, 2, 1, 0, 3, 4, 0, 9, 1, 5, 10, 1, 0), 2, 3, 1, 9, 10, 2);
        E.due("in 10 at 1, in 2 at 2 and in 3 at 3", s.wall(1), 240 * 9 + 10);
        SixAcres t = Edges.openDoors(Edges.block(0, 1, 0, 1, 1, 5, 2, 4, 0), 0, 1);
        E.due("in the exit at 1, it burns at 4", t.wall(0), 240 + 2);
        SixAcres late = Edges.openDoors(Edges.block(0, 1, 0, 1, 1, 0, 2, 4, 0, 9, 1, 0, 17, 1, 5), 0, 1, 1, 9, 9, 17);
        E.due("in 1 at 2, where it burns at 2", late.wall(0), NONE);
    }

    private static void noneSavesMore() {
        E.sentence(34, "none, if none saves more than NOW");
        SixAcres s = Edges.openDoors(Edges.block(0, 4, 0, 1, 1, 3, 8, 4, 0, 9, 1, 0, 40, 7, 0), 0, 1);
        E.due("all are saved", s.wall(40), NONE);
        E.due("nobody is there", Edges.block(0, 4, 0, 1, 1, 0, 40, 7, 0).wall(40), NONE);
        E.due("a door that costs as much as it saves", s.wall(1), NONE);
        E.due("no exit", Edges.block(9, 1, 3, 10, 1, 3, 40, 7, 0).wall(40), NONE);
        E.due("one room alone", Edges.block(0, 7, 0).wall(0), NONE);
    }

    private static void noSuchWall() {
        E.sentence(34, "NONE: none, none such");
        SixAcres s = Edges.block(0, 4, 0, 1, 1, 3, 40, 7, 0);
        for (int c : Edges.NO_CELLS) {
            E.due("cell " + c, s.wall(c), NONE);
        }
        E.due("space", s.wall(239), NONE);
        E.due("space", s.wall(8), NONE);
    }

    private static void refusedWish(int cell, int kind) {
        E.refused("wish " + cell + " " + kind, Edges::town, s -> s.wish(cell, kind), NONE);
    }

    private static void wishCells() {
        E.sentence(35, "A WISH: how many. NONE, doing nothing: not as told");
        SixAcres s = new SixAcres();
        E.due("cell 0", s.wish(0, 1), 1);
        E.due("cell 239", s.wish(239, 1), 2);
        E.due("the same again", s.wish(239, 1), 3);
        for (int c : Edges.NO_CELLS) {
            refusedWish(c, 1);
        }
    }

    private static void wishKinds() {
        E.sentence(35, "a KIND 1 to 6");
        SixAcres s = new SixAcres();
        for (int kind = 1; kind <= 6; kind++) {
            E.due("kind " + kind, s.wish(5, kind), kind);
        }
        for (int kind : new int[] {LEAST, -1, 0, 7, 8, MOST}) {
            refusedWish(5, kind);
        }
    }

    private static SixAcres fullOfWishes() {
        SixAcres s = new SixAcres();
        Edges.tell(s, "may home;");
        for (int i = 0; i < 8; i++) {
            s.wish(i, 1);
        }
        return s;
    }

    private static void eightWishes() {
        E.sentence(35, "8 are there");
        SixAcres s = new SixAcres();
        for (int i = 1; i <= 8; i++) {
            E.due("wish " + i, s.wish(i, 1), i);
        }
        E.due("there are", s.count(8), 8);
        E.refused("one more", FiresEdgesTest::fullOfWishes, t -> t.wish(20, 1), NONE);
        s.clear();
        E.due("there is room again", s.wish(20, 1), 1);
    }

    private static void noWishes() {
        E.sentence(36, "MET: how many (what 0), their bits (1), without WISHES");
        SixAcres s = new SixAcres();
        E.due("how many", s.met(0), 0);
        E.due("bits", s.met(1), 0);
        Edges.tell(s, "may home;");
        E.due("with a custom", s.met(0), 0);
        s.wish(0, 1);
        E.due("one", s.met(0), 1);
        E.due("bit 0", s.met(1), 1);
    }

    private static void notInSpace() {
        E.sentence(36, "in a CELL that is space NOW (others aren't met)");
        for (int kind = 0; kind <= 7; kind++) {
            SixAcres s = Edges.block(5, kind, 0);
            Edges.tell(s, "may home;");
            E.due("it is a wish", s.wish(5, 1), 1);
            E.due("kind " + kind, s.met(0), kind == 0 ? 1 : 0);
            s.note(5, 0, NONE, 0, 0);
            E.due("space by now", s.met(1), 1);
            s.note(5, 3, NONE, 0, 0);
            E.due("not any more", s.met(1), 0);
            E.due("still a wish", s.count(8), 1);
        }
    }

    private static void mayBeBuilt() {
        E.sentence(36, "that MAY be built (each asked as the block is NOW");
        SixAcres s = Edges.block(0, 1, 0);
        s.wish(48, 3);
        s.wish(96, 3);
        E.due("bare", s.met(0), 0);
        Edges.tell(s, "may roof if below=1;");
        E.due("on a dwelling alone", s.met(1), 1);
        Edges.tell(s, "may roof if below=1 or below=0;");
        E.due("over what is space NOW", s.met(1), 3);
        Edges.tell(s, "may roof if below=3;");
        E.due("not over what would be a roof", s.met(1), 0);
        Edges.tell(s, "may home;");
        E.due("none of the kind", s.met(1), 0);
    }

    private static void ofOneCellOne() {
        E.sentence(36, "of one CELL one");
        SixAcres s = new SixAcres();
        Edges.tell(s, "may home;may shop;");
        for (int i = 0; i < 8; i++) {
            s.wish(5, 1 + i % 2);
        }
        E.due("one of eight", s.met(0), 1);
        E.due("the least bits", s.met(1), 1);
        s.weigh(1, 61, 60);
        E.due("dwellings break", s.met(1), 2);
        SixAcres two = new SixAcres();
        Edges.tell(two, "may home;");
        two.wish(5, 1);
        two.wish(6, 1);
        two.wish(5, 1);
        two.wish(6, 1);
        E.due("one each", two.met(0), 2);
        E.due("the least bits", two.met(1), 3);
    }

    private static void noneBroken() {
        E.sentence(36, "all built (without PEOPLE), no CELL is BROKEN that isn't BROKEN NOW");
        SixAcres s = Edges.block(0, 3, 6, 100, 1, 0);
        Edges.tell(s, "may home;may roof;");
        s.wish(48, 1);
        E.due("just what it bears", s.met(1), 1);
        s.wish(96, 3);
        E.due("either, not both: one that hangs alone falls", s.met(1), 1);
        s.clear();
        s.wish(48, 3);
        s.wish(96, 3);
        E.due("one is built on the other", s.met(1), 3);
        s.clear();
        s.wish(48, 1);
        s.note(0, 3, NONE, 7, 0);
        E.due("one more than it bears", s.met(1), 0);
        s.weigh(3, 14, 20);
        E.due("it is broken by itself, so it may be worse", s.met(1), 1);
        s.wish(101, 1);
        E.due("beside what falls it falls", s.met(1), 1);
        E.due("what falls NOW is no hindrance", s.count(10), 2);
        SixAcres other = Edges.block(0, 3, 0);
        Edges.tell(other, "may home;may shop;");
        other.wish(48, 2);
        other.wish(1, 1);
        E.due("too heavy just so", other.met(1), 2);
        other.weigh(2, 16, 50);
        E.due("not too heavy", other.met(1), 3);
        SixAcres last = new SixAcres();
        Edges.tell(last, "may home;");
        last.wish(239, 1);
        E.due("nothing under it", last.met(0), 0);
    }

    private static void leastBits() {
        E.sentence(36, "the one with the most; of several the least bits");
        SixAcres s = Edges.block(0, 3, 0);
        Edges.tell(s, "may home;may roof;may shop;");
        s.weigh(1, 16, 60);
        s.weigh(2, 17, 60);
        s.wish(48, 2);
        E.due("too heavy", s.met(1), 0);
        s.wish(48, 1);
        E.due("not the first", s.met(1), 2);
        s.wish(48, 3);
        E.due("the least of two", s.met(1), 2);
        s.wish(96, 3);
        s.wish(144, 3);
        E.due("three light ones ahead of one", s.met(0), 3);
        E.due("their bits", s.met(1), 4 + 8 + 16);
    }

    private static void allEight() {
        E.sentence(36, "of all sets of WISHES, up to 8");
        SixAcres s = fullOfWishes();
        E.due("all", s.met(0), 8);
        E.due("all", s.met(1), 255);
        s.note(0, 1, NONE, 0, 0);
        E.due("all but the first", s.met(1), 254);
        s.note(7, 1, NONE, 0, 0);
        E.due("nor the last", s.met(1), 126);
        E.due("six", s.met(0), 6);
    }

    private static void metAnew() {
        E.sentence(36, "as the block is NOW");
        SixAcres s = Edges.block(0, 3, 0, 49, 1, 0, 1, 1, 0);
        s.wish(48, 1);
        E.due("bare", s.met(1), 0);
        Edges.tell(s, "may home;");
        E.due("after custom", s.met(1), 1);
        s.weigh(1, 17, 60);
        E.due("after weigh", s.met(1), 0);
        s.note(0, 7, NONE, 0, 0);
        E.due("after note", s.met(1), 1);
        s.undo(3);
        E.due("after undo", s.met(1), 0);
        s.wish(48, 1);
        s.wish(2, 1);
        E.due("after wish", s.met(1), 4);
        s.clear();
        E.due("after clear", s.met(1), 0);
    }

    private static void noSuchMet() {
        E.sentence(36, "NONE for others");
        SixAcres s = fullOfWishes();
        for (int what : new int[] {LEAST, -1, 2, 3, MOST}) {
            E.due("what " + what, s.met(what), NONE);
        }
    }

    private static void clear() {
        E.sentence(37, "WISHES are gone: how many there were");
        SixAcres s = fullOfWishes();
        E.due("eight", s.clear(), 8);
        E.due("none", s.count(8), 0);
        E.due("none is met", s.met(0), 0);
        E.due("none is met", s.met(1), 0);
        E.due("none were there", s.clear(), 0);
        E.due("the first again", s.wish(3, 1), 1);
        E.due("it alone is met", s.met(1), 1);
        E.due("one", s.clear(), 1);
        E.due("a new object", new SixAcres().clear(), 0);
    }

    private static void dueOrder(String what, SixAcres s, int... cells) {
        for (int k = 0; k < cells.length; k++) {
            E.due(what + ", k " + k, s.goes(k), cells[k]);
        }
        E.due(what + ", no more", s.goes(cells.length), NONE);
        E.due(what + ", how many", s.count(11), cells.length);
    }

    private static void goesFromTheTop() {
        E.sentence(38, "above which is space (or floor 4)");
        dueOrder("a tower", Edges.block(0, 1, 0, 48, 1, 0, 96, 1, 0, 144, 1, 0, 192, 1, 0), 192, 144, 96, 48, 0);
        dueOrder("with a gap", Edges.block(0, 1, 0, 96, 1, 0, 144, 7, 0), 0, 144, 96);
        dueOrder("the least, then on", Edges.block(5, 7, 0, 1, 1, 3, 49, 3, 0, 239, 3, 0, 2, 1, 0), 2, 5, 49, 1, 239);
        dueOrder("space that was told", Edges.block(0, 0, 0, 1, 1, 0), 1);
    }

    private static void goesWithItsPeople() {
        E.sentence(38, "without which (all its PEOPLE gone with it) everybody left who has a way to an EXIT NOW still has one");
        SixAcres s = Edges.openDoors(Edges.block(0, 4, 9, 1, 1, 8, 2, 1, 0), 0, 1, 1, 2);
        dueOrder("2 is nobody's way", s, 1, 0, 2);
        s.note(2, 1, NONE, 1, 0);
        dueOrder("2 is left last but for its way", s, 2, 1, 0);
        SixAcres none = Edges.openDoors(Edges.block(9, 1, 5, 10, 1, 5, 11, 1, 5), 9, 10, 10, 11);
        dueOrder("who has no way loses none", none, 9, 10, 11);
        SixAcres two = Edges.openDoors(Edges.block(0, 4, 0, 1, 1, 3, 2, 4, 0), 0, 1, 1, 2);
        dueOrder("either exit will do, not both", two, 0, 1, 2);
        two.note(0, 4, NONE, 2, 0);
        dueOrder("an exit's own people go with it", two, 0, 1, 2);
    }

    private static void tillNoneCan() {
        E.sentence(38, "till none can");
        // 1 is under the stair 49, by which alone its people get out: over 50 and down to 2, and to the exit 3.
        SixAcres s = Edges.openDoors(Edges.block(1, 5, 2, 49, 5, 0, 50, 5, 0, 2, 5, 0, 3, 4, 0), 49, 50, 2, 3);
        dueOrder("none at all", s);
        s.note(20, 1, NONE, 0, 0);
        dueOrder("one alone", s, 20);
        s.note(1, 5, NONE, 0, 0);
        dueOrder("nobody is under it", s, 3, 20, 49, 1, 50, 2);
        E.due("nothing went", s.state(3, 0, 0, 0), 4);
        dueOrder("an empty block", new SixAcres());
        s.note(1, 5, NONE, 2, 0);
        s.note(20, 0, NONE, 0, 0);
        dueOrder("none again", s);
    }

    private static void goesAnew() {
        E.sentence(38, "as the block is NOW .. then on from there");
        SixAcres s = Edges.block(0, 4, 0, 1, 1, 2);
        dueOrder("without a door", s, 0, 1);
        s.door(0, 1, 1);
        dueOrder("after door", s, 1, 0);
        s.note(1, 1, NONE, 0, 0);
        dueOrder("after note", s, 0, 1);
        s.undo(2);
        dueOrder("after undo", s, 1, 0);
        s.door(0, 1, 2);
        dueOrder("after door", s, 0, 1);
        // Once the exit 0 went, those in 8 need the exit 1.
        SixAcres two = Edges.openDoors(Edges.block(0, 4, 0, 1, 4, 0, 8, 1, 2, 9, 1, 0), 0, 8, 8, 9, 1, 9);
        dueOrder("one exit went", two, 0, 8, 1, 9);
    }

    private static void allGo() {
        E.sentence(38, "The k-th CELL that GOES, of as many as there are");
        SixAcres s = new SixAcres();
        for (int c = 0; c < 240; c++) {
            s.note(c, 7, NONE, 0, 0);
        }
        E.due("all", s.count(11), 240);
        E.due("the first", s.goes(0), 192);
        E.due("then what it stood on", s.goes(1), 144);
        E.due("down to the ground", s.goes(4), 0);
        E.due("the next", s.goes(5), 193);
        E.due("the last but one", s.goes(238), 95);
        E.due("the last", s.goes(239), 47);
        E.due("no more", s.goes(240), NONE);
    }

    private static void noSuchGoes() {
        E.sentence(38, "NONE: none such");
        SixAcres s = Edges.town();
        for (int k : Edges.NO_PLACES) {
            E.due("k " + k, s.goes(k), NONE);
            E.due("an empty block, k " + k, new SixAcres().goes(k), NONE);
        }
        E.due("an empty block", new SixAcres().goes(0), NONE);
    }

    private static void counts() {
        E.sentence(39, "0 TODAY, 1 NOTES, 2 DOORS .. 11 how many GO");
        SixAcres s = Edges.town();
        int[] due = {5, 15, 5, 17, 6, 1, 4, 3, 3, 20, 1, 14};
        for (int what = 0; what <= 11; what++) {
            E.due("count " + what, s.count(what), due[what]);
        }
        E.due("the last that goes is there", s.goes(s.count(11) - 1) >= 0, true);
        E.due("none behind it", s.goes(s.count(11)), NONE);
        SixAcres fresh = new SixAcres();
        for (int what = 0; what <= 11; what++) {
            E.due("new, count " + what, fresh.count(what), 0);
        }
    }

    private static void countsOfNow() {
        E.sentence(39, "3 PEOPLE NOW, 4 those who have a way to an EXIT");
        SixAcres s = new SixAcres();
        for (int c = 0; c < 240; c++) {
            s.note(c, c == 0 ? 4 : 5, NONE, 9, 0);
        }
        E.due("all", s.count(3), 240 * 9);
        E.due("those in the exit", s.count(4), 9);
        s.door(0, 1, 1);
        E.due("and up one stair", s.count(4), 6 * 9);
        s.undo(0);
        E.due("no exit", s.count(4), 0);
        E.due("undone", s.count(3), 239 * 9);
        E.due("notes, undone ones too", s.count(1), 240);
    }

    private static void noSuchCount() {
        E.sentence(39, "NONE for others");
        SixAcres s = Edges.town();
        for (int what : new int[] {LEAST, -2, -1, 12, 13, MOST}) {
            E.due("count " + what, s.count(what), NONE);
        }
    }
}
