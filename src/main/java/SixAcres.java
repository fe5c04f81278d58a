import java.util.Arrays;

/** A block that no law enters. The document's numbered promises say what each call does. */
public final class SixAcres {
    public static final int NONE = -1;

    private static final int NO_SUCH_STATE = -2;
    private static final int NOT_ON_TAPE = -2;
    private static final int CUSTOMS_FULL = -3;

    private static final int CELLS = 240;
    private static final int FLOOR_SIZE = 48;
    private static final int ROW_SIZE = 8;
    private static final int ROWS = 6;
    private static final int LAST_DAY = 9_999;
    private static final int MOST_OWNERS = 40;
    private static final int MOST_CUSTOMS = 8;
    private static final int TAPE_SIZE = 500;

    private static final int SPACE = 0;
    private static final int SHOP = 2;
    private static final int ROOF = 3;
    private static final int PASSAGE = 4;
    private static final int STAIR = 5;
    private static final int TAP = 6;
    private static final int BRICKED_UP = 7;
    private static final int KINDS = 8;

    private static final int NO_DOOR = 0;
    private static final int OPEN = 1;
    private static final int SHUT = 2;

    private final Grid grid;
    private final Notes notes;
    private final Walks walks;
    private final Loads loads;
    private final Reader reader;
    private final Wires wires;
    private final Taps taps;
    private final Fires fires;
    private final Wishes wishes;
    private final Going going;
    private final byte[] tape = new byte[TAPE_SIZE];
    private Custom inForce = new Custom();
    private Custom spare = new Custom();
    private int taped;
    private int customs;
    private int faultPlace = NONE;
    // Dear answers are kept until something has changed since.
    private int changes;

    public SixAcres() {
        grid = new Grid();
        notes = new Notes();
        walks = new Walks(grid);
        loads = new Loads(grid);
        reader = new Reader(tape, spare);
        wires = new Wires();
        taps = new Taps();
        fires = new Fires(grid);
        wishes = new Wishes();
        going = new Going();
    }

    public boolean day(int d) {
        if (d <= notes.today || d > LAST_DAY) {
            return false;
        }
        notes.today = d;
        changes++;
        return true;
    }

    public int note(int cell, int kind, int owner, int people, int from) {
        if (!notes.fits(cell, kind, owner, people, from)) {
            return NONE;
        }
        changes++;
        return notes.tell(cell, kind, owner, people, from);
    }

    public boolean undo(int note) {
        changes++;
        return notes.takeBack(note);
    }

    public int state(int cell, int day, int known, int what) {
        if (!isCell(cell) || !isDay(day) || !isDay(known) || !isIn(what, 0, 3)) {
            return NO_SUCH_STATE;
        }
        return notes.tellOf(notes.find(cell, day, known), what);
    }

    public boolean door(int a, int b, int how) {
        if (!isCell(a) || !isCell(b) || !isIn(how, NO_DOOR, SHUT)) {
            return false;
        }
        changes++;
        return grid.hang(Grid.gapBetween(a, b), how);
    }

    public int way(int from, int to, int day, int known) {
        if (!isCell(from) || !isCell(to) || !isDay(day) || !isDay(known)) {
            return NONE;
        }
        notes.lookBack(day, known);
        return walks.stepsFrom(from, notes.kindThen)[to];
    }

    public int bar(int from, int to) {
        if (!isCell(from) || !isCell(to)) {
            return NONE;
        }
        return walks.firstBar(from, to, notes.kindNow);
    }

    public int out(int cell) {
        return isCell(cell) ? walks.stepsToExits(notes.kindNow)[cell] : NONE;
    }

    public int cutOff(int cell) {
        if (!isCell(cell)) {
            return NONE;
        }
        walks.survey(notes.kindNow, notes.peopleNow);
        return walks.lost[cell];
    }

    public boolean weigh(int kind, int weight, int bears) {
        if (!isIn(kind, 1, BRICKED_UP) || !isIn(weight, 0, 9_999) || !isIn(bears, 0, 9_999)) {
            return false;
        }
        changes++;
        loads.weight[kind] = weight;
        loads.bears[kind] = bears;
        return true;
    }

    public int load(int cell) {
        if (!isCell(cell)) {
            return NONE;
        }
        loads.reckonNow(notes);
        return loads.total[cell];
    }

    public int broken(int k) {
        loads.reckonNow(notes);
        return nthMarked(loads.brokenNow, k);
    }

    public int adds(int cell, int kind, int k) {
        if (!isCell(cell) || !isIn(kind, 1, BRICKED_UP) || k < 0) {
            return NONE;
        }
        loads.startTrial(notes);
        loads.build(cell, kind);
        loads.reckonTrial();
        return loads.newlyBroken(k);
    }

    public int feed(int a, int b, int c, int d, int e) {
        if (taped + 20 > TAPE_SIZE) {
            return NONE;
        }
        putOnTape(a);
        putOnTape(b);
        putOnTape(c);
        putOnTape(d);
        putOnTape(e);
        return taped;
    }

    public int custom(int n) {
        if (n < 0 || n > taped) {
            return NOT_ON_TAPE;
        }
        if (customs >= MOST_CUSTOMS) {
            return CUSTOMS_FULL;
        }
        faultPlace = reader.read(n, spare);
        taped = 0;
        if (faultPlace != NONE) {
            return NONE;
        }
        Custom before = inForce;
        inForce = spare;
        spare = before;
        changes++;
        customs++;
        return customs - 1;
    }

    public int fault() {
        return faultPlace;
    }

    public int rule(int kind, int what) {
        if (!isIn(kind, 1, TAP) || !isIn(what, 0, 1)) {
            return NONE;
        }
        return what == 0 ? inForce.drawOf[kind] : inForce.waterOf[kind];
    }

    public int may(int cell, int kind) {
        if (!isCell(cell) || !isIn(kind, 1, TAP)) {
            return NONE;
        }
        return inForce.allows(notes, cell, kind);
    }

    public int pay(int cell) {
        return isCell(cell) ? inForce.payOf(notes, cell) : NONE;
    }

    public long paid(int owner) {
        if (!isIn(owner, 0, MOST_OWNERS - 1)) {
            return NONE;
        }
        long sum = 0;
        for (int cell = 0; cell < CELLS; cell++) {
            if (notes.ownerNow[cell] == owner) {
                sum += inForce.payOf(notes, cell);
            }
        }
        return sum;
    }

    public int wire(int cell, int from, int fuse) {
        if (!isCell(cell) || !wires.takes(from, fuse)) {
            return NONE;
        }
        changes++;
        return wires.lay(cell, from, fuse);
    }

    public int amps(int wire, int what) {
        if (!isIn(wire, 0, wires.size - 1) || !isIn(what, 0, 3)) {
            return NONE;
        }
        if (what == 0) {
            wires.relight();
            wires.measure(notes.kindNow, inForce);
            return wires.amperes[wire];
        }
        wires.burnThrough(notes.kindNow, inForce);
        if (what == 1) {
            return wires.amperes[wire];
        }
        return what == 2 ? wires.blown[wire] : wires.dark[wire];
    }

    public int gone(int k) {
        wires.burnThrough(notes.kindNow, inForce);
        return isIn(k, 0, wires.blownSize - 1) ? wires.blownOrder[k] : NONE;
    }

    public int twice(int k) {
        return nthMarked(wires.wiredTwice(), k);
    }

    public boolean supply(int cell, int much) {
        if (!isCell(cell) || !isIn(much, 0, 99_999)) {
            return false;
        }
        taps.gives[cell] = much;
        return true;
    }

    public int turn(int tap, int cell) {
        if (!isCell(tap) || !isCell(cell)) {
            return NONE;
        }
        return taps.addTurn(tap, cell);
    }

    public int water(int cell) {
        return isCell(cell) ? taps.givenTo(cell, notes, inForce) : NONE;
    }

    public boolean says(int cell, int much) {
        if (!isCell(cell) || !isIn(much, 0, 99_999)) {
            return false;
        }
        taps.told[cell] = much;
        return true;
    }

    public int kept(int tap, int span, int what) {
        if (!isCell(tap) || !isIn(span, 0, 9_999) || !isIn(what, 0, 1)) {
            return NONE;
        }
        if (notes.kindNow[tap] != TAP) {
            return NONE;
        }
        return taps.keptBack(tap, what == 0 ? span : -span);
    }

    public int foul(int cell) {
        if (!isCell(cell) || cell < FLOOR_SIZE || notes.kindNow[cell] != SHOP) {
            return NONE;
        }
        int place = cell - FLOOR_SIZE;
        while (place >= FLOOR_SIZE && !letsFoulOut(notes.kindNow[place])) {
            place -= FLOOR_SIZE;
        }
        return place;
    }

    public int fire(int from, int cell) {
        if (!burns(from) || !isCell(cell)) {
            return NONE;
        }
        fires.spread(from, notes.kindNow);
        return fires.minute[cell];
    }

    public int saved(int from) {
        return burns(from) ? fires.rescue(from, notes) : NONE;
    }

    public int wall(int from) {
        return burns(from) ? fires.bestWall(from, notes) : NONE;
    }

    public int wish(int cell, int kind) {
        if (!isCell(cell) || !isIn(kind, 1, TAP)) {
            return NONE;
        }
        changes++;
        return wishes.add(cell, kind);
    }

    public int met(int what) {
        if (!isIn(what, 0, 1)) {
            return NONE;
        }
        if (wishes.asOf != changes) {
            wishes.choose(wishes.allowedBits(notes, inForce), notes, loads);
            wishes.asOf = changes;
        }
        return what == 0 ? Integer.bitCount(wishes.chosen) : wishes.chosen;
    }

    public int clear() {
        int before = wishes.size;
        wishes.size = 0;
        changes++;
        return before;
    }

    public int goes(int k) {
        letRoomsGo();
        return isIn(k, 0, going.size - 1) ? going.order[k] : NONE;
    }

    public int count(int what) {
        switch (what) {
            case 0:
                return notes.today;
            case 1:
                return notes.size;
            case 2:
                return grid.doorCount();
            case 3:
                return sum(notes.peopleNow);
            case 4:
                walks.survey(notes.kindNow, notes.peopleNow);
                return walks.peopleOut;
            case 5:
                return customs;
            case 6:
                return wires.size;
            case 7:
                return taps.size;
            case 8:
                return wishes.size;
            case 9:
                return taped;
            case 10:
                loads.reckonNow(notes);
                return sum(loads.brokenNow);
            case 11:
                letRoomsGo();
                return going.size;
            default:
                return NONE;
        }
    }

    private void putOnTape(int number) {
        for (int shift = 24; shift >= 0; shift -= 8) {
            if (taped < TAPE_SIZE) {
                tape[taped] = (byte) (number >> shift);
                taped++;
            }
        }
    }

    private boolean burns(int cell) {
        return isCell(cell) && notes.kindNow[cell] != SPACE;
    }

    private void letRoomsGo() {
        if (going.asOf != changes) {
            going.empty(notes, walks);
            going.asOf = changes;
        }
    }

    private static boolean isIn(int number, int least, int most) {
        return number >= least && number <= most;
    }

    private static boolean isCell(int cell) {
        return cell >= 0 && cell < CELLS;
    }

    private static boolean isDay(int day) {
        return day >= 0 && day <= LAST_DAY;
    }

    private static boolean isWalkable(int kind) {
        return kind != SPACE && kind != BRICKED_UP;
    }

    private static boolean letsFoulOut(int kind) {
        return kind == PASSAGE || kind == ROOF || kind == TAP;
    }

    private static boolean isExit(int cell, int kind) {
        if (kind != PASSAGE || cell >= FLOOR_SIZE) {
            return false;
        }
        int x = cell % ROW_SIZE;
        int y = cell / ROW_SIZE;
        return x == 0 || x == ROW_SIZE - 1 || y == 0 || y == ROWS - 1;
    }

    private static int sum(int[] row) {
        int sum = 0;
        for (int i = 0; i < row.length; i++) {
            sum += row[i];
        }
        return sum;
    }

    private static int nthMarked(int[] marks, int k) {
        int left = k;
        for (int i = 0; i < marks.length && left >= 0; i++) {
            if (marks[i] != 0) {
                if (left == 0) {
                    return i;
                }
                left--;
            }
        }
        return NONE;
    }

    /** What lies round each cell, and the doors in the gaps between cells beside one another. */
    private static final class Grid {
        static final int SIDES = 6;
        // The first four sides are on the cell's own floor, from the least cell on.
        static final int LEVEL_SIDES = 4;
        static final int BELOW = 4;
        static final int ABOVE = 5;
        // A gap is told by its lesser cell: 2 c to the cell with x one more, 2 c + 1 to that with y one more,
        // so that gaps in their order are pairs in the order of lesser, then greater cells.
        static final int GAPS = 2 * CELLS;

        private final int[] round = new int[CELLS * SIDES];
        private final int[] gapRound = new int[CELLS * SIDES];
        private final int[] doors = new int[GAPS];

        Grid() {
            for (int cell = 0; cell < CELLS; cell++) {
                for (int side = 0; side < SIDES; side++) {
                    int other = cellOn(cell, side);
                    round[cell * SIDES + side] = other;
                    gapRound[cell * SIDES + side] = other == NONE ? NONE : gapBetween(cell, other);
                }
            }
        }

        private static int cellOn(int cell, int side) {
            int x = cell % ROW_SIZE;
            int y = cell / ROW_SIZE % ROWS;
            switch (side) {
                case 0:
                    return y > 0 ? cell - ROW_SIZE : NONE;
                case 1:
                    return x > 0 ? cell - 1 : NONE;
                case 2:
                    return x < ROW_SIZE - 1 ? cell + 1 : NONE;
                case 3:
                    return y < ROWS - 1 ? cell + ROW_SIZE : NONE;
                case BELOW:
                    return cell >= FLOOR_SIZE ? cell - FLOOR_SIZE : NONE;
                default:
                    return cell + FLOOR_SIZE < CELLS ? cell + FLOOR_SIZE : NONE;
            }
        }

        static int gapBetween(int a, int b) {
            int lesser = Math.min(a, b);
            int apart = Math.max(a, b) - lesser;
            if (apart == 1 && lesser % ROW_SIZE < ROW_SIZE - 1) {
                return 2 * lesser;
            }
            if (apart == ROW_SIZE && lesser / ROW_SIZE % ROWS < ROWS - 1) {
                return 2 * lesser + 1;
            }
            return NONE;
        }

        static int lesserOf(int gap) {
            return gap / 2;
        }

        static int greaterOf(int gap) {
            return cellOn(gap / 2, gap % 2 == 0 ? 2 : 3);
        }

        static int pairOf(int gap) {
            return CELLS * lesserOf(gap) + greaterOf(gap);
        }

        boolean hang(int gap, int how) {
            if (gap < 0 || gap >= GAPS) {
                return false;
            }
            doors[gap] = how;
            return true;
        }

        int doorCount() {
            int sum = 0;
            for (int gap = 0; gap < GAPS; gap++) {
                sum += doors[gap] == NO_DOOR ? 0 : 1;
            }
            return sum;
        }

        int beside(int cell, int side) {
            return round[cell * SIDES + side];
        }

        int doorOn(int cell, int side) {
            int gap = gapRound[cell * SIDES + side];
            return gap < 0 ? NO_DOOR : doors[gap];
        }

        int stepTo(int[] kind, int cell, int side) {
            int other = beside(cell, side);
            if (other < 0 || !isWalkable(kind[cell]) || !isWalkable(kind[other])) {
                return NONE;
            }
            if (side >= LEVEL_SIDES) {
                return kind[cell] == STAIR && kind[other] == STAIR ? other : NONE;
            }
            boolean roofs = kind[cell] == ROOF && kind[other] == ROOF;
            return roofs || doorOn(cell, side) == OPEN ? other : NONE;
        }
    }

    /** What was told of cells, from which day on, and when it was known. */
    private static final class Notes {
        private static final int MOST = 300;

        private final int[] cellOf = new int[MOST];
        private final int[] kindOf = new int[MOST];
        private final int[] ownerOf = new int[MOST];
        private final int[] peopleOf = new int[MOST];
        private final int[] fromDay = new int[MOST];
        private final int[] toldOn = new int[MOST];
        private final int[] undoneOn = new int[MOST];
        private int size;
        private int today;
        // No note is from a later day than the one it was told on, so a new day changes nothing of these.
        private final int[] kindNow = new int[CELLS];
        private final int[] ownerNow = new int[CELLS];
        private final int[] peopleNow = new int[CELLS];
        private final int[] fromNow = new int[CELLS];
        private final int[] kindThen = new int[CELLS];
        private final int[] fromThen = new int[CELLS];

        Notes() {
            Arrays.fill(ownerNow, NONE);
            Arrays.fill(fromNow, NONE);
        }

        boolean fits(int cell, int kind, int owner, int people, int from) {
            if (size >= MOST || !isCell(cell) || !isIn(kind, 0, KINDS - 1)) {
                return false;
            }
            int mostPeople = isWalkable(kind) ? 9 : 0;
            return isIn(owner, NONE, MOST_OWNERS - 1) && isIn(people, 0, mostPeople) && isIn(from, 0, today);
        }

        int tell(int cell, int kind, int owner, int people, int from) {
            if (size >= MOST) {
                return NONE;
            }
            cellOf[size] = cell;
            kindOf[size] = kind;
            ownerOf[size] = owner;
            peopleOf[size] = people;
            fromDay[size] = from;
            toldOn[size] = today;
            undoneOn[size] = NONE;
            size++;
            refresh(cell);
            return size - 1;
        }

        boolean takeBack(int note) {
            if (!isIn(note, 0, size - 1) || undoneOn[note] != NONE) {
                return false;
            }
            undoneOn[note] = today;
            refresh(cellOf[note]);
            return true;
        }

        private boolean isKnown(int note, int known) {
            return toldOn[note] <= known && (undoneOn[note] == NONE || known < undoneOn[note]);
        }

        int find(int cell, int day, int known) {
            int best = NONE;
            int bestFrom = NONE;
            for (int i = 0; i < size; i++) {
                if (cellOf[i] == cell && fromDay[i] <= day && fromDay[i] >= bestFrom && isKnown(i, known)) {
                    best = i;
                    bestFrom = fromDay[i];
                }
            }
            return best;
        }

        int tellOf(int note, int what) {
            if (!isIn(note, 0, size - 1)) {
                return what == 1 || what == 3 ? NONE : 0;
            }
            switch (what) {
                case 0:
                    return kindOf[note];
                case 1:
                    return ownerOf[note];
                case 2:
                    return peopleOf[note];
                default:
                    return fromDay[note];
            }
        }

        private void refresh(int cell) {
            int note = find(cell, today, today);
            kindNow[cell] = tellOf(note, 0);
            ownerNow[cell] = tellOf(note, 1);
            peopleNow[cell] = tellOf(note, 2);
            fromNow[cell] = tellOf(note, 3);
        }

        void lookBack(int day, int known) {
            Arrays.fill(kindThen, SPACE);
            Arrays.fill(fromThen, NONE);
            for (int i = 0; i < size; i++) {
                int cell = cellOf[i];
                if (fromDay[i] <= day && fromDay[i] >= fromThen[cell] && isKnown(i, known)) {
                    kindThen[cell] = kindOf[i];
                    fromThen[cell] = fromDay[i];
                }
            }
        }
    }

    /** Ways by steps, and who would lose theirs without a cell. */
    private static final class Walks {
        private static final int MOST_MOVES = (Grid.SIDES + 1) * CELLS;

        private final Grid grid;
        private final int[] steps = new int[CELLS];
        private final int[] stepsBack = new int[CELLS];
        private final int[] queue = new int[CELLS];
        // A dive from the exits numbers cells as it comes to them; low is the least number round a cell's branch,
        // the outside itself being number 0.
        private final int[] number = new int[CELLS];
        private final int[] low = new int[CELLS];
        private final int[] parent = new int[CELLS];
        private final int[] tried = new int[CELLS];
        private final int[] branchPeople = new int[CELLS];
        private final int[] lost = new int[CELLS];
        private int numbered;
        private int peopleOut;

        Walks(Grid grid) {
            this.grid = grid;
        }

        int[] stepsFrom(int cell, int[] kind) {
            measureFrom(cell, kind, steps);
            return steps;
        }

        private void measureFrom(int cell, int[] kind, int[] row) {
            Arrays.fill(row, NONE);
            if (isWalkable(kind[cell])) {
                row[cell] = 0;
                queue[0] = cell;
                measure(kind, row, 1);
            }
        }

        int[] stepsToExits(int[] kind) {
            Arrays.fill(steps, NONE);
            int size = 0;
            for (int cell = 0; cell < FLOOR_SIZE; cell++) {
                if (isExit(cell, kind[cell])) {
                    steps[cell] = 0;
                    queue[size] = cell;
                    size++;
                }
            }
            measure(kind, steps, size);
            return steps;
        }

        private void measure(int[] kind, int[] row, int begun) {
            int size = begun;
            for (int i = 0; i < size && i < CELLS; i++) {
                int cell = queue[i];
                for (int side = 0; side < Grid.SIDES; side++) {
                    int other = grid.stepTo(kind, cell, side);
                    if (other >= 0 && row[other] == NONE && size < CELLS) {
                        row[other] = row[cell] + 1;
                        queue[size] = other;
                        size++;
                    }
                }
            }
        }

        int firstBar(int from, int to, int[] kind) {
            measureFrom(from, kind, steps);
            if (steps[to] != NONE) {
                return NONE;
            }
            measureFrom(to, kind, stepsBack);
            for (int gap = 0; gap < Grid.GAPS; gap++) {
                if (grid.doors[gap] == SHUT && joins(Grid.lesserOf(gap), Grid.greaterOf(gap))) {
                    return Grid.pairOf(gap);
                }
            }
            return NONE;
        }

        private boolean joins(int a, int b) {
            if (!isCell(a) || !isCell(b)) {
                return false;
            }
            return steps[a] != NONE && stepsBack[b] != NONE || steps[b] != NONE && stepsBack[a] != NONE;
        }

        /** Finds at once for every cell how many people of others lose their way out without it. */
        void survey(int[] kind, int[] people) {
            Arrays.fill(number, 0);
            Arrays.fill(lost, 0);
            numbered = 0;
            peopleOut = 0;
            for (int cell = 0; cell < FLOOR_SIZE; cell++) {
                if (number[cell] == 0 && isExit(cell, kind[cell])) {
                    dive(cell, kind, people);
                }
            }
        }

        private void dive(int start, int[] kind, int[] people) {
            int cell = start;
            enter(cell, NONE, kind, people);
            for (int move = 0; move < MOST_MOVES && cell >= 0; move++) {
                if (tried[cell] >= Grid.SIDES) {
                    leave(cell);
                    cell = parent[cell];
                    continue;
                }
                int other = grid.stepTo(kind, cell, tried[cell]);
                tried[cell]++;
                if (other < 0) {
                    continue;
                }
                if (number[other] == 0) {
                    enter(other, cell, kind, people);
                    cell = other;
                } else {
                    low[cell] = Math.min(low[cell], number[other]);
                }
            }
        }

        private void enter(int cell, int comingFrom, int[] kind, int[] people) {
            numbered++;
            number[cell] = numbered;
            low[cell] = isExit(cell, kind[cell]) ? 0 : numbered;
            parent[cell] = comingFrom;
            tried[cell] = 0;
            branchPeople[cell] = people[cell];
            peopleOut += people[cell];
        }

        private void leave(int cell) {
            int above = parent[cell];
            if (above < 0) {
                return;
            }
            low[above] = Math.min(low[above], low[cell]);
            branchPeople[above] += branchPeople[cell];
            if (low[cell] >= number[above]) {
                lost[above] += branchPeople[cell];
            }
        }
    }

    /** Loads that go down and sideways, NOW and in a trial with other rooms. */
    private static final class Loads {
        private static final int[] FIRST_WEIGHT = {0, 10, 20, 4, 5, 12, 8, 10};
        private static final int[] FIRST_BEARS = {0, 60, 50, 20, 30, 90, 30, 80};

        private final Grid grid;
        private final int[] weight = FIRST_WEIGHT.clone();
        private final int[] bears = FIRST_BEARS.clone();
        private final int[] total = new int[CELLS];
        private final int[] brokenNow = new int[CELLS];
        private final int[] brokenThen = new int[CELLS];
        private final int[] trialKind = new int[CELLS];
        private final int[] trialPeople = new int[CELLS];

        Loads(Grid grid) {
            this.grid = grid;
        }

        void reckonNow(Notes notes) {
            reckon(notes.kindNow, notes.peopleNow, brokenNow);
        }

        void startTrial(Notes notes) {
            reckonNow(notes);
            resetTrial(notes);
        }

        void resetTrial(Notes notes) {
            System.arraycopy(notes.kindNow, 0, trialKind, 0, CELLS);
            System.arraycopy(notes.peopleNow, 0, trialPeople, 0, CELLS);
        }

        void build(int cell, int kind) {
            trialKind[cell] = kind;
            trialPeople[cell] = 0;
        }

        void reckonTrial() {
            reckon(trialKind, trialPeople, brokenThen);
        }

        int newlyBroken(int k) {
            int left = k;
            for (int cell = 0; cell < CELLS && left >= 0; cell++) {
                if (brokenThen[cell] != 0 && brokenNow[cell] == 0) {
                    if (left == 0) {
                        return cell;
                    }
                    left--;
                }
            }
            return NONE;
        }

        private void reckon(int[] kind, int[] people, int[] broken) {
            Arrays.fill(broken, 0);
            for (int floor = CELLS - FLOOR_SIZE; floor >= 0; floor -= FLOOR_SIZE) {
                takeFromAbove(floor, kind, people);
                for (int cell = floor; cell < floor + FLOOR_SIZE; cell++) {
                    if (kind[cell] != SPACE && !stands(cell, kind) && !leansOut(cell, kind)) {
                        broken[cell] = 1;
                    }
                }
            }
            for (int cell = 0; cell < CELLS; cell++) {
                if (total[cell] > bears[kind[cell]]) {
                    broken[cell] = 1;
                }
            }
        }

        private static boolean stands(int cell, int[] kind) {
            return kind[cell] != SPACE && (cell < FLOOR_SIZE || kind[cell - FLOOR_SIZE] != SPACE);
        }

        // What is above a cell that isn't space stands on it, so all that it has comes down.
        private void takeFromAbove(int floor, int[] kind, int[] people) {
            for (int cell = floor; cell < floor + FLOOR_SIZE; cell++) {
                total[cell] = 0;
                if (kind[cell] != SPACE) {
                    total[cell] = weight[kind[cell]] + people[cell];
                    if (cell + FLOOR_SIZE < CELLS) {
                        total[cell] += total[cell + FLOOR_SIZE];
                    }
                }
            }
        }

        private boolean leansOut(int cell, int[] kind) {
            int bearers = 0;
            for (int side = 0; side < Grid.LEVEL_SIDES; side++) {
                int other = grid.beside(cell, side);
                if (other >= 0 && stands(other, kind)) {
                    bearers++;
                }
            }
            if (bearers == 0) {
                return false;
            }
            int part = total[cell] / bearers;
            int left = total[cell] % bearers;
            for (int side = 0; side < Grid.LEVEL_SIDES; side++) {
                int other = grid.beside(cell, side);
                if (other >= 0 && stands(other, kind)) {
                    total[other] += left > 0 ? part + 1 : part;
                    left--;
                }
            }
            return true;
        }
    }

    /** One text of custom as it was read: statements with their values and conditions as code for a stack. */
    private static final class Custom {
        static final int MOST_STATEMENTS = 24;
        static final int FIRST_WORD = 100_000;
        private static final int HELD = 1_000_000_000;
        private static final int WORDS = 6;
        private static final int FIRST_DRAW = 2;
        private static final int FIRST_WATER = 3;
        private static final int GROUND = 9;

        // Numbers stand for themselves, words from FIRST_WORD on, signs as their negative.
        private final int[] code = new int[TAPE_SIZE];
        private int codeSize;
        private final char[] sort = new char[MOST_STATEMENTS];
        private final int[] kindOf = new int[MOST_STATEMENTS];
        private final int[] valueFrom = new int[MOST_STATEMENTS];
        private final int[] ifFrom = new int[MOST_STATEMENTS];
        private final int[] end = new int[MOST_STATEMENTS];
        private int size;
        private final int[] drawOf = new int[KINDS];
        private final int[] waterOf = new int[KINDS];
        private final int[] facts = new int[WORDS];
        private final int[] stack = new int[TAPE_SIZE];

        Custom() {
            strip();
        }

        private void strip() {
            codeSize = 0;
            size = 0;
            Arrays.fill(drawOf, FIRST_DRAW);
            Arrays.fill(waterOf, FIRST_WATER);
            drawOf[SPACE] = 0;
            drawOf[BRICKED_UP] = 0;
            waterOf[SPACE] = 0;
            waterOf[BRICKED_UP] = 0;
        }

        void put(int piece) {
            if (codeSize < TAPE_SIZE) {
                code[codeSize] = piece;
                codeSize++;
            }
        }

        int allows(Notes notes, int cell, int kind) {
            askPlace(notes.kindNow, cell);
            facts[1] = 0;
            facts[2] = 0;
            facts[5] = NONE;
            return firstThatHolds('m', kind);
        }

        int payOf(Notes notes, int cell) {
            askPlace(notes.kindNow, cell);
            facts[1] = notes.peopleNow[cell];
            facts[2] = notes.today - notes.fromNow[cell];
            facts[5] = notes.ownerNow[cell];
            int statement = firstThatHolds('p', notes.kindNow[cell]);
            if (statement < 0) {
                return 0;
            }
            return Math.max(0, reckon(valueFrom[statement], ifFrom[statement]));
        }

        private void askPlace(int[] kind, int cell) {
            facts[0] = cell / FLOOR_SIZE;
            facts[3] = cell < FLOOR_SIZE ? GROUND : kind[cell - FLOOR_SIZE];
            facts[4] = 1;
            for (int above = cell + FLOOR_SIZE; above < CELLS; above += FLOOR_SIZE) {
                if (kind[above] != SPACE) {
                    facts[4] = 0;
                }
            }
        }

        private int firstThatHolds(char wanted, int kind) {
            for (int i = 0; i < size; i++) {
                if (sort[i] == wanted && kindOf[i] == kind) {
                    if (ifFrom[i] == end[i] || reckon(ifFrom[i], end[i]) != 0) {
                        return i;
                    }
                }
            }
            return NONE;
        }

        private int reckon(int from, int to) {
            int height = 0;
            for (int i = from; i < to && i < TAPE_SIZE; i++) {
                int piece = code[i];
                if (piece >= 0 && height < TAPE_SIZE) {
                    stack[height] = valueOf(piece);
                    height++;
                } else if (piece == -'!' && height > 0) {
                    stack[height - 1] = 1 - stack[height - 1];
                } else if (height > 1) {
                    height--;
                    stack[height - 1] = join(stack[height - 1], -piece, stack[height]);
                }
            }
            return height > 0 ? stack[0] : 0;
        }

        private int valueOf(int piece) {
            int word = piece - FIRST_WORD;
            return isIn(word, 0, WORDS - 1) ? facts[word] : piece;
        }

        private static int join(int a, int sign, int b) {
            switch (sign) {
                case '+':
                    return held((long) a + b);
                case '-':
                    return held((long) a - b);
                case '*':
                    return held((long) a * b);
                case '/':
                    return b == 0 ? 0 : held((long) a / b);
                case '<':
                    return a < b ? 1 : 0;
                case '>':
                    return a > b ? 1 : 0;
                case '=':
                    return a == b ? 1 : 0;
                case '&':
                    return a & b;
                default:
                    return a | b;
            }
        }

        private static int held(long result) {
            return (int) Math.max(-HELD, Math.min(HELD, result));
        }
    }

    /**
     * Reads a text of custom by its grammar with a stack of what is still to come: small letters and signs are tokens,
     * capitals are parts of the grammar, and a ^ puts the sign behind it into the code.
     */
    private static final class Reader {
        private static final String WORDS =
                "may pay draw water if or and not home shop roof passage stair tap floor people since below sky owner ";
        private static final String KEYWORD_TOKENS = "mpdwioan";
        private static final String SIGNS = ";+-*/(){}<>=";
        private static final int FIRST_KIND = 8;
        private static final int FIRST_WORD = 14;
        private static final char KIND = 'k';
        private static final char WORD = 'v';
        private static final char NUMBER = '0';
        private static final char END = '$';
        private static final char BAD = '?';
        // No token is this one, so what waits for it is a fault.
        private static final String NOTHING_FITS = "#";
        private static final int MOST_OPEN = 9;
        private static final int MOST_DIGITS = 5;
        private static final int STACK_SIZE = 400;
        private static final int MOST_MOVES = 100_000;

        private final char[] toCome = new char[STACK_SIZE];
        private int height;
        private final byte[] text;
        private int length;
        private char token;
        private int tokenAt;
        private int tokenEnd;
        private int tokenValue;
        private int open;
        private Custom made;

        Reader(byte[] tape, Custom first) {
            text = tape;
            made = first;
        }

        /** The place of the fault, or NONE. */
        int read(int n, Custom into) {
            length = Math.min(n, text.length);
            made = into;
            made.strip();
            open = 0;
            height = 0;
            tokenEnd = 0;
            expect("T");
            next();
            for (int move = 0; move < MOST_MOVES && height > 0; move++) {
                char first = pop();
                if (first == '^') {
                    putSign(pop());
                } else if (first >= 'A' && first <= 'Z') {
                    expect(partsOf(first));
                } else if (first != token || opensTooMuch()) {
                    return tokenAt;
                } else {
                    take();
                    next();
                }
            }
            return NONE;
        }

        private void expect(String parts) {
            for (int i = parts.length() - 1; i >= 0; i--) {
                if (height < STACK_SIZE) {
                    toCome[height] = parts.charAt(i);
                    height++;
                }
            }
        }

        private char pop() {
            if (height <= 0) {
                return BAD;
            }
            height--;
            return toCome[height];
        }

        private String partsOf(char part) {
            switch (part) {
                case 'T':
                    return statement();
                case 'C':
                    return token == 'i' ? "iA" : "";
                case 'E':
                    return "PF";
                case 'F':
                    return token == '+' ? "+P^+F" : token == '-' ? "-P^-F" : "";
                case 'P':
                    return "MQ";
                case 'Q':
                    return token == '*' ? "*M^*Q" : token == '/' ? "/M^/Q" : "";
                case 'M':
                    return atom();
                case 'A':
                    return "LB";
                case 'B':
                    return token == 'o' ? "oL^|B" : "";
                case 'L':
                    return "OG";
                case 'G':
                    return token == 'a' ? "aO^&G" : "";
                case 'O':
                    return token == 'n' ? "nO^!" : token == '{' ? "{A}" : "ER";
                default:
                    return comparison();
            }
        }

        private String statement() {
            if (token == END) {
                return "";
            }
            if (made.size >= Custom.MOST_STATEMENTS) {
                return NOTHING_FITS;
            }
            switch (token) {
                case 'm':
                    return "mkC;T";
                case 'p':
                    return "pkEC;T";
                case 'd':
                    return "dk0;T";
                case 'w':
                    return "wk0;T";
                default:
                    return NOTHING_FITS;
            }
        }

        private String atom() {
            switch (token) {
                case NUMBER:
                    return "0";
                case WORD:
                    return "v";
                case '(':
                    return "(E)";
                default:
                    return NOTHING_FITS;
            }
        }

        private String comparison() {
            switch (token) {
                case '<':
                    return "<E^<";
                case '>':
                    return ">E^>";
                case '=':
                    return "=E^=";
                default:
                    return NOTHING_FITS;
            }
        }

        private boolean opensTooMuch() {
            return open >= MOST_OPEN && (token == '(' || token == '{' || token == 'n');
        }

        private void putSign(char sign) {
            if (sign == '!') {
                open--;
            }
            made.put(-sign);
        }

        private void take() {
            switch (token) {
                case 'm', 'p', 'd', 'w':
                    begin();
                    break;
                case KIND:
                    made.kindOf[made.size] = tokenValue;
                    break;
                case 'i':
                    made.ifFrom[made.size] = made.codeSize;
                    break;
                case NUMBER, WORD:
                    made.put(tokenValue);
                    break;
                case '(', '{', 'n':
                    open++;
                    break;
                case ')', '}':
                    open--;
                    break;
                case ';':
                    finish();
                    break;
                default:
                    break;
            }
        }

        private void begin() {
            made.sort[made.size] = token;
            made.valueFrom[made.size] = made.codeSize;
            made.ifFrom[made.size] = NONE;
        }

        private void finish() {
            int statement = made.size;
            made.end[statement] = made.codeSize;
            if (made.ifFrom[statement] == NONE) {
                made.ifFrom[statement] = made.codeSize;
            }
            int kind = made.kindOf[statement];
            int number = made.codeSize > 0 ? made.code[made.codeSize - 1] : 0;
            if (made.sort[statement] == 'd') {
                made.drawOf[kind] = number;
            } else if (made.sort[statement] == 'w') {
                made.waterOf[kind] = number;
            }
            made.size++;
        }

        private void next() {
            tokenAt = tokenEnd;
            while (tokenAt < length && (text[tokenAt] == 32 || text[tokenAt] == 10)) {
                tokenAt++;
            }
            tokenEnd = tokenAt;
            if (tokenAt >= length) {
                token = END;
            } else if (isLetter(text[tokenAt])) {
                readWord();
            } else if (isDigit(text[tokenAt])) {
                readNumber();
            } else {
                tokenEnd++;
                token = signOf(text[tokenAt]);
            }
        }

        private static boolean isLetter(byte sign) {
            return sign >= 'a' && sign <= 'z';
        }

        private static boolean isDigit(byte sign) {
            return sign >= '0' && sign <= '9';
        }

        private static char signOf(byte sign) {
            return sign > 0 && SIGNS.indexOf((char) sign) >= 0 ? (char) sign : BAD;
        }

        private void readNumber() {
            token = NUMBER;
            tokenValue = 0;
            while (tokenEnd < length && isDigit(text[tokenEnd])) {
                if (tokenEnd - tokenAt >= MOST_DIGITS) {
                    token = BAD;
                } else {
                    tokenValue = 10 * tokenValue + text[tokenEnd] - '0';
                }
                tokenEnd++;
            }
        }

        private void readWord() {
            while (tokenEnd < length && isLetter(text[tokenEnd])) {
                tokenEnd++;
            }
            int word = wordNumber();
            if (word < 0) {
                token = BAD;
            } else if (word < FIRST_KIND) {
                token = KEYWORD_TOKENS.charAt(word);
            } else if (word < FIRST_WORD) {
                token = KIND;
                tokenValue = word - FIRST_KIND + 1;
            } else {
                token = WORD;
                tokenValue = Custom.FIRST_WORD + word - FIRST_WORD;
            }
        }

        private int wordNumber() {
            int word = 0;
            int from = 0;
            for (int i = 0; i < WORDS.length(); i++) {
                if (WORDS.charAt(i) == ' ') {
                    if (isWordAt(from, i)) {
                        return word;
                    }
                    word++;
                    from = i + 1;
                }
            }
            return NONE;
        }

        private boolean isWordAt(int from, int to) {
            if (to - from != tokenEnd - tokenAt) {
                return false;
            }
            for (int i = from; i < to; i++) {
                if (WORDS.charAt(i) != text[tokenAt + i - from]) {
                    return false;
                }
            }
            return true;
        }
    }

    /** Wires off cables, and the fuses that go one by one. */
    private static final class Wires {
        private static final int MOST = 60;

        private final int[] cellOf = new int[MOST];
        private final int[] fromWire = new int[MOST];
        private final int[] fuseOf = new int[MOST];
        private final int[] depth = new int[MOST];
        private int size;
        private final int[] dark = new int[MOST];
        private final int[] blown = new int[MOST];
        private final int[] amperes = new int[MOST];
        private final int[] blownOrder = new int[MOST];
        private int blownSize;
        private final int[] served = new int[CELLS];
        private final int[] twoOrMore = new int[CELLS];

        boolean takes(int from, int fuse) {
            return size < MOST && isIn(from, NONE, size - 1) && isIn(fuse, 0, 999);
        }

        int lay(int cell, int from, int fuse) {
            if (!takes(from, fuse)) {
                return NONE;
            }
            cellOf[size] = cell;
            fromWire[size] = from;
            fuseOf[size] = fuse;
            depth[size] = from < 0 ? 0 : depth[from] + 1;
            size++;
            return size - 1;
        }

        void relight() {
            Arrays.fill(dark, 0);
            Arrays.fill(blown, 0);
            blownSize = 0;
        }

        void burnThrough(int[] kind, Custom custom) {
            relight();
            measure(kind, custom);
            int next = overloaded();
            for (int i = 0; i < MOST && next >= 0; i++) {
                blow(next);
                measure(kind, custom);
                next = overloaded();
            }
        }

        /** Amps with those wires dark that are dark by now. */
        void measure(int[] kind, Custom custom) {
            for (int i = 0; i < size; i++) {
                served[cellOf[i]] = 0;
                amperes[i] = 0;
            }
            for (int i = 0; i < size; i++) {
                int cell = cellOf[i];
                if (dark[i] == 0 && served[cell] == 0) {
                    served[cell] = 1;
                    amperes[i] = custom.drawOf[kind[cell]];
                }
            }
            // A wire's number is above that of the wire it comes from.
            for (int i = size - 1; i >= 0; i--) {
                if (dark[i] == 0 && fromWire[i] >= 0) {
                    amperes[fromWire[i]] += amperes[i];
                }
            }
        }

        private int overloaded() {
            int worst = NONE;
            int worstDepth = NONE;
            for (int i = 0; i < size; i++) {
                if (dark[i] == 0 && amperes[i] > fuseOf[i] && depth[i] > worstDepth) {
                    worst = i;
                    worstDepth = depth[i];
                }
            }
            return worst;
        }

        private void blow(int wire) {
            if (blownSize < MOST) {
                blownOrder[blownSize] = wire;
                blownSize++;
            }
            blown[wire] = 1;
            dark[wire] = 1;
            for (int i = wire + 1; i < size; i++) {
                if (fromWire[i] >= 0 && dark[fromWire[i]] != 0) {
                    dark[i] = 1;
                }
            }
        }

        int[] wiredTwice() {
            Arrays.fill(served, 0);
            Arrays.fill(twoOrMore, 0);
            for (int i = 0; i < size; i++) {
                int cell = cellOf[i];
                twoOrMore[cell] = served[cell];
                served[cell] = 1;
            }
            return twoOrMore;
        }
    }

    /** Taps by turns, and what their lord keeps back. */
    private static final class Taps {
        private static final int MOST_TURNS = 40;

        private final int[] gives = new int[CELLS];
        private final int[] told = new int[CELLS];
        private final int[] left = new int[CELLS];
        private final int[] asked = new int[CELLS];
        private final int[] tapOf = new int[MOST_TURNS];
        private final int[] cellOf = new int[MOST_TURNS];
        private int size;

        int addTurn(int tap, int cell) {
            if (size >= MOST_TURNS) {
                return NONE;
            }
            tapOf[size] = tap;
            cellOf[size] = cell;
            size++;
            return size;
        }

        int givenTo(int cell, Notes notes, Custom custom) {
            for (int i = 0; i < size; i++) {
                left[tapOf[i]] = notes.kindNow[tapOf[i]] == TAP ? gives[tapOf[i]] : 0;
            }
            int given = 0;
            for (int i = 0; i < size; i++) {
                int taker = cellOf[i];
                int need = custom.waterOf[notes.kindNow[taker]] * notes.peopleNow[taker];
                int part = Math.min(need, left[tapOf[i]]);
                left[tapOf[i]] -= part;
                given += taker == cell ? part : 0;
            }
            return given;
        }

        int keptBack(int tap, int more) {
            Arrays.fill(asked, 0);
            int kept = gives[tap];
            for (int i = 0; i < size; i++) {
                int cell = cellOf[i];
                if (tapOf[i] == tap && asked[cell] == 0) {
                    asked[cell] = 1;
                    kept -= Math.max(0, told[cell] + more);
                }
            }
            return Math.max(0, kept);
        }
    }

    /** Fires by minutes, who gets out ahead of them, and the wall that saves most. */
    private static final class Fires {
        private static final int BY_OPEN_DOOR = 2;
        private static final int BY_SHUT_DOOR = 5;
        private static final int BY_WALL = 9;
        private static final int UPWARDS = 3;
        private static final int DOWNWARDS = 6;
        // One more than the longest time from cell to cell, so that no two minutes ahead share a slot.
        private static final int SLOTS = 10;
        private static final int MOST_MINUTES = BY_WALL * CELLS;
        private static final int FAR = 1_000_000;
        private static final int MOST_MOVES = CELLS * CELLS;

        private final Grid grid;
        private final int[] minute = new int[CELLS];
        private final int[][] slots = new int[SLOTS][CELLS];
        private final int[] slotSize = new int[SLOTS];
        private int alight;
        // The latest minute at which somebody in a cell still gets out, and the earliest at which one of those
        // who don't get out can be in a cell.
        private final int[] latest = new int[CELLS];
        private final int[] earliest = new int[CELLS];
        private final int[] queue = new int[CELLS];
        private final int[] isQueued = new int[CELLS];
        private int queueHead;
        private int queueSize;
        private final int[] hopeful = new int[Grid.GAPS];

        Fires(Grid grid) {
            this.grid = grid;
        }

        void spread(int from, int[] kind) {
            Arrays.fill(minute, NONE);
            Arrays.fill(slotSize, 0);
            alight = 0;
            kindle(from, 0);
            for (int now = 0; now <= MOST_MINUTES && alight > 0; now++) {
                int slot = now % SLOTS;
                int size = slotSize[slot];
                for (int i = 0; i < size; i++) {
                    int cell = slots[slot][i];
                    if (minute[cell] == now) {
                        spreadRound(cell, now, kind);
                    }
                }
                alight -= size;
                slotSize[slot] = 0;
            }
        }

        private void kindle(int cell, int when) {
            int slot = when % SLOTS;
            if (slotSize[slot] < CELLS) {
                minute[cell] = when;
                slots[slot][slotSize[slot]] = cell;
                slotSize[slot]++;
                alight++;
            }
        }

        private void spreadRound(int cell, int now, int[] kind) {
            for (int side = 0; side < Grid.SIDES; side++) {
                int other = grid.beside(cell, side);
                if (other >= 0 && kind[other] != SPACE) {
                    int when = now + minutesBy(cell, side);
                    if (minute[other] == NONE || minute[other] > when) {
                        kindle(other, when);
                    }
                }
            }
        }

        private int minutesBy(int cell, int side) {
            if (side == Grid.ABOVE) {
                return UPWARDS;
            }
            if (side == Grid.BELOW) {
                return DOWNWARDS;
            }
            int how = grid.doorOn(cell, side);
            return how == OPEN ? BY_OPEN_DOOR : how == SHUT ? BY_SHUT_DOOR : BY_WALL;
        }

        int rescue(int from, Notes notes) {
            spread(from, notes.kindNow);
            findLatest(notes.kindNow);
            int sum = 0;
            for (int cell = 0; cell < CELLS; cell++) {
                sum += latest[cell] >= 0 ? notes.peopleNow[cell] : 0;
            }
            return sum;
        }

        private int lastSafe(int cell) {
            return minute[cell] == NONE ? FAR : minute[cell] - 1;
        }

        private void findLatest(int[] kind) {
            Arrays.fill(latest, NONE);
            Arrays.fill(isQueued, 0);
            queueHead = 0;
            queueSize = 0;
            for (int cell = 0; cell < FLOOR_SIZE; cell++) {
                if (isExit(cell, kind[cell])) {
                    allow(cell, lastSafe(cell));
                }
            }
            for (int move = 0; move < MOST_MOVES && queueSize > 0; move++) {
                int cell = unqueue();
                for (int side = 0; side < Grid.SIDES; side++) {
                    int other = grid.stepTo(kind, cell, side);
                    if (other >= 0) {
                        allow(other, Math.min(latest[cell] - 1, lastSafe(other)));
                    }
                }
            }
        }

        private void allow(int cell, int until) {
            if (until <= latest[cell]) {
                return;
            }
            latest[cell] = until;
            if (isQueued[cell] == 0 && queueSize < CELLS) {
                isQueued[cell] = 1;
                queue[(queueHead + queueSize) % CELLS] = cell;
                queueSize++;
            }
        }

        private int unqueue() {
            int cell = queue[queueHead];
            queueHead = (queueHead + 1) % CELLS;
            queueSize--;
            isQueued[cell] = 0;
            return cell;
        }

        int bestWall(int from, Notes notes) {
            int most = rescue(from, notes);
            int best = NONE;
            int hopes = findHopeful(notes);
            for (int i = 0; i < hopes; i++) {
                int gap = hopeful[i];
                grid.doors[gap] = OPEN;
                int saves = rescue(from, notes);
                grid.doors[gap] = NO_DOOR;
                if (saves > most) {
                    most = saves;
                    best = Grid.pairOf(gap);
                }
            }
            return best;
        }

        // A new door only makes the fire faster, so it saves nobody unless one who is lost could go through it
        // in time by the fire as it is without it: most walls need no trial.
        private int findHopeful(Notes notes) {
            findEarliest(notes);
            int hopes = 0;
            for (int gap = 0; gap < Grid.GAPS; gap++) {
                if (grid.doors[gap] == NO_DOOR && isHopeful(gap, notes.kindNow)) {
                    hopeful[hopes] = gap;
                    hopes++;
                }
            }
            return hopes;
        }

        private boolean isHopeful(int gap, int[] kind) {
            int a = Grid.lesserOf(gap);
            int b = Grid.greaterOf(gap);
            if (b < 0 || !isWalkable(kind[a]) || !isWalkable(kind[b])) {
                return false;
            }
            return leadsOut(a, b) || leadsOut(b, a);
        }

        private boolean leadsOut(int a, int b) {
            return earliest[a] != NONE && earliest[a] + 1 <= latest[b];
        }

        private void findEarliest(Notes notes) {
            Arrays.fill(earliest, NONE);
            int size = 0;
            for (int cell = 0; cell < CELLS; cell++) {
                if (notes.peopleNow[cell] > 0 && latest[cell] == NONE && minute[cell] != 0) {
                    earliest[cell] = 0;
                    queue[size] = cell;
                    size++;
                }
            }
            for (int i = 0; i < size && i < CELLS; i++) {
                int cell = queue[i];
                for (int side = 0; side < Grid.SIDES; side++) {
                    int other = grid.stepTo(notes.kindNow, cell, side);
                    if (other >= 0 && earliest[other] == NONE && earliest[cell] < lastSafe(other) && size < CELLS) {
                        earliest[other] = earliest[cell] + 1;
                        queue[size] = other;
                        size++;
                    }
                }
            }
        }
    }

    /** Wishes to build, and the most of them that can be met together. */
    private static final class Wishes {
        private static final int MOST = 8;

        private final int[] cellOf = new int[MOST];
        private final int[] kindOf = new int[MOST];
        private int size;
        private int chosen;
        private int asOf = NONE;

        int add(int cell, int kind) {
            if (size >= MOST) {
                return NONE;
            }
            cellOf[size] = cell;
            kindOf[size] = kind;
            size++;
            return size;
        }

        void choose(int allowed, Notes notes, Loads loads) {
            chosen = 0;
            loads.startTrial(notes);
            for (int bits = 1; bits < 1 << size; bits++) {
                if (Integer.bitCount(bits) > Integer.bitCount(chosen) && (bits & ~allowed) == 0) {
                    if (isOneEach(bits) && holds(bits, notes, loads)) {
                        chosen = bits;
                    }
                }
            }
        }

        int allowedBits(Notes notes, Custom custom) {
            int bits = 0;
            for (int i = 0; i < size; i++) {
                if (notes.kindNow[cellOf[i]] == SPACE && custom.allows(notes, cellOf[i], kindOf[i]) != NONE) {
                    bits |= 1 << i;
                }
            }
            return bits;
        }

        private boolean isOneEach(int bits) {
            for (int i = 0; i < size; i++) {
                for (int j = 0; j < i; j++) {
                    if ((bits >> i & 1) != 0 && (bits >> j & 1) != 0 && cellOf[i] == cellOf[j]) {
                        return false;
                    }
                }
            }
            return true;
        }

        private boolean holds(int bits, Notes notes, Loads loads) {
            loads.resetTrial(notes);
            for (int i = 0; i < size; i++) {
                if ((bits >> i & 1) != 0) {
                    loads.build(cellOf[i], kindOf[i]);
                }
            }
            loads.reckonTrial();
            return loads.newlyBroken(0) == NONE;
        }
    }

    /** Rooms that go one by one, so that nobody who is left loses the way out. */
    private static final class Going {
        private final int[] order = new int[CELLS];
        private int size;
        private int asOf = NONE;
        private final int[] kind = new int[CELLS];
        private final int[] people = new int[CELLS];

        void empty(Notes notes, Walks walks) {
            System.arraycopy(notes.kindNow, 0, kind, 0, CELLS);
            System.arraycopy(notes.peopleNow, 0, people, 0, CELLS);
            size = 0;
            walks.survey(kind, people);
            int cell = leastFree(walks);
            for (int i = 0; i < CELLS && cell >= 0; i++) {
                order[i] = cell;
                size = i + 1;
                kind[cell] = SPACE;
                people[cell] = 0;
                // A cell without a way out was on nobody's way.
                if (walks.number[cell] != 0) {
                    walks.survey(kind, people);
                }
                cell = leastFree(walks);
            }
        }

        private int leastFree(Walks walks) {
            for (int cell = 0; cell < CELLS; cell++) {
                if (kind[cell] != SPACE && isUncovered(cell) && walks.lost[cell] == 0) {
                    return cell;
                }
            }
            return NONE;
        }

        private boolean isUncovered(int cell) {
            int above = cell + FLOOR_SIZE;
            return above >= CELLS || kind[above] == SPACE;
        }
    }
}
