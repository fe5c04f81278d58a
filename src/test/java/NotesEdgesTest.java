/** The boundary cases of notes and days: promises 1 to 5, and what Terms says of cells, days and notes. */
public final class NotesEdgesTest {
    private static final int NONE = Edges.NONE;
    private static final int LEAST = Edges.LEAST;
    private static final int MOST = Edges.MOST;
    private static final Edges E = new Edges("edges of notes");

    public static void main(String[] args) {
        allIsSpace();
        noCustom();
        objectsAreApart();
        todayIsZeroAtFirst();
        laterDay();
        notLaterDay();
        dayTooHigh();
        noteNumbers();
        noteCells();
        noteKinds();
        noteOwners();
        notePeople();
        noPeopleInSpaceAndBricks();
        noteDays();
        threeHundredNotes();
        undone();
        noSuchNote();
        undoneAlready();
        knownFromTheDayTold();
        notKnownFromTheDayUndone();
        toldAndUndoneOnOneDay();
        latestDayUpToIt();
        toldLastOfOneDay();
        neverTold();
        spaceThatWasTold();
        noSuchState();
        E.end();
    }

    private static void allIsSpace() {
        E.sentence(1, "All is space");
        SixAcres s = new SixAcres();
        for (int c = 0; c < 240; c++) {
            E.due("state of " + c, s.state(c, 0, 0, 0), 0);
            E.due("way of " + c, s.way(c, c, 0, 0), NONE);
        }
        SixAcres t = new SixAcres();
        for (int what = 0; what <= 11; what++) {
            E.due("count " + what, t.count(what), 0);
        }
        E.due("broken", t.broken(0), NONE);
        E.due("gone", t.gone(0), NONE);
        E.due("twice", t.twice(0), NONE);
        E.due("goes", t.goes(0), NONE);
        E.due("met", t.met(1), 0);
        E.due("saved", t.saved(0), NONE);
        E.due("clear", t.clear(), 0);
        E.due("undo", t.undo(0), false);
    }

    private static void noCustom() {
        E.sentence(1, "no CUSTOM");
        SixAcres s = new SixAcres();
        E.due("customs", s.count(5), 0);
        E.due("fault", s.fault(), NONE);
        for (int kind = 1; kind <= 6; kind++) {
            E.due("may " + kind, s.may(0, kind), NONE);
            E.due("draw " + kind, s.rule(kind, 0), 2);
            E.due("water " + kind, s.rule(kind, 1), 3);
        }
        E.due("the first custom", s.custom(0), 0);
    }

    private static void objectsAreApart() {
        E.sentence(1, "A new object");
        SixAcres before = new SixAcres();
        Edges.town();
        SixAcres after = new SixAcres();
        for (int what = 0; what <= 11; what++) {
            E.due("count of one made before", before.count(what), 0);
            E.due("count of one made after", after.count(what), 0);
        }
        E.due("weights of others", Edges.block(0, 3, 0).load(0), 4);
        E.due("customs of others", after.rule(1, 0), 2);
        E.due("supplies of others", Edges.block(3, 6, 0).kept(3, 0, 0), 0);
    }

    private static void todayIsZeroAtFirst() {
        E.sentence(2, "TODAY is 0 at first");
        SixAcres s = new SixAcres();
        E.due("today", s.count(0), 0);
        E.due("from day 0", s.note(0, 1, NONE, 0, 0), 0);
        E.due("from day 1", s.note(0, 1, NONE, 0, 1), NONE);
    }

    private static void laterDay() {
        E.sentence(2, "TODAY becomes a later DAY: true");
        SixAcres s = new SixAcres();
        E.due("day 1", s.day(1), true);
        E.due("today", s.count(0), 1);
        E.due("day 2", s.day(2), true);
        E.due("day 9998", s.day(9998), true);
        E.due("day 9999", s.day(9999), true);
        E.due("today", s.count(0), 9999);
        E.due("the last day of all", new SixAcres().day(9999), true);
    }

    private static void notLaterDay() {
        E.sentence(2, "false: it isn't");
        E.due("day 0 on day 0", new SixAcres().day(0), false);
        for (int d : new int[] {LEAST, -1, 0, 4, 5}) {
            E.refused("day " + d + " on day 5", Edges::town, s -> Edges.bit(s.day(d)), 0);
        }
        SixAcres s = new SixAcres();
        s.day(9999);
        E.due("9999 again", s.day(9999), false);
        E.due("today", s.count(0), 9999);
    }

    private static void dayTooHigh() {
        E.sentence(2, "above 9,999");
        for (int d : new int[] {10000, 10001, MOST}) {
            E.refused("day " + d, Edges::town, s -> Edges.bit(s.day(d)), 0);
        }
        SixAcres s = new SixAcres();
        s.day(9999);
        E.due("10000 on the last day", s.day(10000), false);
    }

    private static void noteNumbers() {
        E.sentence(3, "A NOTE: its number");
        SixAcres s = new SixAcres();
        E.due("first", s.note(0, 1, NONE, 0, 0), 0);
        E.due("refused", s.note(0, 8, NONE, 0, 0), NONE);
        E.due("second, of the same cell", s.note(0, 1, NONE, 0, 0), 1);
        s.undo(1);
        E.due("numbers aren't given twice", s.note(0, 1, NONE, 0, 0), 2);
    }

    private static void refusedNote(int cell, int kind, int owner, int people, int from) {
        E.refused("note " + cell + " " + kind + " " + owner + " " + people + " " + from, Edges::town,
                s -> s.note(cell, kind, owner, people, from), NONE);
    }

    private static void noteCells() {
        E.sentence(3, "CELLS 0 to 239 .. NONE, doing nothing: not as told");
        SixAcres s = new SixAcres();
        E.due("cell 0", s.note(0, 1, NONE, 0, 0), 0);
        E.due("cell 239", s.note(239, 1, NONE, 0, 0), 1);
        for (int c : Edges.NO_CELLS) {
            refusedNote(c, 1, 5, 3, 0);
        }
    }

    private static void noteKinds() {
        E.sentence(3, "KINDS: 0 space .. 7 bricked up");
        SixAcres s = new SixAcres();
        for (int kind = 0; kind <= 7; kind++) {
            E.due("kind " + kind, s.note(10, kind, NONE, 0, 0), kind);
            E.due("is kind " + kind, s.state(10, 0, 0, 0), kind);
        }
        for (int kind : new int[] {LEAST, -1, 8, 9, MOST}) {
            refusedNote(1, kind, 5, 0, 0);
        }
    }

    private static void noteOwners() {
        E.sentence(3, "of an OWNER (0 to 39; NONE)");
        SixAcres s = new SixAcres();
        for (int owner : new int[] {0, 39, NONE}) {
            s.note(10, 1, owner, 0, 0);
            E.due("owner " + owner, s.state(10, 0, 0, 1), owner);
        }
        E.due("all three", s.count(1), 3);
        for (int owner : new int[] {LEAST, -3, -2, 40, 41, MOST}) {
            refusedNote(1, 1, owner, 0, 0);
        }
    }

    private static void notePeople() {
        E.sentence(3, "with PEOPLE (0 to 9");
        for (int kind = 1; kind <= 6; kind++) {
            SixAcres s = new SixAcres();
            E.due("none in " + kind, s.note(10, kind, NONE, 0, 0), 0);
            E.due("9 in " + kind, s.note(10, kind, NONE, 9, 0), 1);
            E.due("9 in " + kind, s.state(10, 0, 0, 2), 9);
            E.due("10 in " + kind, s.note(10, kind, NONE, 10, 0), NONE);
            E.due("-1 in " + kind, s.note(10, kind, NONE, -1, 0), NONE);
        }
        for (int people : new int[] {LEAST, -1, 10, 11, MOST}) {
            refusedNote(1, 1, 5, people, 0);
        }
    }

    private static void noPeopleInSpaceAndBricks() {
        E.sentence(3, "0 in KINDS 0 and 7");
        SixAcres s = new SixAcres();
        E.due("nobody in space", s.note(10, 0, 4, 0, 0), 0);
        E.due("nobody in bricks", s.note(10, 7, 4, 0, 0), 1);
        for (int people : new int[] {-1, 1, 9, 10}) {
            refusedNote(1, 0, 5, people, 0);
            refusedNote(1, 7, 5, people, 0);
        }
    }

    private static void noteDays() {
        E.sentence(3, "from a DAY on (up to TODAY)");
        SixAcres s = new SixAcres();
        s.day(5);
        E.due("day 0", s.note(10, 1, NONE, 0, 0), 0);
        E.due("today", s.note(10, 2, NONE, 0, 5), 1);
        E.due("today it is", s.state(10, 5, 5, 0), 2);
        for (int from : new int[] {LEAST, -1, 6, 7, 9999, MOST}) {
            refusedNote(1, 1, 5, 3, from);
        }
        s.day(9999);
        E.due("the last day", s.note(10, 3, NONE, 0, 9999), 2);
        E.due("behind the last day", s.note(10, 3, NONE, 0, 10000), NONE);
    }

    private static SixAcres fullOfNotes() {
        SixAcres s = new SixAcres();
        for (int i = 0; i < 300; i++) {
            s.note(i % 240, 1, NONE, 1, 0);
        }
        return s;
    }

    private static void threeHundredNotes() {
        E.sentence(3, "300 are there");
        SixAcres s = new SixAcres();
        for (int i = 0; i < 300; i++) {
            E.due("note " + i, s.note(i % 240, 1, NONE, 1, 0), i);
        }
        E.due("one more", s.note(0, 2, NONE, 0, 0), NONE);
        E.due("there are", s.count(1), 300);
        E.due("the last can be undone", s.undo(299), true);
        E.due("an undone one is there still", s.note(0, 2, NONE, 0, 0), NONE);
        E.due("there are", s.count(1), 300);
        E.refused("one more", NotesEdgesTest::fullOfNotes, f -> f.note(0, 2, NONE, 0, 0), NONE);
    }

    private static void undone() {
        E.sentence(4, "UNDONE: true");
        SixAcres s = Edges.block(3, 1, 0, 3, 2, 4);
        E.due("the last", s.undo(1), true);
        E.due("the one before holds", s.state(3, 0, 0, 0), 1);
        E.due("nobody is there", s.count(3), 0);
        E.due("the first", s.undo(0), true);
        E.due("space", s.state(3, 0, 0, 0), 0);
        E.due("one that another hides", Edges.block(3, 1, 0, 3, 2, 4).undo(0), true);
    }

    private static void noSuchNote() {
        E.sentence(4, "false: none such");
        E.due("none at all", new SixAcres().undo(0), false);
        E.due("behind the last of all", fullOfNotes().undo(300), false);
        for (int note : new int[] {LEAST, -1, 15, 16, 299, 300, MOST}) {
            E.refused("undo " + note, Edges::town, s -> Edges.bit(s.undo(note)), 0);
        }
    }

    private static void undoneAlready() {
        E.sentence(4, "it is");
        E.refused("undo again", Edges::town, s -> Edges.bit(s.undo(14)), 0);
        SixAcres s = Edges.block(3, 1, 0);
        s.day(2);
        s.undo(0);
        s.day(4);
        E.due("again later", s.undo(0), false);
        E.due("not known from the first time on", s.state(3, 0, 2, 0), 0);
        E.due("nor later", s.state(3, 0, 3, 0), 0);
    }

    private static void knownFromTheDayTold() {
        E.sentence(5, "KNOWN from the DAY on which it was told");
        SixAcres s = new SixAcres();
        s.day(7);
        s.note(3, 1, 8, 2, 0);
        E.due("the day before", s.state(3, 7, 6, 0), 0);
        E.due("that day", s.state(3, 7, 7, 0), 1);
        E.due("long before, on day 0", s.state(3, 0, 0, 3), NONE);
        E.due("day 0 as known then", s.state(3, 0, 7, 3), 0);
        E.due("ways know the same", s.way(3, 3, 7, 6), NONE);
        E.due("ways know the same", s.way(3, 3, 7, 7), 0);
    }

    private static void notKnownFromTheDayUndone() {
        E.sentence(5, "till that on which it's UNDONE (from then on it isn't)");
        SixAcres s = Edges.block(3, 1, 0);
        s.day(7);
        s.undo(0);
        E.due("the day before", s.state(3, 7, 6, 0), 1);
        E.due("that day", s.state(3, 7, 7, 0), 0);
        E.due("later", s.state(3, 0, 9999, 0), 0);
        E.due("ways know the same", s.way(3, 3, 7, 6), 0);
        E.due("ways know the same", s.way(3, 3, 7, 7), NONE);
    }

    private static void toldAndUndoneOnOneDay() {
        E.sentence(5, "told .. UNDONE, on one DAY");
        SixAcres s = new SixAcres();
        s.day(7);
        s.note(3, 1, NONE, 0, 7);
        s.undo(0);
        for (int known : new int[] {6, 7, 8}) {
            E.due("known by " + known, s.state(3, 9999, known, 3), NONE);
        }
    }

    private static void latestDayUpToIt() {
        E.sentence(5, "by the NOTE KNOWN from the latest DAY up to it");
        SixAcres s = new SixAcres();
        s.day(20);
        s.note(3, 1, 1, 1, 10);
        s.note(3, 2, 2, 2, 5);
        s.note(3, 3, 3, 3, 20);
        int[] days = {0, 4, 5, 9, 10, 19, 20, 9999};
        int[] from = {NONE, NONE, 5, 5, 10, 10, 20, 20};
        for (int i = 0; i < days.length; i++) {
            E.due("on day " + days[i], s.state(3, days[i], 20, 3), from[i]);
        }
        s.undo(2);
        E.due("one that isn't known any more", s.state(3, 20, 20, 3), 10);
        E.due("ways go by the same", s.way(3, 3, 9999, 20), 0);
        s.note(3, 7, NONE, 0, 8);
        E.due("ways go by the same, told late", s.way(3, 3, 20, 20), 0);
        E.due("ways go by the same, told late", s.way(3, 3, 9, 20), NONE);
        E.due("ways go by the same, told late", s.way(3, 3, 7, 20), 0);
        E.due("ways go by the same, before all", s.way(3, 3, 4, 20), NONE);
    }

    private static void toldLastOfOneDay() {
        E.sentence(5, "of one DAY the one told last");
        SixAcres s = Edges.block(3, 1, 1, 3, 2, 2);
        E.due("on one day", s.state(3, 0, 0, 0), 2);
        s.day(4);
        s.note(3, 4, NONE, 4, 0);
        E.due("told later from the same day", s.state(3, 0, 4, 0), 4);
        E.due("as known ahead of it", s.state(3, 0, 3, 0), 2);
        E.due("now", s.count(3), 4);
        E.due("ways go by the same", s.way(3, 3, 0, 4), 0);
        s.note(3, 7, NONE, 0, 0);
        E.due("ways go by the same", s.way(3, 3, 0, 4), NONE);
    }

    private static void neverTold() {
        E.sentence(5, "none: space, no OWNER, no PEOPLE .. NONE: never told");
        SixAcres s = Edges.block(3, 1, 4);
        int[] never = {0, NONE, 0, NONE};
        for (int what = 0; what <= 3; what++) {
            E.due("what " + what + " of 0", s.state(0, 0, 0, what), never[what]);
            E.due("what " + what + " of 239", s.state(239, 9999, 9999, what), never[what]);
        }
        E.due("told: day 0", s.state(3, 0, 0, 3), 0);
    }

    private static void spaceThatWasTold() {
        E.sentence(5, "3 from which DAY on");
        SixAcres s = new SixAcres();
        s.day(9999);
        s.note(3, 0, 39, 0, 9999);
        E.due("space with an owner", s.state(3, 9999, 9999, 1), 39);
        E.due("told as space", s.state(3, 9999, 9999, 3), 9999);
        E.due("the day before", s.state(3, 9998, 9999, 3), NONE);
        E.due("known the day before", s.state(3, 9999, 9998, 3), NONE);
    }

    private static void noSuchState() {
        E.sentence(5, "-2: none such");
        SixAcres s = Edges.town();
        for (int c : Edges.NO_CELLS) {
            E.due("cell " + c, s.state(c, 5, 5, 0), -2);
        }
        for (int d : Edges.NO_DAYS) {
            E.due("day " + d, s.state(1, d, 5, 0), -2);
            E.due("known by " + d, s.state(1, 5, d, 0), -2);
        }
        for (int what : new int[] {LEAST, -1, 4, 5, MOST}) {
            E.due("what " + what, s.state(1, 5, 5, what), -2);
        }
        E.due("days 0 and 9999", s.state(0, 0, 9999, 0), 4);
        E.due("days 9999 and 0", s.state(0, 9999, 0, 0), 4);
    }
}
