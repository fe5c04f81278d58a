import java.util.function.Supplier;
import java.util.function.ToLongFunction;

/** What the tests of boundary cases share: a sentence of the document at a time, and what is due by it. */
final class Edges {
    static final int NONE = SixAcres.NONE;
    static final int LEAST = Integer.MIN_VALUE;
    static final int MOST = Integer.MAX_VALUE;
    static final int[] NO_CELLS = {LEAST, -240, -2, -1, 240, 241, MOST};
    static final int[] NO_DAYS = {LEAST, -2, -1, 10000, 10001, MOST};
    /** Numbers that no list has, however long: the k of "the k-th". */
    static final int[] NO_PLACES = {LEAST, -2, -1, 240, 300, MOST};
    private static final int[] SPOTS = {0, 1, 2, 3, 4, 46, 48, 49, 50, 52, 99, 239};

    private final String part;
    private String sentence = "no sentence";
    private int sentences;
    private int asked;
    private int wrong;

    Edges(String part) {
        this.part = part;
    }

    /** From here on tests are about these words of the document, as far as they bear on this promise. */
    void sentence(int promise, String words) {
        sentence = "promise " + promise + ", \"" + words + "\"";
        sentences++;
    }

    void due(String call, long got, long want) {
        asked++;
        if (got != want) {
            wrong++;
            System.out.println(sentence + ": " + call + " answered " + got + ", due is " + want);
        }
    }

    void due(String call, boolean got, boolean want) {
        due(call, got ? 1 : 0, want ? 1 : 0);
    }

    /** The call answers so, and a block on which it was tried answers all else like one on which it wasn't. */
    void refused(String call, Supplier<SixAcres> made, ToLongFunction<SixAcres> tried, long answer) {
        SixAcres with = made.get();
        due(call, tried.applyAsLong(with), answer);
        asked++;
        String got = answers(with);
        String want = answers(made.get());
        if (!got.equals(want)) {
            wrong++;
            System.out.println(sentence + ": " + call + " did something: " + got + " and not " + want);
        }
    }

    void end() {
        System.out.println(part + ": " + sentences + " sentences, " + asked + " answers asked, " + wrong + " not as due");
        System.exit(wrong == 0 ? 0 : 1);
    }

    static long bit(boolean b) {
        return b ? 1 : 0;
    }

    /** A new block in which these cells (each with its kind and people) are told on day 0, without owners. */
    static SixAcres block(int... cellKindPeople) {
        SixAcres s = new SixAcres();
        for (int i = 0; i < cellKindPeople.length; i += 3) {
            s.note(cellKindPeople[i], cellKindPeople[i + 1], NONE, cellKindPeople[i + 2], 0);
        }
        return s;
    }

    static SixAcres openDoors(SixAcres s, int... pairs) {
        for (int i = 0; i < pairs.length; i += 2) {
            s.door(pairs[i], pairs[i + 1], 1);
        }
        return s;
    }

    static int tell(SixAcres s, String text) {
        TextsTest.tape(s, text);
        return s.custom(text.length());
    }

    /** A block with something of everything, in under a hundred calls. */
    static SixAcres town() {
        SixAcres s = block(0, 4, 1, 2, 5, 0, 50, 5, 0, 98, 3, 1, 99, 3, 0, 3, 6, 1, 47, 4, 0, 46, 1, 4, 239, 3, 2, 9, 7, 0);
        s.day(5);
        s.note(1, 1, 5, 3, 2);
        s.note(49, 1, 6, 2, 3);
        s.note(4, 2, 5, 2, 5);
        s.note(52, 2, 5, 1, 5);
        s.note(52, 4, 7, 1, 5);
        s.undo(14);
        openDoors(s, 0, 1, 1, 2, 49, 50, 3, 4);
        s.door(2, 3, 2);
        s.weigh(3, 5, 21);
        tell(s, "may home if below>0;may roof;pay home 10*people+since;pay shop 7 if people>0;draw home 5;water home 4;");
        s.wire(1, NONE, 9);
        s.wire(49, 0, 4);
        s.wire(49, NONE, 9);
        s.wire(4, 2, 50);
        s.supply(3, 30);
        s.turn(3, 1);
        s.turn(3, 49);
        s.turn(3, 4);
        s.says(1, 6);
        s.says(49, 20);
        s.wish(48, 1);
        s.wish(53, 3);
        s.wish(48, 2);
        TextsTest.tape(s, "draw tap 4;");
        return s;
    }

    /** Some two hundred answers of a block, all told. The last ones use up what is on the tape. */
    private static String answers(SixAcres s) {
        StringBuilder all = new StringBuilder();
        for (int what = 0; what <= 11; what++) {
            put(all, s.count(what));
        }
        put(all, s.fault());
        for (int kind = 1; kind <= 6; kind++) {
            put(all, s.rule(kind, 0), s.rule(kind, 1));
        }
        for (int c : SPOTS) {
            put(all, s.state(c, 9999, 9999, 0), s.state(c, 9999, 9999, 1), s.state(c, 9999, 9999, 2),
                    s.state(c, 9999, 9999, 3), s.out(c), s.cutOff(c), s.load(c), s.pay(c), s.water(c), s.foul(c));
        }
        for (int k = 0; k < 4; k++) {
            put(all, s.broken(k), s.goes(k), s.amps(k, 0), s.amps(k, 1), s.amps(k, 3), s.gone(k), s.twice(k));
        }
        put(all, s.adds(48, 2, 0), s.kept(3, 0, 0), s.kept(3, 5, 1), s.paid(5), s.paid(6), s.may(48, 1), s.may(53, 3));
        put(all, s.bar(1, 4), s.way(1, 4, 9999, 9999), s.fire(1, 46), s.saved(1), s.wall(1), s.met(0), s.met(1));
        put(all, s.custom(s.count(9)), s.fault(), s.rule(6, 0));
        return all.toString();
    }

    private static void put(StringBuilder all, long... answers) {
        for (long answer : answers) {
            all.append(answer).append(' ');
        }
        all.append('|');
    }
}
