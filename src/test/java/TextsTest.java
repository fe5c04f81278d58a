import java.util.Map;
import java.util.Random;

/** Many texts of custom, right and spoilt, each told to a new object and held against PlainCustom. */
public final class TextsTest {
    private static int wrong;
    private static int right;
    private static int faulty;

    public static void main(String[] args) {
        for (int seed = 0; seed < 6000 && wrong < 20; seed++) {
            Random random = new Random(seed);
            check(seed, new PlainTexts(random).text(), random);
        }
        if (right < 1000 || faulty < 1000) {
            wrong++;
        }
        System.out.println("texts: " + right + " right, " + faulty + " with a fault, " + wrong + " wrong answers");
        System.exit(wrong == 0 ? 0 : 1);
    }

    static int tape(SixAcres s, String text) {
        int there = 0;
        for (int at = 0; at < text.length(); at += 20) {
            int[] w = new int[5];
            for (int i = 0; i < 20; i++) {
                w[i / 4] = w[i / 4] << 8 | (at + i < text.length() ? text.charAt(at + i) & 255 : ' ');
            }
            there = s.feed(w[0], w[1], w[2], w[3], w[4]);
        }
        return there;
    }

    private static void due(int seed, String text, String call, long got, long want) {
        if (got != want) {
            wrong++;
            System.out.println("text " + seed + ": " + call + " answered " + got + ", due is " + want + ": " + text);
        }
    }

    private static void check(int seed, String text, Random random) {
        SixAcres s = new SixAcres();
        PlainCustom plain = new PlainCustom(text);
        tape(s, text);
        due(seed, text, "custom", s.custom(text.length()), plain.fault < 0 ? 0 : -1);
        due(seed, text, "fault", s.fault(), plain.fault);
        due(seed, text, "tape", s.count(9), 0);
        if (plain.fault >= 0) {
            faulty++;
            return;
        }
        right++;
        int below = 1 + random.nextInt(7);
        int people = random.nextInt(10);
        int owner = random.nextInt(41) - 1;
        int since = random.nextInt(10);
        int sky = random.nextInt(2);
        s.note(9, below, -1, 0, 0);
        s.note(153, sky == 1 ? 0 : 7, -1, 0, 0);
        for (int kind = 1; kind <= 6; kind++) {
            due(seed, text, "rule", s.rule(kind, 0), plain.amount(kind, 0));
            due(seed, text, "rule", s.rule(kind, 1), plain.amount(kind, 1));
            Map<String, Integer> bare = Map.of("floor", 1, "people", 0, "since", 0, "below", below, "sky", sky, "owner", -1);
            due(seed, text, "may", s.may(57, kind), plain.first("may", kind, bare));
        }
        s.day(20);
        for (int kind = 1; kind <= 6; kind++) {
            s.note(57, kind, owner, people, 20 - since);
            Map<String, Integer> facts = Map.of("floor", 1, "people", people, "since", since, "below", below, "sky", sky,
                    "owner", owner);
            int first = plain.first("pay", kind, facts);
            int pay = first < 0 ? 0 : Math.max(0, plain.tells(first, facts));
            due(seed, text, "pay", s.pay(57), pay);
            if (owner >= 0) {
                due(seed, text, "paid", s.paid(owner), pay);
            }
        }
    }
}
