import java.util.Random;

/** Makes texts of custom, most of them right, some with something broken in them. */
final class PlainTexts {
    private static final String[] KINDS = {"home", "shop", "roof", "passage", "stair", "tap"};
    private static final String[] WORDS = {"floor", "people", "since", "below", "sky", "owner"};
    private static final String[] OTHERS = {";", "+", "-", "*", "/", "(", ")", "{", "}", "<", ">", "=", "not", "and",
        "or", "if", "may", "pay", "draw", "water", "home", "owner", "12345", "123456", "hut", "!", "A", "\t", "\u00e9"};

    private final Random random;
    private final StringBuilder text = new StringBuilder();

    PlainTexts(Random random) {
        this.random = random;
    }

    String text() {
        int statements = random.nextInt(9) == 0 ? 22 + random.nextInt(5) : random.nextInt(8);
        boolean isShort = statements > 10;
        for (int i = 0; i < statements && text.length() < 440; i++) {
            statement(isShort);
        }
        if (random.nextInt(3) == 0) {
            spoil();
        }
        return text.substring(0, Math.min(text.length(), 500));
    }

    private void spoil() {
        int at = random.nextInt(text.length() + 1);
        if (random.nextBoolean()) {
            text.insert(at, OTHERS[random.nextInt(OTHERS.length)]);
        } else {
            text.delete(at, Math.min(text.length(), at + 1 + random.nextInt(5)));
        }
    }

    private void put(String token) {
        boolean wordy = text.length() > 0 && Character.isLetterOrDigit(text.charAt(text.length() - 1))
                && Character.isLetterOrDigit(token.charAt(0));
        if (wordy || random.nextInt(12) == 0) {
            text.append(random.nextInt(5) == 0 ? "\n" : " ");
        }
        text.append(token);
    }

    private void statement(boolean isShort) {
        int sort = random.nextInt(4);
        put(new String[] {"may", "pay", "draw", "water"}[sort]);
        put(KINDS[random.nextInt(6)]);
        if (sort > 1) {
            put(Integer.toString(random.nextInt(12)));
        } else {
            if (sort == 1) {
                ex(isShort ? 0 : 2);
            }
            if (!isShort && random.nextInt(3) > 0) {
                put("if");
                any(2);
            }
        }
        put(";");
    }

    private void ex(int depth) {
        prod(depth);
        while (random.nextInt(3) == 0) {
            put(random.nextBoolean() ? "+" : "-");
            prod(depth);
        }
    }

    private void prod(int depth) {
        atom(depth);
        while (random.nextInt(4) == 0) {
            put(random.nextBoolean() ? "*" : "/");
            atom(depth);
        }
    }

    private void atom(int depth) {
        int which = random.nextInt(depth > 0 ? 7 : 6);
        if (which < 3) {
            put(WORDS[random.nextInt(6)]);
        } else if (which < 6) {
            put(Integer.toString(random.nextInt(8) == 0 ? random.nextInt(100000) : random.nextInt(6)));
        } else {
            int deep = random.nextInt(40) == 0 ? 6 + random.nextInt(5) : 1;
            for (int i = 0; i < deep; i++) {
                put("(");
            }
            ex(depth - 1);
            for (int i = 0; i < deep; i++) {
                put(")");
            }
        }
    }

    private void any(int depth) {
        all(depth);
        while (random.nextInt(4) == 0) {
            put("or");
            all(depth);
        }
    }

    private void all(int depth) {
        one(depth);
        while (random.nextInt(4) == 0) {
            put("and");
            one(depth);
        }
    }

    private void one(int depth) {
        int which = random.nextInt(depth > 0 ? 7 : 5);
        if (which == 0) {
            int deep = random.nextInt(20) == 0 ? 6 + random.nextInt(5) : 1;
            for (int i = 0; i < deep; i++) {
                put("not");
            }
            one(depth - 1);
        } else if (which > 4) {
            put("{");
            any(depth - 1);
            put("}");
        } else {
            ex(depth);
            put(new String[] {"<", ">", "="}[random.nextInt(3)]);
            ex(depth);
        }
    }
}
