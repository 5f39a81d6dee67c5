import java.util.Random;

/** Random laws and judgements: most are right, some are spoiled by a sign more, less or other. */
public final class TextMaker {
    private static final String[] LAW_FACTS = {"at", "high", "left", "right", "draw", "shots", "rust", "soft"};
    private static final String[] JUDGEMENT_FACTS = {"best", "longest", "slide", "pieces", "lack", "told"};
    private static final String SPOILS = ";+-*/()<=> \n0123456789acdeghiklmnoprstuwACZ_.,\t\r";

    private final Random random;
    private final boolean laws;
    private final StringBuilder out = new StringBuilder();

    private TextMaker(Random random, boolean laws) {
        this.random = random;
        this.laws = laws;
    }

    public static String make(Random random, boolean laws) {
        TextMaker maker = new TextMaker(random, laws);
        int lines = random.nextInt(12) == 0 ? 15 + random.nextInt(3) : random.nextInt(6);
        boolean shortLines = lines > 10 || random.nextInt(3) == 0;
        for (int n = 0; n < lines; n++) {
            int before = maker.out.length();
            maker.line(shortLines);
            if (maker.out.length() > 560) {
                maker.out.setLength(before);
            }
        }
        String text = maker.out.toString();
        return random.nextInt(4) == 0 ? maker.spoil(text) : text;
    }

    private String spoil(String text) {
        StringBuilder s = new StringBuilder(text);
        int times = 1 + random.nextInt(2);
        for (int n = 0; n < times; n++) {
            int at = random.nextInt(s.length() + 1);
            char c = random.nextInt(12) == 0 ? (char) random.nextInt(256)
                    : SPOILS.charAt(random.nextInt(SPOILS.length()));
            switch (random.nextInt(4)) {
                case 0 -> s.insert(at, c);
                case 1 -> s.delete(at, Math.min(s.length(), at + 1 + random.nextInt(3)));
                case 2 -> s.setLength(at);
                default -> s.replace(at, Math.min(s.length(), at + 1), "" + c);
            }
        }
        return s.toString();
    }

    private void line(boolean isShort) {
        int depth = isShort ? 0 : random.nextInt(10) == 0 ? 8 + random.nextInt(2) : random.nextInt(4);
        if (laws) {
            word(new String[] {"cut", "wear", "take"});
            sum(isShort ? 1 : 3);
            if (random.nextInt(3) > 0) {
                put("when");
                either(depth);
            }
        } else {
            word(new String[] {"same", "not"});
            either(depth);
        }
        put(";");
    }

    private void either(int depth) {
        int parts = 1 + random.nextInt(depth > 4 ? 1 : 2);
        for (int n = 0; n < parts; n++) {
            if (n > 0) {
                word(new String[] {"or", "and"});
            }
            claim(depth);
        }
    }

    private void claim(int depth) {
        if (depth > 0 && random.nextInt(depth > 6 ? 40 : 3) > 0) {
            if (random.nextBoolean()) {
                put("no");
                claim(depth - 1);
            } else {
                put("(");
                either(depth - 1);
                put(")");
            }
        } else {
            sum(2);
            word(new String[] {"<", "=", ">"});
            sum(2);
        }
    }

    private void sum(int most) {
        int parts = 1 + random.nextInt(most);
        for (int n = 0; n < parts; n++) {
            if (n > 0) {
                word(new String[] {"+", "-"});
            }
            product();
        }
    }

    private void product() {
        part();
        int more = random.nextInt(4) == 0 ? 1 + random.nextInt(3) : 0;
        for (int n = 0; n < more; n++) {
            if (random.nextBoolean()) {
                put("*");
                part();
            } else {
                put("/");
                put("" + (random.nextInt(60) == 0 ? 0 : 1 + random.nextInt(9)));
            }
        }
    }

    private void part() {
        if (random.nextInt(3) == 0) {
            int roll = random.nextInt(20);
            put("" + (roll == 0 ? random.nextInt(12000) : random.nextInt(roll < 10 ? 64 : 12)));
        } else {
            word(laws ? LAW_FACTS : JUDGEMENT_FACTS);
        }
    }

    private void word(String[] words) {
        put(words[random.nextInt(words.length)]);
    }

    /** Blanks stand where two words or numbers would grow together, and now and then elsewhere. */
    private void put(String word) {
        char last = out.length() == 0 ? ' ' : out.charAt(out.length() - 1);
        boolean grows = sort(last) != 0 && sort(last) == sort(word.charAt(0));
        if (grows || random.nextInt(6) == 0) {
            out.append(random.nextInt(5) == 0 ? '\n' : ' ');
        }
        out.append(word);
    }

    private static int sort(char c) {
        return Character.isLetter(c) ? 1 : Character.isDigit(c) ? 2 : 0;
    }
}
