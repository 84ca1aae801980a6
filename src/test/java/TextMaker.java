import java.util.List;
import java.util.Random;

/** Makes texts of either kind, most of them good, some spoilt at one place. */
final class TextMaker {
    private static final List<String> BITS = List.of(";", "+", "-", "*", "/", "(", ")", "<", "=", ">", "when", "or",
        "and", "not", "0", "4", "99999", "wet", "said", "down", "load", "?", "Down", "rain", "/0", "((", "not not",
        " ", "\n", "\t", "9", "dry1;", "\u00e9");

    private final Random random;
    private final boolean laws;

    TextMaker(Random random, boolean laws) {
        this.random = random;
        this.laws = laws;
    }

    private <T> T one(List<T> of) {
        return of.get(random.nextInt(of.size()));
    }

    String text(int mostLines) {
        StringBuilder text = new StringBuilder();
        int lines = random.nextInt(mostLines + 1);
        for (int i = 0; i < lines; i++) {
            String line = line();
            if (text.length() + line.length() <= 560) {
                text.append(line);
            }
        }
        return text.toString();
    }

    String spoilt(int mostLines) {
        StringBuilder text = new StringBuilder(text(mostLines));
        int at = random.nextInt(text.length() + 1);
        switch (random.nextInt(4)) {
            case 0:
                text.setLength(at);
                break;
            case 1:
                text.delete(at, Math.min(text.length(), at + 1 + random.nextInt(6)));
                break;
            default:
                text.insert(at, one(BITS));
                break;
        }
        text.setLength(Math.min(text.length(), 580));
        return text.toString();
    }

    private String gap() {
        return random.nextInt(4) == 0 ? "\n" : random.nextInt(4) == 0 ? "  " : " ";
    }

    private String gapOrNone() {
        return random.nextInt(3) == 0 ? gap() : "";
    }

    private String line() {
        if (!laws) {
            return one(TextModel.CODE_HEADS) + gapOrNone() + random.nextInt(4) + gapOrNone() + "when" + gap()
                + either(random.nextInt(4)) + ";" + gapOrNone();
        }
        String when = random.nextInt(3) > 0 ? gap() + "when" + gap() + either(random.nextInt(4)) : "";
        return one(TextModel.LAW_HEADS) + gap() + sum() + when + ";" + gapOrNone();
    }

    private String either(int depth) {
        StringBuilder text = new StringBuilder(both(depth));
        for (int i = random.nextInt(3) - 1; i > 0; i--) {
            text.append(" or ").append(both(depth));
        }
        return text.toString();
    }

    private String both(int depth) {
        StringBuilder text = new StringBuilder(claim(depth));
        for (int i = random.nextInt(3) - 1; i > 0; i--) {
            text.append(" and ").append(claim(depth));
        }
        return text.toString();
    }

    private String claim(int depth) {
        if (depth > 0 && random.nextInt(2) == 0) {
            return random.nextBoolean() ? "not " + claim(depth - 1) : "(" + either(depth - 1) + ")";
        }
        return sum() + gapOrNone() + "<=>".charAt(random.nextInt(3)) + gapOrNone() + sum();
    }

    private String sum() {
        StringBuilder text = new StringBuilder(unit());
        for (int i = random.nextInt(4) - 1; i > 0; i--) {
            if (random.nextInt(4) == 0) {
                text.append('/').append(1 + random.nextInt(random.nextBoolean() ? 9 : 999));
            } else {
                text.append("+-*".charAt(random.nextInt(3))).append(unit());
            }
        }
        return text.toString();
    }

    private String unit() {
        if (random.nextInt(3) == 0) {
            return Integer.toString(random.nextInt(random.nextInt(4) == 0 ? 10000 : 20));
        }
        return one(laws ? TextModel.LAW_NAMES : TextModel.CODE_NAMES);
    }
}
