import java.util.Random;

/** Texts of YARDS and LAWS by a seed: right ones, and ones with a slip. */
final class RandomTexts {
    private final Random random;

    RandomTexts(Random random) {
        this.random = random;
    }

    private int upTo(int most) {
        return random.nextInt(most + 1);
    }

    String yard() {
        int boys = 1 + upTo(4);
        int places = random.nextBoolean() ? 2 : 9;
        int kinds = random.nextBoolean() ? 1 : 5;
        java.util.List<String> clauses = new java.util.ArrayList<>();
        if (random.nextBoolean()) {
            clauses.add("s" + item("l", 3, 30) + item("r", 1, 9) + item("c", 0, 99));
        }
        for (int b = 0; b < boys; b++) {
            clauses.add("b" + item("k", 1, 9) + item("p", 0, places));
        }
        for (int m = upTo(5); m >= 0; m--) {
            clauses.add("m" + item("o", 0, boys - 1) + item("w", 0, kinds) + item("s", 1, 9));
        }
        for (int f = random.nextInt(4) == 0 ? upTo(6) : upTo(2); f > 0; f--) {
            clauses.add("f" + item("w", 0, kinds) + item("n", 0, 9) + item("p", 0, places));
        }
        java.util.Collections.shuffle(clauses, random);
        return String.join(";", clauses);
    }

    private String item(String letter, int least, int most) {
        return random.nextInt(4) == 0 ? "" : letter + (least + random.nextInt(most - least + 1));
    }

    String law() {
        StringBuilder text = new StringBuilder();
        for (int clauses = upTo(2); clauses >= 0; clauses--) {
            text.append("y:");
            if (random.nextInt(3) > 0) {
                text.append(condition(1 + upTo(6))).append('?');
            }
            text.append(sum(1 + upTo(2))).append(clauses > 0 ? ";" : "");
        }
        return text.length() <= 230 ? text.toString() : "y:2*p+k/2-s";
    }

    private String condition(int size) {
        if (size <= 1) {
            return sum(1) + "=<>".charAt(upTo(2)) + sum(1);
        }
        switch (upTo(5)) {
            case 0:
                return "!" + unit(size - 1);
            case 1:
                return "(" + condition(size - 1) + ")";
            case 2:
                return condition(size / 2) + "|" + condition(size / 2);
            case 3:
                return condition(size / 2) + "&" + unit(size / 2);
            default:
                return sum(size / 2) + "=<>".charAt(upTo(2)) + sum(size / 2);
        }
    }

    private String unit(int size) {
        return random.nextBoolean() ? "(" + condition(size - 1) + ")" : "!" + (size > 1 ? unit(size - 1) : condition(1));
    }

    private String sum(int size) {
        if (size <= 0) {
            return atom();
        }
        switch (upTo(5)) {
            case 0:
                return "[" + sum(size - 1) + "]";
            case 1:
                return sum(size / 2) + "+-*/".charAt(upTo(3)) + "[" + sum(size / 2) + "]";
            case 2:
                return sum(size / 2) + "+-*/".charAt(upTo(3)) + sum(size - 1);
            default:
                return atom() + "+-*/".charAt(upTo(3)) + atom();
        }
    }

    private String atom() {
        return random.nextInt(3) > 0 ? String.valueOf("pkschd".charAt(upTo(5)))
            : String.valueOf(random.nextInt(5) == 0 ? upTo(9999) : upTo(12));
    }

    /** Blanks put where they may stand (and, with a slip, where they may not). */
    String blanks(String text, boolean slip) {
        StringBuilder wide = new StringBuilder();
        for (int i = 0; i < text.length(); i++) {
            boolean within = i > 0 && Character.isDigit(text.charAt(i)) && Character.isDigit(text.charAt(i - 1));
            if ((slip || !within) && wide.length() + text.length() - i < 235 && random.nextInt(8) == 0) {
                wide.append(random.nextBoolean() ? " " : "  ");
            }
            wide.append(text.charAt(i));
        }
        return wide.append(random.nextInt(8) == 0 ? " " : "").toString();
    }

    /** One sign put in, put away or changed. */
    String slip(String text, String signs) {
        int at = upTo(text.length());
        String sign = String.valueOf(random.nextInt(20) == 0 ? (char) (1 + upTo(254)) : signs.charAt(upTo(signs.length() - 1)));
        switch (upTo(3)) {
            case 0:
                return text.substring(0, at) + sign + text.substring(at);
            case 1:
                return text.substring(0, at);
            case 2:
                return at == text.length() ? text : text.substring(0, at) + text.substring(at + 1);
            default:
                return at == text.length() ? text : text.substring(0, at) + sign + text.substring(at + 1);
        }
    }
}
