import java.util.Random;

/** Draws HILLS and RULES, and spoils them. */
final class Texts {
    private static final String[] WORDS = {"runner", "ware", "speed", "purse", "far", "worth", "rivals", "time",
        "lead", "wealth", "feast", "day"};
    private static final String[] SIGNS = {"<", "<=", "=", ">=", ">"};
    private static final String[] PIECES = {" ", ";", "[", "]", "not ", "and ", "or ", "if ", "run ", "hill 3",
        "runner 1 1", "ware 1 1 1", "1", "99999", "100000", "+", "-", "*", "/", "%", "<", "<=", "=", ">=", ">", "far",
        "worths", "X", "\0", "\u00e9", "0"};

    private final Random random;

    Texts(Random random) {
        this.random = random;
    }

    private int upTo(int most) {
        return random.nextInt(most + 1);
    }

    private String blank() {
        return " ".repeat(random.nextInt(8) == 0 ? 1 + upTo(2) : 0);
    }

    String hill() {
        StringBuilder text = new StringBuilder(blank() + "hill " + (1 + upTo(random.nextBoolean() ? 9 : 59)));
        int runners = upTo(5);
        int wares = upTo(6);
        while (runners + wares > 0) {
            text.append(blank()).append(";").append(blank());
            if (wares == 0 || runners > 0 && random.nextBoolean()) {
                runners--;
                text.append("runner ").append(1 + upTo(19)).append(" ").append(upTo(random.nextBoolean() ? 40 : 6));
            } else {
                wares--;
                text.append("ware ").append(1 + upTo(98)).append(" ").append(1 + upTo(49)).append(" ")
                        .append(1 + upTo(random.nextBoolean() ? 8 : 2));
            }
        }
        return text.append(blank()).toString();
    }

    String rule() {
        for (int tries = 0; tries < 50; tries++) {
            StringBuilder text = new StringBuilder(clause());
            for (int more = random.nextInt(4); more > 0; more--) {
                text.append(blank()).append(";").append(blank()).append(clause());
            }
            if (text.length() <= 400) {
                return text.toString();
            }
        }
        return "run worth";
    }

    private String clause() {
        String sum = random.nextInt(3) == 0 ? "worth" + "+-".charAt(upTo(1)) + sum() : sum();
        return "run " + sum + blank() + (random.nextInt(3) > 0 ? " if " + test(0) : "");
    }

    private String test(int depth) {
        StringBuilder text = new StringBuilder(part(depth));
        while (random.nextInt(4) == 0) {
            text.append(" or ").append(part(depth));
        }
        return text.toString();
    }

    private String part(int depth) {
        StringBuilder text = new StringBuilder(fact(depth));
        while (random.nextInt(4) == 0) {
            text.append(" and ").append(fact(depth));
        }
        return text.toString();
    }

    private String fact(int depth) {
        int kind = random.nextInt(6);
        if (kind == 0 && depth < 12) {
            return "not " + fact(depth + 1);
        }
        if (kind == 1 && depth < 12) {
            return "[" + blank() + test(depth + 1) + blank() + "]";
        }
        String comparison = sum() + blank() + SIGNS[upTo(4)] + blank() + sum();
        if (random.nextInt(20) > 0) {
            return comparison;
        }
        int nots = upTo(7);
        int deep = upTo(7);
        return "not ".repeat(nots) + "[".repeat(deep) + comparison + "]".repeat(deep);
    }

    private String sum() {
        StringBuilder text = new StringBuilder(term());
        while (random.nextInt(3) == 0) {
            text.append(blank()).append("+-".charAt(upTo(1))).append(blank()).append(term());
        }
        return text.toString();
    }

    private String term() {
        StringBuilder text = new StringBuilder(value());
        while (random.nextInt(4) == 0) {
            text.append(blank()).append("*/%".charAt(upTo(2))).append(blank()).append(value());
        }
        return text.toString();
    }

    private String value() {
        if (random.nextInt(3) == 0) {
            return String.valueOf(random.nextInt(8) == 0 ? upTo(99999) : upTo(12));
        }
        return WORDS[upTo(11)];
    }

    /** A text with a piece put in, taken out or put over, cut to what the TAPE can hold. */
    String spoilt(String text) {
        String result = text;
        for (int times = 1 + upTo(2); times > 0; times--) {
            int at = upTo(result.length());
            int length = random.nextInt(3) == 0 ? 0 : upTo(Math.min(6, result.length() - at));
            String piece = random.nextInt(4) == 0 ? "" : PIECES[upTo(PIECES.length - 1)].repeat(1 + upTo(1) * upTo(12));
            result = result.substring(0, at) + piece + result.substring(at + length);
        }
        if (random.nextInt(10) == 0) {
            result = result + ";" + result;
        }
        return result.length() > 400 ? result.substring(0, 400) : result;
    }
}
