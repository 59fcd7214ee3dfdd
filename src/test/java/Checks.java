/** What the tests share: feeding a text, and counting answers that are not as due. */
final class Checks {
    private int wrong = 0;
    private int made = 0;

    void due(String what, long got, long want) {
        made++;
        if (got != want) {
            wrong++;
            System.out.println(what + " answered " + got + ", due is " + want);
        }
    }

    void holds(String what, boolean is) {
        due(what, is ? 1 : 0, 1);
    }

    void finish(String name) {
        System.out.println(name + ": " + made + " answers, " + wrong + " wrong");
        if (wrong != 0) {
            System.exit(1);
        }
    }

    /** Five numbers of four bytes each, from a place of the text on, zeros behind its end. */
    static int[] twentyBytes(String text, int from) {
        int[] numbers = new int[5];
        for (int i = 0; i < 20; i++) {
            int at = from + i;
            int sign = at < text.length() ? text.charAt(at) & 255 : 0;
            numbers[i / 4] = numbers[i / 4] << 8 | sign;
        }
        return numbers;
    }

    /** Puts a text on an empty TAPE. */
    static void tell(HeadHill x, String text) {
        x.end(0);
        for (int from = 0; from < text.length(); from += 20) {
            int[] five = twentyBytes(text, from);
            x.feed(five[0], five[1], five[2], five[3], five[4]);
        }
        x.end(text.length());
    }

    static int hill(HeadHill x, String text) {
        tell(x, text);
        return x.hill();
    }

    static int rule(HeadHill x, String text) {
        tell(x, text);
        return x.rule();
    }

    static HeadHill at(String hill, String... rules) {
        HeadHill x = new HeadHill();
        hill(x, hill);
        for (String rule : rules) {
            rule(x, rule);
        }
        return x;
    }
}
