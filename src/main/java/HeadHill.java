import java.util.Arrays;

/** A hill town that pays in head starts: told as a text, moved by acts, and asked how it goes on. */
public final class HeadHill {
    public static final int NONE = -1;

    private static final int MOST_RUNNERS = 5;
    private static final int MOST_WARES = 6;
    private static final int MOST_WORTH = 50;
    private static final int MOST_RULES = 6;
    private static final int MOST_NOTES = 10;
    private static final int MOST_ACTS = 20;
    private static final int MOST_IMAGES = 4;
    private static final int MOST_BYTES = 400;

    private static final int LEAST_PURSE = -99;
    private static final int GREATEST_PURSE = 99;
    private static final int GREATEST_WEALTH = 9999;
    private static final int LAST_DAY = 999;
    private static final int LAST_NOTED_DAY = 60;
    private static final int NO_PURSE = -1000;

    private final RuleReader reader = new RuleReader();
    private final Text tape = reader.text;
    private final Rule[] rules = new Rule[MOST_RULES];
    private int ruleCount = 0;
    private final Town town = new Town();
    private final Town[] images = new Town[MOST_IMAGES];
    private final Course course = new Course();
    private final Future future = new Future();
    private final Choices choices = new Choices();
    private final Witness witness = new Witness();
    private final Purses purses = new Purses();

    public HeadHill() {
    }

    public int feed(int a, int b, int c, int d, int e) {
        if (tape.length + 20 > MOST_BYTES) {
            return NONE;
        }
        tape.append(a);
        tape.append(b);
        tape.append(c);
        tape.append(d);
        tape.append(e);
        return tape.length;
    }

    public int end(int n) {
        if (n < 0 || n > tape.length) {
            return NONE;
        }
        tape.length = n;
        return n;
    }

    public int hill() {
        Hill told = new Hill();
        boolean fits = told.read(tape);
        tape.length = 0;
        if (!fits) {
            return -2 - tape.fault;
        }
        town.settleOn(told);
        return told.runners;
    }

    public int rule() {
        if (ruleCount >= MOST_RULES) {
            return NONE;
        }
        Rule told = reader.read();
        tape.length = 0;
        if (told == null) {
            return -2 - tape.fault;
        }
        rules[ruleCount] = told;
        ruleCount++;
        return ruleCount - 1;
    }

    public int force(int rule) {
        if (rule < NONE || rule >= ruleCount) {
            return -2;
        }
        int was = town.force;
        town.force = rule;
        return was;
    }

    public int runner(int runner, int what) {
        if (!town.hasRunner(runner)) {
            return NO_PURSE;
        }
        switch (what) {
            case 0:
                return town.now.speed[runner];
            case 1:
                return town.now.purse[runner];
            case 2:
                return town.now.wealth[runner];
            default:
                return NO_PURSE;
        }
    }

    public int ware(int ware, int what) {
        if (!town.hasWare(ware)) {
            return -2;
        }
        switch (what) {
            case 0:
                return town.now.far[ware];
            case 1:
                return town.hill.worth[ware];
            case 2:
                return town.hill.every[ware];
            case 3:
                return town.hill.isThere(ware, town.now.day) ? 1 : 0;
            case 4:
                return town.now.got[ware];
            default:
                return -2;
        }
    }

    public int day() {
        if (town.hill == null || town.now.day >= LAST_DAY) {
            return NONE;
        }
        town.remember();
        return course.pass(town.hill, town.now, ruleInForce());
    }

    public int lend(int from, int to, int seconds) {
        if (!town.hasRunner(from) || !town.hasRunner(to) || from == to) {
            return NO_PURSE;
        }
        if (seconds < 1 || seconds > 20 || !town.now.canLend(from, to, seconds)) {
            return NO_PURSE;
        }
        town.remember();
        town.now.give(from, to, seconds);
        return town.now.purse[from];
    }

    public int fall(int runner) {
        if (!town.hasRunner(runner) || town.now.purse[runner] == 0) {
            return NO_PURSE;
        }
        town.remember();
        int was = town.now.purse[runner];
        town.now.purse[runner] = 0;
        return was;
    }

    public int shift(int ware, int far) {
        if (!town.hasWare(ware) || !isWithin(far, 1, 99) || town.now.far[ware] == far) {
            return NONE;
        }
        town.remember();
        int was = town.now.far[ware];
        town.now.far[ware] = far;
        return was;
    }

    public int train(int runner, int speed) {
        if (!town.hasRunner(runner) || !isWithin(speed, 1, 20) || town.now.speed[runner] == speed) {
            return NONE;
        }
        town.remember();
        int was = town.now.speed[runner];
        town.now.speed[runner] = speed;
        return was;
    }

    public int undo() {
        return town.takeBack() ? town.acts : -2;
    }

    public int ahead(int number, int n, int what) {
        boolean known = what == 2 ? town.hasWare(number) : town.hasRunner(number);
        if (!known || !isWithin(n, 0, 100) || !isWithin(what, 0, 2)) {
            return NO_PURSE;
        }
        future.begin(town, ruleInForce());
        future.go(n);
        if (what == 0) {
            return future.trial.purse[number];
        }
        return what == 1 ? future.trial.wealth[number] : future.trial.got[number];
    }

    public int gets(int runner, int what) {
        if (!town.hasRunner(runner) || !isWithin(what, 0, 1)) {
            return NONE;
        }
        future.begin(town, ruleInForce());
        return future.firstGot(runner, what == 1);
    }

    public int rank(int runner, int far) {
        if (!town.hasRunner(runner) || !isWithin(far, 1, 99)) {
            return NONE;
        }
        int ahead = 0;
        for (int other = 0; other < town.hill.runners; other++) {
            if (other != runner && town.now.beats(other, runner, far)) {
                ahead++;
            }
        }
        return ahead;
    }

    public int need(int runner, int n, int wealth) {
        if (!town.hasRunner(runner) || !isWithin(n, 1, 60) || !isWithin(wealth, 1, GREATEST_WEALTH)) {
            return NONE;
        }
        future.begin(town, ruleInForce());
        return future.fewestSeconds(runner, n, wealth);
    }

    public int lender(int runner, int n, int what) {
        if (!town.hasRunner(runner) || !isWithin(n, 1, 60) || !isWithin(what, 0, 1)) {
            return -2;
        }
        future.begin(town, ruleInForce());
        return future.bestLender(runner, n, what == 1);
    }

    public int row(int runner, int n, int what) {
        if (!town.hasRunner(runner) || !isWithin(n, 1, 3) || !isWithin(what, 0, 3)) {
            return -3;
        }
        if (what > n) {
            return -2;
        }
        choices.begin(town, ruleInForce());
        return choices.bestRow(runner, n, what);
    }

    public int settle() {
        return town.hill == null ? NONE : purses.fewestGoes(town.now.purse, town.hill.runners);
    }

    public int rings(int what) {
        if (town.hill == null || !isWithin(what, 0, 1)) {
            return NONE;
        }
        int runners = town.hill.runners;
        return what == 0 ? purses.countRings(town.now.purse, runners) : purses.greatestRing(town.now.purse, runners);
    }

    public int had(int runner, int n, int ware, int what) {
        boolean known = town.hasRunner(runner) && town.hasWare(ware);
        if (!known || !isWithin(n, 1, 20) || !isWithin(what, 0, 1)) {
            return -1001;
        }
        future.begin(town, ruleInForce());
        return future.pursesThatGet(runner, n, ware, what == 1);
    }

    public int rests(int one, int other, int what) {
        boolean known = town.hasRunner(one) && town.hasRunner(other) && one != other;
        if (!known || !isWithin(what, 0, 2)) {
            return -3;
        }
        choices.begin(town, ruleInForce());
        return choices.restsOfTwo(one, other, what);
    }

    public int pence(int much, int runner) {
        if (!town.hasRunner(runner) || !isWithin(much, 0, 9999)) {
            return NONE;
        }
        return purses.share(much, runner, town.now.wealth, town.hill.runners);
    }

    public int note(int n, int ware, int runner) {
        if (n == NONE) {
            town.notes = 0;
            return 0;
        }
        boolean known = town.hasWare(ware) && (runner == NONE || town.hasRunner(runner));
        if (!known || !isWithin(n, 0, LAST_NOTED_DAY) || town.notes >= MOST_NOTES) {
            return -2;
        }
        town.writeDown(n, ware, runner);
        return town.notes;
    }

    public int ruled(int what) {
        if (town.hill == null || !isWithin(what, 0, 1)) {
            return -3;
        }
        witness.hear(town, rules, ruleCount, 0);
        return what == 0 ? witness.fitting : witness.first;
    }

    public int look(int n, int what) {
        if (town.hill == null || !isWithin(n, 0, LAST_NOTED_DAY) || !isWithin(what, 0, 1)) {
            return NONE;
        }
        witness.hear(town, rules, ruleCount, n);
        return witness.bestWare(town.hill.wares, what == 1);
    }

    public int seed(int x) {
        if (x < 0) {
            return NONE;
        }
        int was = town.x;
        town.x = x;
        return was;
    }

    public int falls(int m, int n, int p, int what) {
        boolean told = isWithin(m, 1, 10) && isWithin(n, 1, 60) && isWithin(p, 0, 100);
        if (town.hill == null || !told || !isWithin(what, 0, 1)) {
            return NONE;
        }
        future.begin(town, ruleInForce());
        return future.drawFalls(m, n, p, what == 1);
    }

    public int count(int what) {
        switch (what) {
            case 0:
                return town.hill == null ? 0 : town.hill.feast;
            case 1:
                return town.hill == null ? 0 : town.hill.runners;
            case 2:
                return town.hill == null ? 0 : town.hill.wares;
            case 3:
                return ruleCount;
            case 4:
                return town.force;
            case 5:
                return town.now.day;
            case 6:
                return town.wealthOfAll();
            case 7:
                return town.waresThere();
            case 8:
                return town.notes;
            case 9:
                return town.acts;
            case 10:
                return town.x;
            case 11:
                return tape.length;
            default:
                return NONE;
        }
    }

    public int image(int k) {
        if (!isWithin(k, 0, MOST_IMAGES - 1)) {
            return NONE;
        }
        if (images[k] == null) {
            images[k] = new Town();
        }
        images[k].become(town);
        return town.now.day;
    }

    public int back(int k) {
        if (!isWithin(k, 0, MOST_IMAGES - 1) || images[k] == null) {
            return NONE;
        }
        town.become(images[k]);
        return town.now.day;
    }

    private Rule ruleInForce() {
        return isWithin(town.force, 0, ruleCount - 1) ? rules[town.force] : null;
    }

    private static boolean isWithin(int number, int least, int most) {
        return number >= least && number <= most;
    }

    /** The TAPE, and a reader that takes it word by word, number by number, sign by sign. */
    private static final class Text {
        static final int UNFIT = 0;
        static final int BAD_NUMBER = 1;
        static final int TOO_DEEP = 2;
        static final int PART_TOO_MANY = 3;
        static final int CLAUSE_TOO_MANY = 4;

        static final int END = 0;
        static final int NUMBER = 1;
        static final int WORD = 2;
        static final int SIGN = 3;

        static final int MOST_DIGITS = 5;
        static final int WITH_EQUALS = 256;
        static final int HILL = 12;
        static final int RUN = 13;
        static final int IF = 14;
        static final int AND = 15;
        static final int OR = 16;
        static final int NOT = 17;
        // WORDS by their numbers: the first twelve are those that have a value, as Rule counts them.
        static final String WORDS =
                "runner ware speed purse far worth rivals time lead wealth feast day hill run if and or not ";

        final byte[] bytes = new byte[MOST_BYTES];
        int length = 0;
        int fault = 0;
        // What was taken last: where it begins, which kind it is, and which NUMBER, WORD or SIGN.
        int at = 0;
        int kind = END;
        int value = 0;
        private int place = 0;

        void append(int four) {
            for (int shift = 24; shift >= 0 && length < MOST_BYTES; shift -= 8) {
                bytes[length] = (byte) (four >>> shift);
                length++;
            }
        }

        void start() {
            place = 0;
            fault = 0;
            next();
        }

        void refuse(int kindOfFault) {
            if (fault == 0) {
                fault = 1 + 8 * at + kindOfFault;
            }
        }

        boolean isWord(int wanted) {
            return kind == WORD && value == wanted;
        }

        boolean isSign(char wanted) {
            return kind == SIGN && value == wanted;
        }

        void next() {
            while (place < length && bytes[place] == ' ') {
                place++;
            }
            at = place;
            if (place >= length) {
                kind = END;
            } else if (isDigit(bytes[place])) {
                takeNumber();
            } else if (isLetter(bytes[place])) {
                takeWord();
            } else {
                takeSign();
            }
        }

        private void takeNumber() {
            kind = NUMBER;
            value = 0;
            while (place < length && isDigit(bytes[place])) {
                // A NUMBER of more digits is -1, which is within no bounds.
                value = place - at < MOST_DIGITS ? value * 10 + bytes[place] - '0' : NONE;
                place++;
            }
        }

        private void takeWord() {
            kind = WORD;
            while (place < length && isLetter(bytes[place])) {
                place++;
            }
            value = NONE;
            int number = 0;
            int met = at;
            boolean alike = true;
            for (int i = 0; i < WORDS.length(); i++) {
                char letter = WORDS.charAt(i);
                if (letter == ' ') {
                    if (alike && met == place) {
                        value = number;
                    }
                    number++;
                    met = at;
                    alike = true;
                } else {
                    alike = alike && met < place && bytes[met] == letter;
                    met++;
                }
            }
        }

        private void takeSign() {
            kind = SIGN;
            value = bytes[place] & 255;
            place++;
            if ((value == '<' || value == '>') && place < length && bytes[place] == '=') {
                value += WITH_EQUALS;
                place++;
            }
        }

        /** The NUMBER that must come next. */
        int number(int least, int most) {
            int number = value;
            if (kind != NUMBER) {
                refuse(UNFIT);
            } else if (number < least || number > most) {
                refuse(BAD_NUMBER);
            }
            next();
            return number;
        }

        private static boolean isLetter(byte sign) {
            return sign >= 'a' && sign <= 'z';
        }

        private static boolean isDigit(byte sign) {
            return sign >= '0' && sign <= '9';
        }
    }

    /** A HILL as its text told it; nothing changes it, so IMAGES may share it. */
    private static final class Hill {
        static final int MOST_CLAUSES = 40;

        int feast = 1;
        int runners = 0;
        int wares = 0;
        final int[] speed = new int[MOST_RUNNERS];
        final int[] purse = new int[MOST_RUNNERS];
        final int[] far = new int[MOST_WARES];
        final int[] worth = new int[MOST_WARES];
        final int[] every = new int[MOST_WARES];

        /** Whether the text has no FAULT. */
        boolean read(Text text) {
            text.start();
            boolean more = true;
            for (int n = 0; more && n <= MOST_CLAUSES; n++) {
                readClause(text, n);
                more = text.fault == 0 && text.isSign(';');
                if (more) {
                    text.next();
                } else if (text.kind != Text.END) {
                    text.refuse(Text.UNFIT);
                }
            }
            return text.fault == 0;
        }

        private void readClause(Text text, int n) {
            boolean mayFollow = n > 0 && n < MOST_CLAUSES;
            if (text.isWord(Text.HILL) && n == 0) {
                text.next();
                feast = text.number(1, 60);
            } else if (text.isWord(Rule.RUNNER) && mayFollow && runners < MOST_RUNNERS) {
                text.next();
                speed[runners] = text.number(1, 20);
                purse[runners] = text.number(0, 40);
                runners++;
            } else if (text.isWord(Rule.WARE) && mayFollow && wares < MOST_WARES) {
                text.next();
                far[wares] = text.number(1, 99);
                worth[wares] = text.number(1, MOST_WORTH);
                every[wares] = text.number(1, 9);
                wares++;
            } else {
                boolean isClause = text.isWord(Text.HILL) || text.isWord(Rule.RUNNER) || text.isWord(Rule.WARE);
                text.refuse(isClause ? Text.CLAUSE_TOO_MANY : Text.UNFIT);
            }
        }

        boolean isThere(int ware, int day) {
            return every[ware] > 0 && day % every[ware] == 0;
        }

        int daysTillFeast(int day) {
            return feast > 0 ? feast - 1 - day % feast : 0;
        }
    }

    /**
     * Reads a RULE into a row of steps, what is worked on ahead of the work. What may come next is a state;
     * what waits for its right side lies on a pile, until something comes that binds no tighter.
     */
    private static final class RuleReader {
        static final int MOST_CLAUSES = 12;
        static final int MOST_DEPTH = 10;
        static final int MOST_PARTS = 60;

        // A state one above SUM, LEFT or RIGHT is behind a VALUE of it.
        static final int CLAUSE = 0;
        static final int SUM = 1;
        static final int BEHIND_SUM = 2;
        static final int LEFT = 3;
        static final int BEHIND_LEFT = 4;
        static final int RIGHT = 5;
        static final int BEHIND_RIGHT = 6;
        static final int FACT = 7;
        static final int BEHIND_FACT = 8;
        static final int READY = 9;

        // The TAPE; a HILL is read from it, too.
        final Text text = new Text();
        // Every step stems from a byte of its own on the TAPE, so the row can't run over.
        final int[] steps = new int[MOST_BYTES];
        // At each depth an or, an and, and what opens the next one; at the last a SIGN, a + and a *.
        final int[] waiting = new int[3 * MOST_DEPTH + 5];
        final int[] bounds = new int[2 * MOST_CLAUSES + 1];
        int length = 0;
        int piled = 0;
        int depth = 0;
        int brackets = 0;
        int parts = 0;
        int clauses = 0;
        int state = CLAUSE;

        /** The RULE on the TAPE, or null with the TAPE's FAULT. */
        Rule read() {
            text.start();
            length = 0;
            piled = 0;
            depth = 0;
            brackets = 0;
            parts = 0;
            clauses = 0;
            state = CLAUSE;
            for (int n = 0; n <= MOST_BYTES && text.fault == 0 && state != READY; n++) {
                takeOne();
                text.next();
            }
            if (text.fault != 0) {
                return null;
            }
            return new Rule(Arrays.copyOf(steps, length), Arrays.copyOf(bounds, 2 * clauses + 1), clauses);
        }

        private void takeOne() {
            switch (state) {
                case CLAUSE:
                    takeRun();
                    break;
                case SUM:
                case LEFT:
                case RIGHT:
                    takeValue(state + 1);
                    break;
                case FACT:
                    takeFact();
                    break;
                default:
                    goOn();
                    break;
            }
        }

        private void takeRun() {
            if (!text.isWord(Text.RUN)) {
                text.refuse(Text.UNFIT);
            } else if (clauses >= MOST_CLAUSES) {
                text.refuse(Text.CLAUSE_TOO_MANY);
            } else {
                state = SUM;
            }
        }

        private void takeValue(int behind) {
            boolean isNumber = text.kind == Text.NUMBER;
            boolean isWord = text.kind == Text.WORD && text.value >= 0 && text.value < Rule.WORDS;
            if (!isNumber && !isWord) {
                text.refuse(Text.UNFIT);
            } else if (text.value < 0) {
                text.refuse(Text.BAD_NUMBER);
            } else {
                countPart();
                addStep(isNumber ? text.value : -1 - text.value);
                state = behind;
            }
        }

        private void takeFact() {
            if (!text.isWord(Text.NOT) && !text.isSign('[')) {
                takeValue(BEHIND_LEFT);
            } else if (depth >= MOST_DEPTH) {
                text.refuse(Text.TOO_DEEP);
            } else {
                depth++;
                brackets += text.isSign('[') ? 1 : 0;
                pile(text.isSign('[') ? Rule.BRACKET : Rule.NOT);
            }
        }

        /** Behind a VALUE or a FACT. */
        private void goOn() {
            int step = stepOfToken();
            int tightness = Rule.tightnessOf(step);
            boolean behindTest = state == BEHIND_RIGHT || state == BEHIND_FACT;
            if (tightness >= Rule.OF_SUMS && state != BEHIND_FACT) {
                join(step);
                state--;
            } else if (tightness == Rule.OF_SIGNS && state == BEHIND_LEFT) {
                countPart();
                join(step);
                state = RIGHT;
            } else if ((step == Rule.AND || step == Rule.OR) && behindTest) {
                join(step);
                state = FACT;
            } else if (text.isWord(Text.IF) && state == BEHIND_SUM) {
                endSum();
                state = FACT;
            } else if (text.isSign(']') && behindTest && brackets > 0) {
                closeBracket();
            } else if (isClauseEnd() && (behindTest && brackets == 0 || state == BEHIND_SUM)) {
                endClause();
            } else {
                text.refuse(Text.UNFIT);
            }
        }

        private int stepOfToken() {
            if (text.kind == Text.SIGN) {
                return Rule.stepOf(text.value);
            }
            if (text.isWord(Text.AND)) {
                return Rule.AND;
            }
            return text.isWord(Text.OR) ? Rule.OR : Rule.NO_STEP;
        }

        private boolean isClauseEnd() {
            return text.kind == Text.END || text.isSign(';');
        }

        private void endSum() {
            release(Rule.OF_BRACKETS);
            bounds[2 * clauses + 1] = length;
        }

        private void endClause() {
            if (state == BEHIND_SUM) {
                endSum();
            }
            release(Rule.OF_BRACKETS);
            bounds[2 * clauses + 2] = length;
            clauses++;
            state = text.kind == Text.END ? READY : CLAUSE;
        }

        private void closeBracket() {
            release(Rule.OF_BRACKETS);
            if (piled > 0) {
                piled--;
            }
            brackets--;
            depth--;
            state = BEHIND_FACT;
        }

        private void join(int step) {
            release(Rule.tightnessOf(step) - 1);
            pile(step);
        }

        /** All that waits on top and binds tighter than this is worked now. */
        private void release(int tightness) {
            while (piled > 0 && Rule.tightnessOf(waiting[piled - 1]) > tightness) {
                piled--;
                depth -= waiting[piled] == Rule.NOT ? 1 : 0;
                addStep(waiting[piled]);
            }
        }

        private void pile(int step) {
            if (piled < waiting.length) {
                waiting[piled] = step;
                piled++;
            }
        }

        private void addStep(int step) {
            if (length < steps.length) {
                steps[length] = step;
                length++;
            }
        }

        private void countPart() {
            parts++;
            if (parts > MOST_PARTS) {
                text.refuse(Text.PART_TOO_MANY);
            }
        }
    }

    /** A RULE as steps: a NUMBER is itself, a WORD lies below 0, what works on these lies below the WORDS. */
    private static final class Rule {
        static final int RUNNER = 0;
        static final int WARE = 1;
        static final int SPEED = 2;
        static final int PURSE = 3;
        static final int FAR = 4;
        static final int WORTH = 5;
        static final int RIVALS = 6;
        static final int TIME = 7;
        static final int LEAD = 8;
        static final int WEALTH = 9;
        static final int FEAST = 10;
        static final int DAY = 11;
        static final int WORDS = 12;

        static final int NO_STEP = -19;
        static final int PLUS = -20;
        static final int MINUS = -21;
        static final int TIMES = -22;
        static final int BY = -23;
        static final int REST = -24;
        static final int BELOW = -25;
        static final int AT_MOST = -26;
        static final int ALIKE = -27;
        static final int AT_LEAST = -28;
        static final int ABOVE = -29;
        static final int AND = -30;
        static final int OR = -31;
        static final int NOT = -32;
        static final int BRACKET = -33;

        static final int OF_BRACKETS = 0;
        static final int OF_SIGNS = 4;
        static final int OF_SUMS = 5;
        static final int OF_TERMS = 6;

        final int[] steps;
        // Of CLAUSE c the SUM goes from bounds[2c] to bounds[2c + 1], its TEST from there to bounds[2c + 2].
        final int[] bounds;
        final int clauses;

        Rule(int[] steps, int[] bounds, int clauses) {
            this.steps = steps;
            this.bounds = bounds;
            this.clauses = clauses;
        }

        static int stepOf(int sign) {
            switch (sign) {
                case '+':
                    return PLUS;
                case '-':
                    return MINUS;
                case '*':
                    return TIMES;
                case '/':
                    return BY;
                case '%':
                    return REST;
                case '<':
                    return BELOW;
                case '<' + Text.WITH_EQUALS:
                    return AT_MOST;
                case '=':
                    return ALIKE;
                case '>' + Text.WITH_EQUALS:
                    return AT_LEAST;
                case '>':
                    return ABOVE;
                default:
                    return NO_STEP;
            }
        }

        /** How tight a step binds what stands beside it; below 0 what is none. */
        static int tightnessOf(int step) {
            if (step == NO_STEP) {
                return NONE;
            }
            if (step == PLUS || step == MINUS) {
                return OF_SUMS;
            }
            if (step >= REST) {
                return OF_TERMS;
            }
            if (step >= ABOVE) {
                return OF_SIGNS;
            }
            switch (step) {
                case NOT:
                    return 3;
                case AND:
                    return 2;
                case OR:
                    return 1;
                default:
                    return OF_BRACKETS;
            }
        }

        /** The SUM of the first CLAUSE that holds, by these values of the WORDS; 0 without one. */
        long sumBy(long[] words, long[] pile) {
            for (int c = 0; c < clauses; c++) {
                int test = bounds[2 * c + 1];
                int end = bounds[2 * c + 2];
                if (test == end || work(test, end, words, pile) != 0) {
                    return work(bounds[2 * c], test, words, pile);
                }
            }
            return 0;
        }

        private long work(int from, int to, long[] words, long[] pile) {
            int top = 0;
            for (int i = from; i < to; i++) {
                int step = steps[i];
                if (step > NO_STEP) {
                    if (top < pile.length) {
                        pile[top] = step >= 0 ? step : words[-1 - step];
                        top++;
                    }
                } else if (step == NOT) {
                    if (top > 0) {
                        pile[top - 1] = 1 - pile[top - 1];
                    }
                } else if (top > 1) {
                    top--;
                    pile[top - 1] = joined(step, pile[top - 1], pile[top]);
                }
            }
            return pile[0];
        }

        private static long joined(int step, long a, long b) {
            switch (step) {
                case PLUS:
                    return a + b;
                case MINUS:
                    return a - b;
                case TIMES:
                    return a * b;
                case BY:
                    return b == 0 ? 0 : a / b;
                case REST:
                    return b == 0 ? 0 : a % b;
                case BELOW:
                    return a < b ? 1 : 0;
                case AT_MOST:
                    return a <= b ? 1 : 0;
                case ALIKE:
                    return a == b ? 1 : 0;
                case AT_LEAST:
                    return a >= b ? 1 : 0;
                case ABOVE:
                    return a > b ? 1 : 0;
                case AND:
                    return a & b;
                default:
                    return a | b;
            }
        }
    }

    /** What ACTS change. */
    private static final class Moment {
        int day = 0;
        final int[] speed = new int[MOST_RUNNERS];
        final int[] purse = new int[MOST_RUNNERS];
        final int[] wealth = new int[MOST_RUNNERS];
        final int[] far = new int[MOST_WARES];
        final int[] got = new int[MOST_WARES];

        void begin(Hill hill) {
            day = 0;
            System.arraycopy(hill.speed, 0, speed, 0, MOST_RUNNERS);
            System.arraycopy(hill.purse, 0, purse, 0, MOST_RUNNERS);
            Arrays.fill(wealth, 0);
            System.arraycopy(hill.far, 0, far, 0, MOST_WARES);
            Arrays.fill(got, NONE);
        }

        void become(Moment other) {
            day = other.day;
            System.arraycopy(other.speed, 0, speed, 0, MOST_RUNNERS);
            System.arraycopy(other.purse, 0, purse, 0, MOST_RUNNERS);
            System.arraycopy(other.wealth, 0, wealth, 0, MOST_RUNNERS);
            System.arraycopy(other.far, 0, far, 0, MOST_WARES);
            System.arraycopy(other.got, 0, got, 0, MOST_WARES);
        }

        /** Whether one comes to a place ahead of another; both times are multiplied by both SPEEDS. */
        boolean beats(int one, int other, int place) {
            int ones = (place - purse[one] * speed[one]) * speed[other];
            int others = (place - purse[other] * speed[other]) * speed[one];
            return ones < others || ones == others && one < other;
        }

        boolean canLend(int from, int to, int seconds) {
            return purse[from] - seconds >= LEAST_PURSE && purse[to] + seconds <= GREATEST_PURSE;
        }

        void give(int from, int to, int seconds) {
            purse[from] -= seconds;
            purse[to] += seconds;
        }
    }

    /** How a DAY goes. */
    private static final class Course {
        static final int FREE = -2;

        // For what each is told to run in place of what the RULE says: a WARE or NONE; FREE goes by the RULE.
        final int[] orders = new int[MOST_RUNNERS];
        final int[] aims = new int[MOST_RUNNERS];
        final long[] words = new long[Rule.WORDS];
        final long[] pile = new long[RuleReader.MOST_PARTS];

        Course() {
            Arrays.fill(orders, FREE);
        }

        /** A DAY passes: the WARES that are GOT on it, as bits. */
        int pass(Hill hill, Moment m, Rule rule) {
            for (int r = 0; r < hill.runners; r++) {
                if (orders[r] != FREE) {
                    aims[r] = orders[r];
                } else {
                    aims[r] = rule == null ? mostWorth(hill, m.day) : bestBy(rule, hill, m, r);
                }
            }
            int bits = 0;
            for (int w = 0; w < hill.wares; w++) {
                m.got[w] = firstTo(w, hill, m);
                if (m.got[w] != NONE) {
                    bits |= 1 << w;
                }
            }
            reward(hill, m);
            if (hill.daysTillFeast(m.day) == 0) {
                Arrays.fill(m.purse, 0);
            }
            m.day++;
            return bits;
        }

        private static int mostWorth(Hill hill, int day) {
            int best = NONE;
            for (int w = 0; w < hill.wares; w++) {
                if (hill.isThere(w, day) && (best == NONE || hill.worth[w] > hill.worth[best])) {
                    best = w;
                }
            }
            return best;
        }

        private int bestBy(Rule rule, Hill hill, Moment m, int r) {
            tellRunner(hill, m, r);
            int best = NONE;
            long most = 0;
            for (int w = 0; w < hill.wares; w++) {
                if (hill.isThere(w, m.day)) {
                    tellWare(hill, m, r, w);
                    long sum = rule.sumBy(words, pile);
                    if (sum > most) {
                        most = sum;
                        best = w;
                    }
                }
            }
            return best;
        }

        private void tellRunner(Hill hill, Moment m, int r) {
            words[Rule.RUNNER] = r;
            words[Rule.SPEED] = m.speed[r];
            words[Rule.PURSE] = m.purse[r];
            words[Rule.LEAD] = leadOf(hill, m, r);
            words[Rule.WEALTH] = m.wealth[r];
            words[Rule.FEAST] = hill.daysTillFeast(m.day);
            words[Rule.DAY] = m.day;
        }

        private static int leadOf(Hill hill, Moment m, int r) {
            if (hill.runners < 2) {
                return 0;
            }
            int most = LEAST_PURSE;
            for (int other = 0; other < hill.runners; other++) {
                if (other != r) {
                    most = Math.max(most, m.purse[other]);
                }
            }
            return m.purse[r] - most;
        }

        private void tellWare(Hill hill, Moment m, int r, int w) {
            int rivals = 0;
            for (int other = 0; other < r; other++) {
                if (aims[other] == w) {
                    rivals++;
                }
            }
            words[Rule.WARE] = w;
            words[Rule.FAR] = m.far[w];
            words[Rule.WORTH] = hill.worth[w];
            words[Rule.RIVALS] = rivals;
            words[Rule.TIME] = m.speed[r] > 0 ? m.far[w] / m.speed[r] : 0;
        }

        private int firstTo(int w, Hill hill, Moment m) {
            int first = NONE;
            for (int r = 0; r < hill.runners; r++) {
                if (aims[r] == w && (first == NONE || m.beats(r, first, m.far[w]))) {
                    first = r;
                }
            }
            return first;
        }

        /** Only once all WARES are GOT: who is FIRST goes by the PURSES as the DAY began. */
        private void reward(Hill hill, Moment m) {
            for (int w = 0; w < hill.wares; w++) {
                int winner = m.got[w];
                if (winner != NONE) {
                    m.wealth[winner] = Math.min(GREATEST_WEALTH, m.wealth[winner] + hill.worth[w]);
                    payRivals(winner, w, hill, m);
                }
            }
        }

        private void payRivals(int winner, int w, Hill hill, Moment m) {
            for (int r = 0; r < hill.runners; r++) {
                if (r != winner && aims[r] == w && m.canLend(winner, r, 1)) {
                    m.give(winner, r, 1);
                }
            }
        }
    }

    /** All that an IMAGE keeps. */
    private static final class Town {
        Hill hill = null;
        int force = NONE;
        int x = 0;
        final Moment now = new Moment();
        // What was ahead of each ACT that can be UNDONE, the oldest first.
        final Moment[] before = new Moment[MOST_ACTS];
        int acts = 0;
        final int[] noteDay = new int[MOST_NOTES];
        final int[] noteWare = new int[MOST_NOTES];
        final int[] noteRunner = new int[MOST_NOTES];
        int notes = 0;

        void settleOn(Hill told) {
            hill = told;
            now.begin(told);
            acts = 0;
            notes = 0;
        }

        boolean hasRunner(int runner) {
            return hill != null && runner >= 0 && runner < hill.runners;
        }

        boolean hasWare(int ware) {
            return hill != null && ware >= 0 && ware < hill.wares;
        }

        int wealthOfAll() {
            int all = 0;
            for (int r = 0; r < MOST_RUNNERS; r++) {
                all += now.wealth[r];
            }
            return all;
        }

        int waresThere() {
            int bits = 0;
            for (int w = 0; w < MOST_WARES; w++) {
                if (hasWare(w) && hill.isThere(w, now.day)) {
                    bits |= 1 << w;
                }
            }
            return bits;
        }

        void writeDown(int day, int ware, int runner) {
            if (notes < MOST_NOTES) {
                noteDay[notes] = day;
                noteWare[notes] = ware;
                noteRunner[notes] = runner;
                notes++;
            }
        }

        void remember() {
            if (acts >= MOST_ACTS) {
                forgetOldest();
            }
            keep(acts, now);
            acts++;
        }

        private void forgetOldest() {
            Moment oldest = before[0];
            for (int i = 1; i < MOST_ACTS; i++) {
                before[i - 1] = before[i];
            }
            before[MOST_ACTS - 1] = oldest;
            acts = MOST_ACTS - 1;
        }

        private void keep(int place, Moment moment) {
            if (before[place] == null) {
                before[place] = new Moment();
            }
            before[place].become(moment);
        }

        boolean takeBack() {
            if (acts < 1 || before[acts - 1] == null) {
                return false;
            }
            acts--;
            now.become(before[acts]);
            return true;
        }

        void become(Town other) {
            hill = other.hill;
            force = other.force;
            x = other.x;
            now.become(other.now);
            acts = other.acts;
            for (int i = 0; i < acts; i++) {
                keep(i, other.before[i]);
            }
            System.arraycopy(other.noteDay, 0, noteDay, 0, MOST_NOTES);
            System.arraycopy(other.noteWare, 0, noteWare, 0, MOST_NOTES);
            System.arraycopy(other.noteRunner, 0, noteRunner, 0, MOST_NOTES);
            notes = other.notes;
        }
    }

    /** What comes of DAYS that go on by the RULE IN FORCE; all on a trial, nothing in the town changes. */
    private static final class Future {
        static final int WATCHED_DAYS = 100;
        static final int MOST_SECONDS = 60;
        static final int LENT_SECONDS = 3;
        static final int LEAST_HAD = -20;
        static final int MOST_HAD = 40;

        final Course course = new Course();
        final Moment trial = new Moment();
        Town town = null;
        Rule rule = null;
        int x = 0;

        /** Only for a town with a HILL. */
        void begin(Town from, Rule by) {
            town = from;
            rule = by;
            trial.become(from.now);
        }

        void go(int days) {
            for (int d = 0; d < days; d++) {
                course.pass(town.hill, trial, rule);
            }
        }

        int firstGot(int runner, boolean which) {
            for (int d = 0; d < WATCHED_DAYS; d++) {
                int today = trial.day;
                go(1);
                for (int w = 0; w < town.hill.wares; w++) {
                    if (trial.got[w] == runner) {
                        return which ? w : today;
                    }
                }
            }
            return -2;
        }

        int fewestSeconds(int runner, int days, int wealth) {
            for (int more = 0; more <= MOST_SECONDS; more++) {
                int purse = town.now.purse[runner] + more;
                if (purse > GREATEST_PURSE) {
                    return -2;
                }
                if (reaches(runner, purse, days, wealth)) {
                    return more;
                }
            }
            return -2;
        }

        /** WEALTH never shrinks, and a DAY brings one WARE at most: often it is clear long before the last DAY. */
        private boolean reaches(int runner, int purse, int days, int wealth) {
            trial.become(town.now);
            trial.purse[runner] = purse;
            for (int left = days; left > 0; left--) {
                int missing = wealth - trial.wealth[runner];
                if (missing <= 0 || missing > left * MOST_WORTH) {
                    return missing <= 0;
                }
                course.pass(town.hill, trial, rule);
            }
            return trial.wealth[runner] >= wealth;
        }

        int bestLender(int runner, int days, boolean howMuch) {
            int who = NONE;
            go(days);
            int most = trial.wealth[runner];
            for (int other = 0; other < town.hill.runners; other++) {
                if (other != runner && town.now.canLend(other, runner, LENT_SECONDS)) {
                    trial.become(town.now);
                    trial.give(other, runner, LENT_SECONDS);
                    go(days);
                    if (trial.wealth[runner] > most) {
                        most = trial.wealth[runner];
                        who = other;
                    }
                }
            }
            return howMuch ? most : who;
        }

        int pursesThatGet(int runner, int days, int ware, boolean least) {
            int found = 0;
            for (int purse = LEAST_HAD; purse <= MOST_HAD; purse++) {
                trial.become(town.now);
                trial.purse[runner] = purse;
                go(days);
                if (trial.got[ware] == runner) {
                    if (least) {
                        return purse;
                    }
                    found++;
                }
            }
            return least ? NO_PURSE : found;
        }

        int drawFalls(int times, int days, int p, boolean purses) {
            x = town.x;
            int gained = 0;
            int greatest = 0;
            for (int t = 0; t < times; t++) {
                trial.become(town.now);
                for (int d = 0; d < days; d++) {
                    drawFall(p);
                    go(1);
                }
                gained += gain();
                greatest += greatestPurse();
            }
            return purses ? greatest : gained;
        }

        private void drawFall(int p) {
            int runners = town.hill.runners;
            if (draw() % 100 < p && runners > 0) {
                trial.purse[draw() % runners] = 0;
            }
        }

        private int draw() {
            x = (int) ((x * 1103515245L + 12345L) & 2147483647L);
            return x / 65536;
        }

        private int gain() {
            int all = 0;
            for (int r = 0; r < town.hill.runners; r++) {
                all += trial.wealth[r] - town.now.wealth[r];
            }
            return all;
        }

        private int greatestPurse() {
            int most = 0;
            for (int r = 0; r < town.hill.runners; r++) {
                most = Math.max(most, trial.purse[r]);
            }
            return most;
        }
    }

    /** What one or two RUNNERS had best run for, others by the RULE; a WARE is told as its number, none as NONE. */
    private static final class Choices {
        static final int MOST_DAYS = 3;

        final Course course = new Course();
        final Moment first = new Moment();
        final Moment second = new Moment();
        final Moment third = new Moment();
        final int[] chosen = new int[MOST_DAYS];
        final int[] bestChosen = new int[MOST_DAYS];
        // By the choices of two, NONE in row and column 0: what each has.
        final int[][] ones = new int[MOST_WARES + 1][MOST_WARES + 1];
        final int[][] others = new int[MOST_WARES + 1][MOST_WARES + 1];
        int best = NONE;
        Town town = null;
        Rule rule = null;

        /** Only for a town with a HILL. */
        void begin(Town from, Rule by) {
            town = from;
            rule = by;
            best = NONE;
        }

        int bestRow(int runner, int days, int what) {
            tryRows(runner, 0, days, town.now);
            course.orders[runner] = Course.FREE;
            if (what == 0) {
                return best;
            }
            return what <= MOST_DAYS ? bestChosen[what - 1] : -2;
        }

        private void tryRows(int runner, int depth, int days, Moment from) {
            if (depth >= days || depth >= MOST_DAYS) {
                weighRow(from.wealth[runner]);
                return;
            }
            Moment to = depth == 0 ? first : depth == 1 ? second : third;
            for (int ware = NONE; ware < town.hill.wares; ware++) {
                if (mayRunFor(ware, from.day)) {
                    to.become(from);
                    course.orders[runner] = ware;
                    course.pass(town.hill, to, rule);
                    chosen[depth] = ware;
                    tryRows(runner, depth + 1, days, to);
                }
            }
        }

        private void weighRow(int wealth) {
            if (wealth > best) {
                best = wealth;
                System.arraycopy(chosen, 0, bestChosen, 0, MOST_DAYS);
            }
        }

        private boolean mayRunFor(int ware, int day) {
            return ware == NONE || town.hill.isThere(ware, day);
        }

        int restsOfTwo(int one, int other, int what) {
            weighTwos(one, other);
            int day = town.now.day;
            int found = 0;
            for (int a = NONE; a < town.hill.wares; a++) {
                for (int b = NONE; b < town.hill.wares; b++) {
                    if (mayRunFor(a, day) && mayRunFor(b, day) && isRest(a, b, day)) {
                        if (what != 0) {
                            return what == 1 ? a : b;
                        }
                        found++;
                    }
                }
            }
            return what == 0 ? found : -2;
        }

        private void weighTwos(int one, int other) {
            for (int a = NONE; a < town.hill.wares; a++) {
                for (int b = NONE; b < town.hill.wares; b++) {
                    if (mayRunFor(a, town.now.day) && mayRunFor(b, town.now.day)) {
                        first.become(town.now);
                        course.orders[one] = a;
                        course.orders[other] = b;
                        course.pass(town.hill, first, rule);
                        ones[a + 1][b + 1] = hasThen(one);
                        others[a + 1][b + 1] = hasThen(other);
                    }
                }
            }
            course.orders[one] = Course.FREE;
            course.orders[other] = Course.FREE;
        }

        private int hasThen(int runner) {
            return 2 * (first.wealth[runner] - town.now.wealth[runner]) + first.purse[runner];
        }

        private boolean isRest(int a, int b, int day) {
            for (int w = NONE; w < town.hill.wares; w++) {
                if (mayRunFor(w, day)) {
                    if (ones[w + 1][b + 1] > ones[a + 1][b + 1] || others[a + 1][w + 1] > others[a + 1][b + 1]) {
                        return false;
                    }
                }
            }
            return true;
        }
    }

    /** What is told of PURSES and WEALTH as they are. */
    private static final class Purses {
        // By sets of RUNNERS: into how many rings, at most, some of it falls apart.
        final int[] mostRings = new int[1 << MOST_RUNNERS];

        private static int together(int[] purse, int runners, int set) {
            int all = 0;
            for (int r = 0; r < runners; r++) {
                if ((set >> r & 1) == 1) {
                    all += purse[r];
                }
            }
            return all;
        }

        /** Each ring settles itself with one go fewer than it has RUNNERS, so the most rings are sought. */
        int fewestGoes(int[] purse, int runners) {
            int sets = 1 << runners;
            if (together(purse, runners, sets - 1) != 0) {
                return -2;
            }
            for (int set = 1; set < sets; set++) {
                int most = 0;
                for (int r = 0; r < runners; r++) {
                    if ((set >> r & 1) == 1) {
                        most = Math.max(most, mostRings[set - (1 << r)]);
                    }
                }
                mostRings[set] = together(purse, runners, set) == 0 ? most + 1 : most;
            }
            return runners - mostRings[sets - 1];
        }

        int countRings(int[] purse, int runners) {
            int found = 0;
            for (int set = 1; set < 1 << runners; set++) {
                if (together(purse, runners, set) == 0) {
                    found++;
                }
            }
            return found;
        }

        int greatestRing(int[] purse, int runners) {
            int best = 0;
            for (int set = 1; set < 1 << runners; set++) {
                if (together(purse, runners, set) == 0 && Integer.bitCount(set) > Integer.bitCount(best)) {
                    best = set;
                }
            }
            return best;
        }

        int share(int much, int runner, int[] wealth, int runners) {
            int all = together(wealth, runners, (1 << runners) - 1);
            if (all <= 0) {
                return 0;
            }
            int left = much;
            int sooner = 0;
            int lost = much * wealth[runner] % all;
            for (int r = 0; r < runners; r++) {
                left -= much * wealth[r] / all;
                int othersLost = much * wealth[r] % all;
                if (othersLost > lost || othersLost == lost && r < runner) {
                    sooner++;
                }
            }
            return much * wealth[runner] / all + (sooner < left ? 1 : 0);
        }
    }

    /** Which RULES, and whether none, the NOTES bear out: the HILL goes on anew from its text by each. */
    private static final class Witness {
        final Course course = new Course();
        final Moment trial = new Moment();
        // Of each RULE that fits: who GOT each WARE on the DAY that is looked at.
        final int[][] gots = new int[MOST_RULES + 1][MOST_WARES];
        int fitting = 0;
        int first = -2;

        /** Only for a town with a HILL. */
        void hear(Town town, Rule[] rules, int ruleCount, int lookedAt) {
            fitting = 0;
            first = -2;
            for (int rule = NONE; rule < ruleCount && fitting <= MOST_RULES; rule++) {
                if (fits(town, rule == NONE ? null : rules[rule], lookedAt)) {
                    if (fitting == 0) {
                        first = rule;
                    }
                    fitting++;
                }
            }
        }

        private boolean fits(Town town, Rule rule, int lookedAt) {
            trial.begin(town.hill);
            int last = lastOf(town, lookedAt);
            for (int day = 0; day <= last; day++) {
                course.pass(town.hill, trial, rule);
                if (!agrees(town, day)) {
                    return false;
                }
                if (day == lookedAt) {
                    System.arraycopy(trial.got, 0, gots[fitting], 0, MOST_WARES);
                }
            }
            return true;
        }

        private static int lastOf(Town town, int lookedAt) {
            int last = lookedAt;
            for (int i = 0; i < town.notes; i++) {
                last = Math.max(last, town.noteDay[i]);
            }
            return last;
        }

        private boolean agrees(Town town, int day) {
            for (int i = 0; i < town.notes; i++) {
                if (town.noteDay[i] == day && trial.got[town.noteWare[i]] != town.noteRunner[i]) {
                    return false;
                }
            }
            return true;
        }

        int bestWare(int wares, boolean howMany) {
            int best = -2;
            int fewest = -2;
            for (int w = 0; fitting > 0 && w < wares; w++) {
                int alike = mostAlike(w);
                if (best < 0 || alike < fewest) {
                    best = w;
                    fewest = alike;
                }
            }
            return howMany ? fewest : best;
        }

        private int mostAlike(int ware) {
            int most = 0;
            for (int i = 0; i < fitting; i++) {
                int alike = 0;
                for (int j = 0; j < fitting; j++) {
                    if (gots[j][ware] == gots[i][ware]) {
                        alike++;
                    }
                }
                most = Math.max(most, alike);
            }
            return most;
        }
    }
}
