import java.util.ArrayDeque;
import java.util.ArrayList;
import java.util.Arrays;
import java.util.Deque;
import java.util.HashMap;
import java.util.List;
import java.util.Map;
import java.util.TreeMap;

/**
 * The document told a second time, slowly and with other means: texts by recursive descent and exceptions, RULES as
 * trees, DAYS on copies, times as whole numbers. ModelTest holds HeadHill against it.
 */
final class Model {
    /** A multiple of every SPEED, so that FAR / SPEED is whole. */
    private static final long UNIT = 232792560L;
    private static final String[] WORDS = {"runner", "ware", "speed", "purse", "far", "worth", "rivals", "time",
        "lead", "wealth", "feast", "day"};

    private final StringBuilder tape = new StringBuilder();
    private final List<RuleText> rules = new ArrayList<>();
    private Town town = new Town();
    private final Map<Integer, Town> images = new HashMap<>();

    // ---- texts

    private static final class Fault extends Exception {
        private static final long serialVersionUID = 1L;

        final int number;

        Fault(int place, int kind) {
            number = 1 + 8 * place + kind;
        }
    }

    private interface Sum {
        long of(Map<String, Long> words);
    }

    private record Clause(Sum sum, Sum test) {
    }

    private static final class RuleText {
        final List<Clause> clauses = new ArrayList<>();
    }

    private static final class HillText {
        int feast;
        final List<int[]> runners = new ArrayList<>();
        final List<int[]> wares = new ArrayList<>();
    }

    private static final class Parser {
        final String text;
        int place = 0;
        int parts = 0;

        Parser(String text) {
            this.text = text;
        }

        char peek() {
            while (place < text.length() && text.charAt(place) == ' ') {
                place++;
            }
            return place < text.length() ? text.charAt(place) : '\0';
        }

        boolean atEnd() {
            peek();
            return place >= text.length();
        }

        String peekWord() {
            peek();
            int end = place;
            while (end < text.length() && text.charAt(end) >= 'a' && text.charAt(end) <= 'z') {
                end++;
            }
            return text.substring(place, end);
        }

        boolean take(String word) {
            if (!peekWord().equals(word)) {
                return false;
            }
            place += word.length();
            return true;
        }

        Fault unfit() {
            peek();
            return new Fault(place, 0);
        }

        int number(int least, int most) throws Fault {
            peek();
            int end = place;
            while (end < text.length() && text.charAt(end) >= '0' && text.charAt(end) <= '9') {
                end++;
            }
            if (end == place) {
                throw unfit();
            }
            String digits = text.substring(place, end);
            if (digits.length() > 5 || Integer.parseInt(digits) < least || Integer.parseInt(digits) > most) {
                throw new Fault(place, 1);
            }
            place = end;
            return Integer.parseInt(digits);
        }

        HillText hill() throws Fault {
            HillText hill = new HillText();
            for (int n = 0; ; n++) {
                String word = peekWord();
                int at = place;
                if (!List.of("hill", "runner", "ware").contains(word)) {
                    throw new Fault(at, 0);
                }
                boolean wrong = n >= 40 || word.equals("hill") != (n == 0)
                        || word.equals("runner") && hill.runners.size() == 5
                        || word.equals("ware") && hill.wares.size() == 6;
                if (wrong) {
                    throw new Fault(at, 4);
                }
                place += word.length();
                switch (word) {
                    case "hill" -> hill.feast = number(1, 60);
                    case "runner" -> hill.runners.add(new int[] {number(1, 20), number(0, 40)});
                    default -> hill.wares.add(new int[] {number(1, 99), number(1, 50), number(1, 9)});
                }
                if (atEnd()) {
                    return hill;
                }
                if (peek() != ';') {
                    throw unfit();
                }
                place++;
            }
        }

        RuleText rule() throws Fault {
            RuleText rule = new RuleText();
            for (int n = 0; ; n++) {
                peek();
                int at = place;
                if (!take("run")) {
                    throw unfit();
                }
                if (n == 12) {
                    throw new Fault(at, 4);
                }
                Sum sum = sum();
                Sum test = take("if") ? test(0) : null;
                rule.clauses.add(new Clause(sum, test));
                if (atEnd()) {
                    return rule;
                }
                if (peek() != ';') {
                    throw unfit();
                }
                place++;
            }
        }

        Sum test(int depth) throws Fault {
            Sum left = part(depth);
            while (take("or")) {
                Sum a = left;
                Sum b = part(depth);
                left = w -> a.of(w) != 0 || b.of(w) != 0 ? 1 : 0;
            }
            return left;
        }

        Sum part(int depth) throws Fault {
            Sum left = fact(depth);
            while (take("and")) {
                Sum a = left;
                Sum b = fact(depth);
                left = w -> a.of(w) != 0 && b.of(w) != 0 ? 1 : 0;
            }
            return left;
        }

        Sum fact(int depth) throws Fault {
            char first = peek();
            int at = place;
            if (first == '[' || peekWord().equals("not")) {
                if (depth == 10) {
                    throw new Fault(at, 2);
                }
                if (take("not")) {
                    Sum inner = fact(depth + 1);
                    return w -> inner.of(w) == 0 ? 1 : 0;
                }
                place++;
                Sum inner = test(depth + 1);
                if (peek() != ']') {
                    throw unfit();
                }
                place++;
                return inner;
            }
            return comparison();
        }

        Sum comparison() throws Fault {
            Sum a = sum();
            peek();
            int at = place;
            String rest = text.substring(place);
            String sign = null;
            for (String s : List.of("<=", ">=", "<", ">", "=")) {
                if (sign == null && rest.startsWith(s)) {
                    sign = s;
                }
            }
            if (sign == null) {
                throw unfit();
            }
            place += sign.length();
            countPart(at);
            Sum b = sum();
            return switch (sign) {
                case "<=" -> w -> a.of(w) <= b.of(w) ? 1 : 0;
                case ">=" -> w -> a.of(w) >= b.of(w) ? 1 : 0;
                case "<" -> w -> a.of(w) < b.of(w) ? 1 : 0;
                case ">" -> w -> a.of(w) > b.of(w) ? 1 : 0;
                default -> w -> a.of(w) == b.of(w) ? 1 : 0;
            };
        }

        Sum sum() throws Fault {
            Sum left = term();
            while (peek() == '+' || peek() == '-') {
                boolean plus = text.charAt(place++) == '+';
                Sum a = left;
                Sum b = term();
                left = plus ? w -> a.of(w) + b.of(w) : w -> a.of(w) - b.of(w);
            }
            return left;
        }

        Sum term() throws Fault {
            Sum left = value();
            while (peek() == '*' || peek() == '/' || peek() == '%') {
                char sign = text.charAt(place++);
                Sum a = left;
                Sum b = value();
                left = switch (sign) {
                    case '*' -> w -> a.of(w) * b.of(w);
                    case '/' -> w -> b.of(w) == 0 ? 0 : a.of(w) / b.of(w);
                    default -> w -> b.of(w) == 0 ? 0 : a.of(w) % b.of(w);
                };
            }
            return left;
        }

        Sum value() throws Fault {
            char first = peek();
            int at = place;
            if (first >= '0' && first <= '9') {
                long number = number(0, 99999);
                countPart(at);
                return w -> number;
            }
            String word = peekWord();
            if (!Arrays.asList(WORDS).contains(word)) {
                throw unfit();
            }
            countPart(at);
            place += word.length();
            return w -> w.get(word);
        }

        void countPart(int at) throws Fault {
            if (++parts > 60) {
                throw new Fault(at, 3);
            }
        }
    }

    // ---- the town

    private record Note(int day, int ware, int runner) {
    }

    private static final class Town {
        HillText hill = null;
        int force = -1;
        int x = 0;
        Moment now = new Moment();
        Deque<Moment> undo = new ArrayDeque<>();
        List<Note> notes = new ArrayList<>();

        Town copy() {
            Town t = new Town();
            t.hill = hill;
            t.force = force;
            t.x = x;
            t.now = now.copy();
            t.undo = new ArrayDeque<>(undo);
            t.notes = new ArrayList<>(notes);
            return t;
        }
    }

    private static final class Moment {
        int day = 0;
        int[] speed = {};
        int[] purse = {};
        int[] wealth = {};
        int[] far = {};
        int[] got = {};

        Moment copy() {
            Moment m = new Moment();
            m.day = day;
            m.speed = speed.clone();
            m.purse = purse.clone();
            m.wealth = wealth.clone();
            m.far = far.clone();
            m.got = got.clone();
            return m;
        }
    }

    private static Moment begin(HillText hill) {
        Moment m = new Moment();
        m.speed = hill.runners.stream().mapToInt(r -> r[0]).toArray();
        m.purse = hill.runners.stream().mapToInt(r -> r[1]).toArray();
        m.wealth = new int[m.speed.length];
        m.far = hill.wares.stream().mapToInt(w -> w[0]).toArray();
        m.got = hill.wares.stream().mapToInt(w -> -1).toArray();
        return m;
    }

    private static boolean isThere(HillText hill, int ware, int day) {
        return day % hill.wares.get(ware)[2] == 0;
    }

    private static long time(Moment m, int r, int far) {
        return far * (UNIT / m.speed[r]) - m.purse[r] * UNIT;
    }

    private static boolean isSooner(Moment m, int a, int b, int far) {
        return time(m, a, far) != time(m, b, far) ? time(m, a, far) < time(m, b, far) : a < b;
    }

    private static long sumOf(RuleText rule, Map<String, Long> words) {
        for (Clause c : rule.clauses) {
            if (c.test == null || c.test.of(words) != 0) {
                return c.sum.of(words);
            }
        }
        return 0;
    }

    private static int choice(HillText hill, Moment m, RuleText rule, int r, List<Integer> aims) {
        TreeMap<Long, Integer> bySum = new TreeMap<>();
        for (int w = hill.wares.size() - 1; w >= 0; w--) {
            if (isThere(hill, w, m.day)) {
                long sum = rule == null ? hill.wares.get(w)[1] : sumOf(rule, wordsOf(hill, m, r, w, aims));
                bySum.put(sum, w);
            }
        }
        return bySum.isEmpty() || bySum.lastKey() <= 0 ? -1 : bySum.lastEntry().getValue();
    }

    private static Map<String, Long> wordsOf(HillText hill, Moment m, int r, int w, List<Integer> aims) {
        long lead = 0;
        int[] others = new int[m.purse.length - 1];
        for (int o = 0, i = 0; o < m.purse.length; o++) {
            if (o != r) {
                others[i++] = m.purse[o];
            }
        }
        if (others.length > 0) {
            lead = m.purse[r] - Arrays.stream(others).max().getAsInt();
        }
        long feast = 0;
        while ((m.day + feast) % hill.feast != hill.feast - 1) {
            feast++;
        }
        long rivals = aims.stream().filter(a -> a == w).count();
        long[] values = {r, w, m.speed[r], m.purse[r], m.far[w], hill.wares.get(w)[1], rivals,
            m.far[w] / m.speed[r], lead, m.wealth[r], feast, m.day};
        Map<String, Long> words = new HashMap<>();
        for (int i = 0; i < WORDS.length; i++) {
            words.put(WORDS[i], values[i]);
        }
        return words;
    }

    /** The Moment after a DAY; whoever the map names runs for what it says. */
    private static Moment after(HillText hill, Moment before, RuleText rule, Map<Integer, Integer> told) {
        Moment m = before.copy();
        List<Integer> aims = new ArrayList<>();
        for (int r = 0; r < m.purse.length; r++) {
            aims.add(told.containsKey(r) ? told.get(r) : choice(hill, before, rule, r, aims));
        }
        for (int w = 0; w < m.far.length; w++) {
            m.got[w] = -1;
            for (int r = 0; r < aims.size(); r++) {
                if (aims.get(r) == w && (m.got[w] < 0 || isSooner(before, r, m.got[w], before.far[w]))) {
                    m.got[w] = r;
                }
            }
            int g = m.got[w];
            if (g >= 0) {
                m.wealth[g] = Math.min(9999, m.wealth[g] + hill.wares.get(w)[1]);
                for (int r = 0; r < aims.size(); r++) {
                    if (r != g && aims.get(r) == w && m.purse[g] > -99 && m.purse[r] < 99) {
                        m.purse[g]--;
                        m.purse[r]++;
                    }
                }
            }
        }
        if (m.day % hill.feast == hill.feast - 1) {
            Arrays.fill(m.purse, 0);
        }
        m.day++;
        return m;
    }

    private Moment after(Moment from, int days) {
        Moment m = from;
        for (int i = 0; i < days; i++) {
            m = after(town.hill, m, inForce(), Map.of());
        }
        return m;
    }

    private RuleText inForce() {
        return town.force < 0 ? null : rules.get(town.force);
    }

    private boolean isRunner(int r) {
        return town.hill != null && r >= 0 && r < town.now.purse.length;
    }

    private boolean isWare(int w) {
        return town.hill != null && w >= 0 && w < town.now.far.length;
    }

    private static boolean in(int n, int least, int most) {
        return n >= least && n <= most;
    }

    private void act(Moment then) {
        town.undo.addLast(town.now);
        if (town.undo.size() > 20) {
            town.undo.removeFirst();
        }
        town.now = then;
    }

    // ---- the face

    int feed(int a, int b, int c, int d, int e) {
        if (tape.length() > 380) {
            return -1;
        }
        for (int n : new int[] {a, b, c, d, e}) {
            for (byte one : java.nio.ByteBuffer.allocate(4).putInt(n).array()) {
                tape.append((char) (one & 255));
            }
        }
        return tape.length();
    }

    int end(int n) {
        if (!in(n, 0, tape.length())) {
            return -1;
        }
        tape.setLength(n);
        return n;
    }

    int hill() {
        try {
            HillText hill = new Parser(tape.toString()).hill();
            town.hill = hill;
            town.now = begin(hill);
            town.undo.clear();
            town.notes.clear();
            return hill.runners.size();
        } catch (Fault f) {
            return -2 - f.number;
        } finally {
            tape.setLength(0);
        }
    }

    int rule() {
        if (rules.size() == 6) {
            return -1;
        }
        try {
            rules.add(new Parser(tape.toString()).rule());
            return rules.size() - 1;
        } catch (Fault f) {
            return -2 - f.number;
        } finally {
            tape.setLength(0);
        }
    }

    int force(int rule) {
        if (!in(rule, -1, rules.size() - 1)) {
            return -2;
        }
        int was = town.force;
        town.force = rule;
        return was;
    }

    int runner(int r, int what) {
        if (!isRunner(r) || !in(what, 0, 2)) {
            return -1000;
        }
        return new int[][] {town.now.speed, town.now.purse, town.now.wealth}[what][r];
    }

    int ware(int w, int what) {
        if (!isWare(w) || !in(what, 0, 4)) {
            return -2;
        }
        int[] told = town.hill.wares.get(w);
        return new int[] {town.now.far[w], told[1], told[2], isThere(town.hill, w, town.now.day) ? 1 : 0,
            town.now.got[w]}[what];
    }

    int day() {
        if (town.hill == null || town.now.day == 999) {
            return -1;
        }
        act(after(town.now, 1));
        int bits = 0;
        for (int w = 0; w < town.now.got.length; w++) {
            bits += town.now.got[w] >= 0 ? 1 << w : 0;
        }
        return bits;
    }

    private boolean canLend(int from, int to, int seconds) {
        return town.now.purse[from] - seconds >= -99 && town.now.purse[to] + seconds <= 99;
    }

    int lend(int from, int to, int seconds) {
        if (!isRunner(from) || !isRunner(to) || from == to || !in(seconds, 1, 20) || !canLend(from, to, seconds)) {
            return -1000;
        }
        Moment m = town.now.copy();
        m.purse[from] -= seconds;
        m.purse[to] += seconds;
        act(m);
        return m.purse[from];
    }

    int fall(int r) {
        if (!isRunner(r) || town.now.purse[r] == 0) {
            return -1000;
        }
        Moment m = town.now.copy();
        m.purse[r] = 0;
        int was = town.now.purse[r];
        act(m);
        return was;
    }

    int shift(int w, int far) {
        if (!isWare(w) || !in(far, 1, 99) || town.now.far[w] == far) {
            return -1;
        }
        Moment m = town.now.copy();
        m.far[w] = far;
        int was = town.now.far[w];
        act(m);
        return was;
    }

    int train(int r, int speed) {
        if (!isRunner(r) || !in(speed, 1, 20) || town.now.speed[r] == speed) {
            return -1;
        }
        Moment m = town.now.copy();
        m.speed[r] = speed;
        int was = town.now.speed[r];
        act(m);
        return was;
    }

    int undo() {
        if (town.undo.isEmpty()) {
            return -2;
        }
        town.now = town.undo.removeLast();
        return town.undo.size();
    }

    int ahead(int number, int n, int what) {
        if (!in(n, 0, 100) || !in(what, 0, 2) || !(what == 2 ? isWare(number) : isRunner(number))) {
            return -1000;
        }
        Moment m = after(town.now, n);
        return new int[][] {m.purse, m.wealth, m.got}[what][number];
    }

    int gets(int r, int what) {
        if (!isRunner(r) || !in(what, 0, 1)) {
            return -1;
        }
        Moment m = town.now;
        for (int i = 0; i < 100; i++) {
            m = after(m, 1);
            for (int w = 0; w < m.got.length; w++) {
                if (m.got[w] == r) {
                    return what == 0 ? town.now.day + i : w;
                }
            }
        }
        return -2;
    }

    int rank(int r, int far) {
        if (!isRunner(r) || !in(far, 1, 99)) {
            return -1;
        }
        List<Integer> order = new ArrayList<>();
        for (int o = 0; o < town.now.purse.length; o++) {
            order.add(o);
        }
        order.sort((a, b) -> Long.compare(time(town.now, a, far), time(town.now, b, far)));
        return order.indexOf(r);
    }

    private Moment withPurse(int r, int purse) {
        Moment m = town.now.copy();
        m.purse[r] = purse;
        return m;
    }

    int need(int r, int n, int wealth) {
        if (!isRunner(r) || !in(n, 1, 60) || !in(wealth, 1, 9999)) {
            return -1;
        }
        for (int k = 0; k <= 60; k++) {
            int purse = town.now.purse[r] + k;
            if (purse <= 99 && after(withPurse(r, purse), n).wealth[r] >= wealth) {
                return k;
            }
        }
        return -2;
    }

    int lender(int r, int n, int what) {
        if (!isRunner(r) || !in(n, 1, 60) || !in(what, 0, 1)) {
            return -2;
        }
        int who = -1;
        int most = after(town.now, n).wealth[r];
        for (int o = 0; o < town.now.purse.length; o++) {
            if (o != r && canLend(o, r, 3)) {
                Moment m = withPurse(r, town.now.purse[r] + 3);
                m.purse[o] -= 3;
                int then = after(m, n).wealth[r];
                if (then > most) {
                    who = o;
                    most = then;
                }
            }
        }
        return what == 0 ? who : most;
    }

    private List<Integer> options(int day) {
        List<Integer> options = new ArrayList<>(List.of(-1));
        for (int w = 0; w < town.now.far.length; w++) {
            if (isThere(town.hill, w, day)) {
                options.add(w);
            }
        }
        return options;
    }

    int row(int r, int n, int what) {
        if (!isRunner(r) || !in(n, 1, 3) || !in(what, 0, 3)) {
            return -3;
        }
        List<List<Integer>> rows = new ArrayList<>(List.of(List.of()));
        List<Moment> ends = new ArrayList<>(List.of(town.now));
        for (int i = 0; i < n; i++) {
            List<List<Integer>> longer = new ArrayList<>();
            List<Moment> later = new ArrayList<>();
            for (int j = 0; j < rows.size(); j++) {
                for (int option : options(town.now.day + i)) {
                    List<Integer> row = new ArrayList<>(rows.get(j));
                    row.add(option);
                    longer.add(row);
                    later.add(after(town.hill, ends.get(j), inForce(), Map.of(r, option)));
                }
            }
            rows = longer;
            ends = later;
        }
        int best = 0;
        for (int j = 1; j < rows.size(); j++) {
            if (ends.get(j).wealth[r] > ends.get(best).wealth[r]) {
                best = j;
            }
        }
        if (what == 0) {
            return ends.get(best).wealth[r];
        }
        return what > n ? -2 : rows.get(best).get(what - 1);
    }

    private static int goes(int[] purse, int from) {
        int i = from;
        while (i < purse.length && purse[i] == 0) {
            i++;
        }
        if (i == purse.length) {
            return 0;
        }
        int best = 99;
        for (int j = i + 1; j < purse.length; j++) {
            if ((long) purse[i] * purse[j] < 0) {
                int[] next = purse.clone();
                next[j] += next[i];
                next[i] = 0;
                best = Math.min(best, 1 + goes(next, i + 1));
            }
        }
        return best;
    }

    int settle() {
        if (town.hill == null) {
            return -1;
        }
        return Arrays.stream(town.now.purse).sum() != 0 ? -2 : goes(town.now.purse, 0);
    }

    int rings(int what) {
        if (town.hill == null || !in(what, 0, 1)) {
            return -1;
        }
        int count = 0;
        int best = 0;
        for (int set = 1; set < 1 << town.now.purse.length; set++) {
            int sum = 0;
            for (int r = 0; r < town.now.purse.length; r++) {
                sum += (set & 1 << r) != 0 ? town.now.purse[r] : 0;
            }
            if (sum == 0) {
                count++;
                best = Integer.bitCount(set) > Integer.bitCount(best) ? set : best;
            }
        }
        return what == 0 ? count : best;
    }

    int had(int r, int n, int w, int what) {
        if (!isRunner(r) || !isWare(w) || !in(n, 1, 20) || !in(what, 0, 1)) {
            return -1001;
        }
        int count = 0;
        int least = -1000;
        for (int p = 40; p >= -20; p--) {
            if (after(withPurse(r, p), n).got[w] == r) {
                count++;
                least = p;
            }
        }
        return what == 0 ? count : least;
    }

    private int worthTo(int r, Map<Integer, Integer> told) {
        Moment m = after(town.hill, town.now, inForce(), told);
        return 2 * (m.wealth[r] - town.now.wealth[r]) + m.purse[r];
    }

    int rests(int one, int other, int what) {
        if (!isRunner(one) || !isRunner(other) || one == other || !in(what, 0, 2)) {
            return -3;
        }
        List<Integer> options = options(town.now.day);
        int count = 0;
        int[] first = {-2, -2};
        for (int a : options) {
            for (int b : options) {
                int ones = worthTo(one, Map.of(one, a, other, b));
                int others = worthTo(other, Map.of(one, a, other, b));
                boolean rest = options.stream().allMatch(o -> worthTo(one, Map.of(one, o, other, b)) <= ones
                        && worthTo(other, Map.of(one, a, other, o)) <= others);
                if (rest) {
                    count++;
                    first = count == 1 ? new int[] {a, b} : first;
                }
            }
        }
        return what == 0 ? count : first[what - 1];
    }

    int pence(int much, int r) {
        if (!isRunner(r) || !in(much, 0, 9999)) {
            return -1;
        }
        int[] wealth = town.now.wealth;
        int all = Arrays.stream(wealth).sum();
        if (all == 0) {
            return 0;
        }
        int[] part = new int[wealth.length];
        List<Integer> order = new ArrayList<>();
        int left = much;
        for (int i = 0; i < wealth.length; i++) {
            part[i] = much * wealth[i] / all;
            left -= part[i];
            order.add(i);
        }
        order.sort((a, b) -> Integer.compare(much * wealth[b] - part[b] * all, much * wealth[a] - part[a] * all));
        for (int i = 0; i < left; i++) {
            part[order.get(i)]++;
        }
        return part[r];
    }

    int note(int n, int w, int r) {
        if (n == -1) {
            town.notes.clear();
            return 0;
        }
        if (!in(n, 0, 60) || !isWare(w) || !(r == -1 || isRunner(r)) || town.notes.size() == 10) {
            return -2;
        }
        town.notes.add(new Note(n, w, r));
        return town.notes.size();
    }

    /** All Moments after DAYS 0 to 60, from the text on, by a RULE. */
    private List<Moment> story(int rule) {
        List<Moment> story = new ArrayList<>();
        Moment m = begin(town.hill);
        for (int d = 0; d <= 60; d++) {
            m = after(town.hill, m, rule < 0 ? null : rules.get(rule), Map.of());
            story.add(m);
        }
        return story;
    }

    private Map<Integer, List<Moment>> fitting() {
        Map<Integer, List<Moment>> fitting = new TreeMap<>();
        for (int rule = -1; rule < rules.size(); rule++) {
            List<Moment> story = story(rule);
            if (town.notes.stream().allMatch(n -> story.get(n.day).got[n.ware] == n.runner)) {
                fitting.put(rule, story);
            }
        }
        return fitting;
    }

    int ruled(int what) {
        if (town.hill == null || !in(what, 0, 1)) {
            return -3;
        }
        Map<Integer, List<Moment>> fitting = fitting();
        if (what == 0) {
            return fitting.size();
        }
        return fitting.isEmpty() ? -2 : fitting.keySet().iterator().next();
    }

    int look(int n, int what) {
        if (town.hill == null || !in(n, 0, 60) || !in(what, 0, 1)) {
            return -1;
        }
        Map<Integer, List<Moment>> fitting = fitting();
        if (fitting.isEmpty() || town.now.far.length == 0) {
            return -2;
        }
        int best = -1;
        int fewest = 99;
        for (int w = 0; w < town.now.far.length; w++) {
            Map<Integer, Integer> groups = new HashMap<>();
            for (List<Moment> story : fitting.values()) {
                groups.merge(story.get(n).got[w], 1, Integer::sum);
            }
            int most = groups.values().stream().max(Integer::compare).get();
            if (most < fewest) {
                fewest = most;
                best = w;
            }
        }
        return what == 0 ? best : fewest;
    }

    int seed(int x) {
        if (x < 0) {
            return -1;
        }
        int was = town.x;
        town.x = x;
        return was;
    }

    int falls(int m, int n, int p, int what) {
        if (town.hill == null || !in(m, 1, 10) || !in(n, 1, 60) || !in(p, 0, 100) || !in(what, 0, 1)) {
            return -1;
        }
        long x = town.x;
        int gained = 0;
        int purses = 0;
        for (int i = 0; i < m; i++) {
            Moment t = town.now.copy();
            for (int d = 0; d < n; d++) {
                x = (x * 1103515245L + 12345L) % 2147483648L;
                if (x / 65536 % 100 < p && t.purse.length > 0) {
                    x = (x * 1103515245L + 12345L) % 2147483648L;
                    t.purse[(int) (x / 65536 % t.purse.length)] = 0;
                }
                t = after(t, 1);
            }
            gained += Arrays.stream(t.wealth).sum() - Arrays.stream(town.now.wealth).sum();
            purses += Math.max(0, Arrays.stream(t.purse).max().orElse(0));
        }
        return what == 0 ? gained : purses;
    }

    int count(int what) {
        int there = 0;
        for (int w = 0; w < town.now.far.length; w++) {
            there |= isThere(town.hill, w, town.now.day) ? 1 << w : 0;
        }
        int[] all = {town.hill == null ? 0 : town.hill.feast, town.now.purse.length, town.now.far.length,
            rules.size(), town.force, town.now.day, Arrays.stream(town.now.wealth).sum(), there,
            town.notes.size(), town.undo.size(), town.x, tape.length()};
        return in(what, 0, 11) ? all[what] : -1;
    }

    int image(int k) {
        if (!in(k, 0, 3)) {
            return -1;
        }
        images.put(k, town.copy());
        return town.now.day;
    }

    int back(int k) {
        if (!images.containsKey(k)) {
            return -1;
        }
        town = images.get(k).copy();
        return town.now.day;
    }
}
