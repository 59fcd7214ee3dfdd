import java.lang.reflect.Method;
import java.util.ArrayList;
import java.util.Arrays;
import java.util.List;
import java.util.Random;

/** Long runs of calls, drawn from fixed seeds, on HeadHill and on the Model: every answer must be the same. */
public final class ModelTest {
    private static final int RUNS = 400;
    private static final int CALLS = 512;
    private static final String[] NAMES = {"feed", "end", "hill", "rule", "force", "runner", "ware", "day", "lend",
        "fall", "shift", "train", "undo", "ahead", "gets", "rank", "need", "lender", "row", "settle", "rings",
        "had", "rests", "pence", "note", "ruled", "look", "seed", "falls", "count", "image", "back"};
    private static final int[] EDGES = {Integer.MIN_VALUE, -1001, -1000, -100, -21, -20, -3, -2, -1, 0, 1, 2, 3, 4, 5,
        6, 9, 10, 11, 12, 20, 21, 40, 41, 50, 60, 61, 99, 100, 101, 400, 401, 999, 1000, 9999, 10000,
        Integer.MAX_VALUE};

    private final Random random;
    private final HeadHill mine = new HeadHill();
    private final Model model = new Model();
    private final Texts texts;
    private final Method[] ofMine = new Method[NAMES.length];
    private final Method[] ofModel = new Method[NAMES.length];
    private final List<String> calls = new ArrayList<>();
    private boolean wrong = false;

    private ModelTest(long seed) throws Exception {
        random = new Random(seed);
        texts = new Texts(random);
        for (int i = 0; i < NAMES.length; i++) {
            ofMine[i] = find(HeadHill.class, NAMES[i]);
            ofModel[i] = find(Model.class, NAMES[i]);
        }
    }

    private static Method find(Class<?> type, String name) {
        for (Method method : type.getDeclaredMethods()) {
            if (method.getName().equals(name) && !java.lang.reflect.Modifier.isPrivate(method.getModifiers())) {
                return method;
            }
        }
        throw new IllegalStateException(name);
    }

    private int call(String name, int... arguments) throws Exception {
        int which = Arrays.asList(NAMES).indexOf(name);
        Object[] boxed = Arrays.stream(arguments).boxed().toArray();
        int got = (Integer) ofMine[which].invoke(mine, boxed);
        int want = (Integer) ofModel[which].invoke(model, boxed);
        calls.add(name + Arrays.toString(arguments) + " = " + got);
        if (got != want && !wrong) {
            wrong = true;
            System.out.println(String.join("\n", calls));
            System.out.println("due is " + want);
        }
        return got;
    }

    private int tell(String text, String as) throws Exception {
        calls.add("text: " + text);
        call("end", 0);
        for (int from = 0; from < text.length(); from += 20) {
            int[] five = Checks.twentyBytes(text, from);
            call("feed", five);
        }
        call("end", text.length());
        return call(as);
    }

    private int small() {
        return random.nextInt(7) - 1;
    }

    private int any(int least, int most) {
        return random.nextInt(12) == 0 ? EDGES[random.nextInt(EDGES.length)] : least + random.nextInt(most - least + 1);
    }

    private void run() throws Exception {
        if (random.nextInt(10) != 0) {
            tell(texts.hill(), "hill");
        }
        for (int i = random.nextInt(4); i > 0; i--) {
            tell(texts.rule(), "rule");
        }
        call("force", random.nextInt(4) - 1);
        while (calls.size() < CALLS && !wrong) {
            step();
        }
    }

    private void step() throws Exception {
        int kind = random.nextInt(100);
        if (kind < 15) {
            call("day");
        } else if (kind < 35) {
            act();
        } else if (kind < 75) {
            ask();
        } else if (kind < 92) {
            keep();
        } else if (kind < 93) {
            tell(texts.spoilt(texts.hill()), "hill");
        } else if (kind < 95) {
            tell(texts.spoilt(texts.rule()), "rule");
        } else if (random.nextInt(3) == 0) {
            tell(texts.hill(), "hill");
        } else {
            tell(texts.rule(), "rule");
        }
    }

    private void act() throws Exception {
        switch (random.nextInt(5)) {
            case 0 -> call("lend", small(), small(), any(1, 20));
            case 1 -> call("fall", small());
            case 2 -> call("shift", small(), any(1, 99));
            case 3 -> call("train", small(), any(1, 20));
            default -> call("undo");
        }
    }

    private void ask() throws Exception {
        switch (random.nextInt(18)) {
            case 0 -> call("ahead", small(), any(0, 100), any(0, 2));
            case 1 -> call("gets", small(), any(0, 1));
            case 2 -> call("rank", small(), any(1, 99));
            case 3 -> call("need", small(), any(1, 60), any(1, 200));
            case 4 -> call("lender", small(), any(1, 60), any(0, 1));
            case 5 -> call("row", small(), any(1, 3), any(0, 3));
            case 6 -> call("settle");
            case 7 -> call("rings", any(0, 1));
            case 8 -> call("had", small(), any(1, 20), small(), any(0, 1));
            case 9 -> call("rests", small(), small(), any(0, 2));
            case 10 -> call("pence", any(0, 9999), small());
            case 11 -> call("ruled", any(0, 1));
            case 12 -> call("look", any(0, 60), any(0, 1));
            case 13 -> call("falls", any(1, 10), any(1, 60), any(0, 100), any(0, 1));
            case 14 -> call("runner", small(), any(0, 2));
            case 15 -> call("ware", small(), any(0, 4));
            default -> call("count", any(0, 11));
        }
    }

    private void keep() throws Exception {
        switch (random.nextInt(7)) {
            case 0 -> call("image", any(0, 3));
            case 1 -> call("back", any(0, 3));
            case 2 -> call("seed", random.nextBoolean() ? any(0, 1000) : random.nextInt() & Integer.MAX_VALUE);
            case 3, 4 -> writeNote();
            case 5 -> call("force", small());
            default -> call("count", any(0, 11));
        }
    }

    /** Half of the NOTES are what the Model says of one of the RULES, so that some fit. */
    private void writeNote() throws Exception {
        if (random.nextInt(6) == 0) {
            call("note", -1, small(), small());
        } else if (random.nextBoolean()) {
            call("note", any(0, 60), small(), small());
        } else {
            int ware = random.nextInt(6);
            int day = call("count", 5);
            int got = call("ware", ware, 4);
            call("note", day - 1, ware, got);
        }
    }

    public static void main(String[] args) throws Exception {
        Checks checks = new Checks();
        int runs = args.length > 0 ? Integer.parseInt(args[0]) : RUNS;
        long first = args.length > 1 ? Long.parseLong(args[1]) : 1;
        for (long seed = first; seed < first + runs; seed++) {
            ModelTest test = new ModelTest(seed);
            test.run();
            checks.holds("run of seed " + seed, !test.wrong);
        }
        checks.finish("ModelTest");
    }
}
