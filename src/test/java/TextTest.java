import java.util.Random;

/** Drawn texts, whole and spoilt, read by HeadHill and by the Model: the same numbers and the same FAULTS. */
public final class TextTest {
    private static final int TEXTS = 60000;

    public static void main(String[] args) {
        Checks checks = new Checks();
        Random random = new Random(args.length > 0 ? Long.parseLong(args[0]) : 7);
        Texts texts = new Texts(random);
        int[] kinds = new int[5];
        int sound = 0;
        for (int i = 0; i < TEXTS; i++) {
            boolean isHill = random.nextInt(3) == 0;
            String text = isHill ? texts.hill() : texts.rule();
            text = random.nextInt(5) == 0 ? text : texts.spoilt(text);
            int got = tellMine(text, isHill);
            checks.due("text '" + text + "'", got, tellModel(text, isHill));
            if (got < -2) {
                kinds[(-3 - got) % 8]++;
            } else {
                sound++;
            }
        }
        for (int kind = 0; kind < 5; kind++) {
            checks.holds("FAULTS " + kind + " were among them: " + kinds[kind], kinds[kind] > 100);
        }
        checks.holds("texts without one were among them", sound > 1000);
        checks.finish("TextTest");
    }

    private static int tellMine(String text, boolean isHill) {
        HeadHill x = new HeadHill();
        return isHill ? Checks.hill(x, text) : Checks.rule(x, text);
    }

    private static int tellModel(String text, boolean isHill) {
        Model x = new Model();
        for (int from = 0; from < text.length(); from += 20) {
            int[] five = Checks.twentyBytes(text, from);
            x.feed(five[0], five[1], five[2], five[3], five[4]);
        }
        x.end(text.length());
        return isHill ? x.hill() : x.rule();
    }
}
