import java.lang.reflect.Method;
import java.util.Arrays;
import java.util.Comparator;
import java.util.List;

/**
 * Tests of one edge each. A test is a method whose name begins with its promise's number; it quotes the words of the
 * document that it holds the class to, and every line that it prints names both.
 */
abstract class Edges {
    static final int MIN = Integer.MIN_VALUE;
    static final int MAX = Integer.MAX_VALUE;
    static final int UNFIT = 0;
    static final int NUMBER = 1;
    static final int DEEP = 2;
    static final int PART = 3;
    static final int CLAUSE = 4;

    interface Call {
        int on(HeadHill x);
    }

    interface Maker {
        HeadHill make();
    }

    private final Checks checks;
    private final Document document;
    private int promise = 0;
    private String words = "";

    Edges(Checks checks, Document document) {
        this.checks = checks;
        this.document = document;
    }

    final void run() throws Exception {
        Method[] methods = getClass().getDeclaredMethods();
        Arrays.sort(methods, Comparator.comparing(Method::getName));
        for (Method method : methods) {
            if (method.getName().matches("promise\\d\\d\\w+")) {
                promise = Integer.parseInt(method.getName().substring(7, 9));
                words = "";
                method.invoke(this);
                checks.holds(method.getName() + " quotes the document", !words.isEmpty());
                document.isTested(promise);
            }
        }
    }

    /** From here on the test is about these words of the document. */
    final void says(String ofDocument) {
        words = ofDocument;
        checks.holds("promise " + promise + ": the document has '" + ofDocument + "'", document.quote(ofDocument));
    }

    final void due(String what, long got, long want) {
        checks.due("promise " + promise + ", '" + words + "': " + what, got, want);
    }

    final void holds(String what, boolean is) {
        due(what, is ? 1 : 0, 1);
    }

    /** A call is refused with this answer, and nothing that can be seen of the object is otherwise by it. */
    final void refused(String what, Maker maker, Call call, int want) {
        HeadHill called = maker.make();
        due(what, call.on(called), want);
        sameAs(what, called, maker.make());
    }

    /** A call is taken, and all the same nothing is otherwise by it. */
    final void changesNothing(String what, Maker maker, Call call) {
        HeadHill called = maker.make();
        call.on(called);
        sameAs(what, called, maker.make());
    }

    /** Both end: they are asked and undone to the last. */
    final void sameAs(String what, HeadHill one, HeadHill other) {
        List<String> ones = Scenes.seen(one);
        List<String> others = Scenes.seen(other);
        holds(what + ": as much is seen", ones.size() == others.size());
        for (int i = 0; i < ones.size() && i < others.size(); i++) {
            if (!ones.get(i).equals(others.get(i))) {
                due(what + ": " + ones.get(i) + " where it was " + others.get(i), 0, 1);
                return;
            }
        }
    }

    static int fault(int place, int kind) {
        return -2 - (1 + 8 * place + kind);
    }

    final void hillIs(String text, int want) {
        due("hill '" + text + "'", Checks.hill(new HeadHill(), text), want);
    }

    final void hillFault(String text, int place, int kind) {
        hillIs(text, fault(place, kind));
    }

    final void ruleIs(String text, int want) {
        due("rule '" + text + "'", Checks.rule(new HeadHill(), text), want);
    }

    final void ruleFault(String text, int place, int kind) {
        ruleIs(text, fault(place, kind));
    }

    final void purses(String when, HeadHill x, int... want) {
        for (int r = 0; r < want.length; r++) {
            due("purse of " + r + " " + when, x.runner(r, 1), want[r]);
        }
    }

    final void wealth(String when, HeadHill x, int... want) {
        for (int r = 0; r < want.length; r++) {
            due("wealth of " + r + " " + when, x.runner(r, 2), want[r]);
        }
    }

    /** With a RULE told and IN FORCE. */
    static HeadHill by(HeadHill x, String rule) {
        x.force(Checks.rule(x, rule));
        return x;
    }

    static HeadHill after(int days, HeadHill x) {
        for (int d = 0; d < days; d++) {
            x.day();
        }
        return x;
    }

    static HeadHill after(int days, String hill) {
        return after(days, Checks.at(hill));
    }

    /** Seconds go from one to another in as many goes as that takes. */
    static void lendAll(HeadHill x, int from, int to, int seconds) {
        int left = seconds;
        while (left > 0) {
            x.lend(from, to, Math.min(20, left));
            left -= Math.min(20, left);
        }
    }
}
