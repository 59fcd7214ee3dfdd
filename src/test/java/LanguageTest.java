import java.math.BigInteger;

/** HILLS and RULES as texts: what stands, what each WORD and sign is worth, and every FAULT at its place. */
public final class LanguageTest {
    private static final String TOWN = "hill 7;runner 3 5;runner 4 12;runner 2 5;ware 20 9 1;ware 7 4 2;ware 99 50 9";
    private static final int UNFIT = 0;
    private static final int NUMBER = 1;
    private static final int DEEP = 2;
    private static final int PART = 3;
    private static final int CLAUSE = 4;

    private final Checks checks = new Checks();

    public static void main(String[] args) {
        LanguageTest test = new LanguageTest();
        test.soundHills();
        test.spoiltHills();
        test.soundRules();
        test.spoiltRules();
        test.words();
        test.rivals();
        test.signs();
        test.tests();
        test.clauses();
        test.checks.finish("LanguageTest");
    }

    private void hillIs(String text, int due) {
        checks.due("hill '" + text + "'", Checks.hill(new HeadHill(), text), due);
    }

    private void ruleIs(String text, int due) {
        checks.due("rule '" + text + "'", Checks.rule(new HeadHill(), text), due);
    }

    private static int fault(int place, int kind) {
        return -2 - (1 + 8 * place + kind);
    }

    private void hillFault(String text, int place, int kind) {
        hillIs(text, fault(place, kind));
    }

    private void ruleFault(String text, int place, int kind) {
        ruleIs(text, fault(place, kind));
    }

    private void soundHills() {
        hillIs("hill 1", 0);
        hillIs("hill60", 0);
        hillIs("  hill  00060  ", 0);
        hillIs("hill 1;ware 1 1 1;runner 1 0;ware 99 50 9;runner 20 40", 2);
        hillIs("hill1;runner1 0;runner20 40;ware99 50 9", 2);
        hillIs("hill 1 ; runner 1 0 ; runner 1 0;runner 1 0;runner 1 0;runner 1 0"
                + ";ware 1 1 1;ware 1 1 1;ware 1 1 1;ware 1 1 1;ware 1 1 1;ware 1 1 1", 5);
        HeadHill x = Checks.at("hill 59;ware 98 49 8;runner 19 39;ware 2 3 4;runner 5 6");
        int[] due = {59, 2, 2, 0, -1, 0, 0, 3, 0, 0, 0, 0};
        for (int what = 0; what < due.length; what++) {
            checks.due("count " + what, x.count(what), due[what]);
        }
        int[][] wares = {{98, 49, 8, 1, -1}, {2, 3, 4, 1, -1}};
        int[][] runners = {{19, 39, 0}, {5, 6, 0}};
        for (int i = 0; i < 2; i++) {
            for (int what = 0; what < 5; what++) {
                checks.due("ware " + i + " " + what, x.ware(i, what), wares[i][what]);
            }
            for (int what = 0; what < 3; what++) {
                checks.due("runner " + i + " " + what, x.runner(i, what), runners[i][what]);
            }
        }
    }

    private void spoiltHills() {
        hillFault("", 0, UNFIT);
        hillFault("   ", 3, UNFIT);
        hillFault("hill", 4, UNFIT);
        hillFault("hill  ", 6, UNFIT);
        hillFault("hil 1", 0, UNFIT);
        hillFault(" Hill 1", 1, UNFIT);
        hillFault("hillrunner 1", 0, UNFIT);
        hillFault("hill x", 5, UNFIT);
        hillFault("hill -1", 5, UNFIT);
        hillFault("hill 1;", 7, UNFIT);
        hillFault("hill 1;;", 7, UNFIT);
        hillFault("hill 1; ", 8, UNFIT);
        hillFault("hill 1 2", 7, UNFIT);
        hillFault("hill 1 100000", 7, UNFIT);
        hillFault("hill 1runner 1 1", 6, UNFIT);
        hillFault("hill 1\t", 6, UNFIT);
        hillFault("hill 1;runner 1", 15, UNFIT);
        hillFault("hill 1;runner 1;", 15, UNFIT);
        hillFault("hill 1;ware 1 1", 15, UNFIT);
        hillFault("hill 1;ware 1 1 1 1", 18, UNFIT);
        hillFault("hill 1;run 1", 7, UNFIT);
        hillFault("hill 1\u00e9", 6, UNFIT);
        hillFault("hill 0", 5, NUMBER);
        hillFault("hill 61", 5, NUMBER);
        hillFault("hill 000001", 5, NUMBER);
        hillFault("hill 99999999999999999999", 5, NUMBER);
        hillFault("hill 1;runner 0 41", 14, NUMBER);
        hillFault("hill 1;runner 21 0", 14, NUMBER);
        hillFault("hill 1;runner 1 41", 16, NUMBER);
        hillFault("hill 1;ware 0 1 1", 12, NUMBER);
        hillFault("hill 1;ware 100 1 1", 12, NUMBER);
        hillFault("hill 1;ware 1 0 1", 14, NUMBER);
        hillFault("hill 1;ware 1 51 1", 14, NUMBER);
        hillFault("hill 1;ware 1 1 0", 16, NUMBER);
        hillFault("hill 1;ware 1 1 10", 16, NUMBER);
        hillFault("runner 1 1;hill 1", 0, CLAUSE);
        hillFault(" ware", 1, CLAUSE);
        hillFault("hill 1; hill 0", 8, CLAUSE);
        String runners = "hill 1;runner 1 0;runner 1 0;runner 1 0;runner 1 0;runner 1 0";
        hillFault(runners + "; runner", runners.length() + 2, CLAUSE);
        hillFault(runners + "; runners", runners.length() + 2, UNFIT);
        String wares = "hill 1;ware 1 1 1;ware 1 1 1;ware 1 1 1;ware 1 1 1;ware 1 1 1;ware 1 1 1";
        hillFault(wares + ";ware 0", wares.length() + 1, CLAUSE);
    }

    private void soundRules() {
        ruleIs("run 0", 0);
        ruleIs("run99999", 0);
        ruleIs(" run  runner + ware-speed*purse/far%worth ", 0);
        ruleIs("run rivals if time<lead or wealth<=feast and day=1 or not 1>=2 and [1>2]", 0);
        ruleIs("run 1if[not[1=1]]", 0);
        ruleIs("run 1;run 1;run 1;run 1;run 1;run 1;run 1;run 1;run 1;run 1;run 1;run 1", 0);
        ruleIs("run 1 if " + "[".repeat(10) + "1=1" + "]".repeat(10), 0);
        ruleIs("run 1 if " + "not ".repeat(10) + "1=1", 0);
        ruleIs("run 1 if " + "not [".repeat(5) + "1=1" + "]".repeat(5) + " and " + "[not ".repeat(5) + "1=1"
                + "]".repeat(5), 0);
        ruleIs("run 1" + "+1".repeat(59), 0);
        ruleIs("run 1" + "+1".repeat(56) + " if 1=1", 0);
        ruleIs("run 1" + "+1".repeat(28) + ";run 1" + "+1".repeat(30), 0);
    }

    private void spoiltRules() {
        ruleFault("", 0, UNFIT);
        ruleFault("runs 1", 0, UNFIT);
        ruleFault("runz 1", 0, UNFIT);
        ruleFault("runa 1", 0, UNFIT);
        ruleFault("run{1", 3, UNFIT);
        ruleFault("run`1", 3, UNFIT);
        ruleFault("hill 1", 0, UNFIT);
        ruleFault("run", 3, UNFIT);
        ruleFault("run ;", 4, UNFIT);
        ruleFault("run -1", 4, UNFIT);
        ruleFault("run [1]", 4, UNFIT);
        ruleFault("run worths", 4, UNFIT);
        ruleFault("run hill", 4, UNFIT);
        ruleFault("run not", 4, UNFIT);
        ruleFault("run worth2", 9, UNFIT);
        ruleFault("run 1 1", 6, UNFIT);
        ruleFault("run 1+", 6, UNFIT);
        ruleFault("run 1++1", 6, UNFIT);
        ruleFault("run 1 iffar<1", 6, UNFIT);
        ruleFault("run 1 if", 8, UNFIT);
        ruleFault("run 1 if 1", 10, UNFIT);
        ruleFault("run 1 if 1;", 10, UNFIT);
        ruleFault("run 1 if 1 and 1=1", 11, UNFIT);
        ruleFault("run 1 if 1=", 11, UNFIT);
        ruleFault("run 1 if 1==1", 11, UNFIT);
        ruleFault("run 1 if 1< =1", 12, UNFIT);
        ruleFault("run 1 if 1=<1", 11, UNFIT);
        ruleFault("run 1 if 1<>1", 11, UNFIT);
        ruleFault("run 1 if 1=1=1", 12, UNFIT);
        ruleFault("run 1 if 1=1 not 1=1", 13, UNFIT);
        ruleFault("run 1 if 1=1 if 1=1", 13, UNFIT);
        ruleFault("run 1 if [1=1", 13, UNFIT);
        ruleFault("run 1 if [1=1;run 1", 13, UNFIT);
        ruleFault("run 1 if 1=1]", 12, UNFIT);
        ruleFault("run 1 if [1]=1", 11, UNFIT);
        ruleFault("run 1 if [1=1]=1", 14, UNFIT);
        ruleFault("run 1 if [1=1]+1", 14, UNFIT);
        ruleFault("run 1 if [1+1]", 13, UNFIT);
        ruleFault("run 1 if 1=1 or", 15, UNFIT);
        ruleFault("run 1 if 1=1 or or", 16, UNFIT);
        ruleFault("run 1<2", 5, UNFIT);
        ruleFault("run 1;", 6, UNFIT);
        ruleFault("run 1;if", 6, UNFIT);
        ruleFault("run 1,", 5, UNFIT);
        ruleFault("run 100000", 4, NUMBER);
        ruleFault("run 000000", 4, NUMBER);
        ruleFault("run 1 if 1=1234567", 11, NUMBER);
        ruleFault("run 1 if " + "[".repeat(11), 19, DEEP);
        ruleFault("run 1 if " + "not ".repeat(10) + " not", 50, DEEP);
        ruleFault("run 1 if " + "not [".repeat(5) + "not", 34, DEEP);
        ruleFault("run 1 if " + "[".repeat(10) + "1=1]or[ [", 9 + 10 + 8, DEEP);
        ruleFault("run 1" + "+1".repeat(60), 124, PART);
        ruleFault("run 1" + "+1".repeat(59) + "+far", 124, PART);
        ruleFault("run 1" + "+1".repeat(59) + "+fart", 124, UNFIT);
        ruleFault("run 1" + "+1".repeat(59) + "+123456", 124, NUMBER);
        String most = "run 1" + "+1".repeat(57) + " if ";
        ruleFault(most + "1=1", most.length() + 2, PART);
        ruleFault(most + "1+1=1", most.length() + 3, PART);
        ruleFault(most + "1+1?1", most.length() + 3, UNFIT);
        ruleFault("run 1" + "+1".repeat(29) + ";run 1" + "+1".repeat(30), 5 + 58 + 5 + 60, PART);
        String twelve = "run 1;".repeat(12);
        ruleFault(twelve + " run", twelve.length() + 1, CLAUSE);
        ruleFault(twelve + " rum", twelve.length() + 1, UNFIT);
        ruleFault(twelve, twelve.length(), UNFIT);
    }

    /** Whether a FACT holds of a RUNNER and a WARE: it is all by which that RUNNER runs for that WARE alone. */
    private boolean isSo(HeadHill x, int runner, int ware, String fact) {
        x.image(3);
        int rule = Checks.rule(x, "run 1 if runner=" + runner + " and ware=" + ware + " and [" + fact + "]");
        checks.holds("rule of '" + fact + "' is taken", rule >= 0);
        x.force(rule);
        int who = x.ahead(ware, 1, 2);
        x.back(3);
        return who == runner;
    }

    private void fact(String town, int days, int runner, int ware, String fact) {
        HeadHill x = Checks.at(town);
        for (int d = 0; d < days; d++) {
            x.day();
        }
        checks.holds(runner + " " + ware + " '" + fact + "' is so", isSo(x, runner, ware, fact));
        checks.holds(runner + " " + ware + " 'not [" + fact + "]' is not so",
                !isSo(x, runner, ware, "not [" + fact + "]"));
    }

    private void words() {
        fact(TOWN, 0, 1, 2, "runner=1 and ware=2 and speed=4 and purse=12 and far=99 and worth=50 and rivals=0");
        fact(TOWN, 0, 0, 0, "time=6 and wealth=0 and feast=6 and day=0");
        fact(TOWN, 0, 1, 0, "time=5");
        fact(TOWN, 0, 0, 1, "time=2");
        fact(TOWN, 0, 0, 0, "lead=0-7");
        fact(TOWN, 0, 1, 0, "lead=7");
        fact("hill 7;runner 3 5;ware 1 1 1", 0, 0, 0, "lead=0 and purse=5");
        // On DAY 0 all run for WARE 2: 28, 12.75 and 44.5 seconds; RUNNER 1 pays two.
        fact(TOWN, 1, 1, 0, "purse=10 and wealth=50 and lead=4 and feast=5 and day=1");
        fact(TOWN, 1, 0, 0, "purse=6 and wealth=0 and lead=0-4");
        fact(TOWN, 6, 2, 0, "feast=0 and day=6");
        fact(TOWN, 7, 2, 0, "feast=6 and day=7 and purse=0 and lead=0");
        fact("hill 1;runner 1 0;runner 1 0;ware 1 1 1", 0, 0, 0, "feast=0");
        // A PURSE below 0: the first one wins each DAY and pays the other.
        fact("hill 60;runner 20 0;runner 1 0;ware 99 1 1", 4, 0, 0, "purse=0-4 and lead=0-8");
    }

    private void rivals() {
        // Each takes the WARE with fewest who run for it already: 0, 1, 0, 1, 0.
        HeadHill x = Checks.at("hill 9;runner 1 0;runner 2 0;runner 3 0;runner 4 0;runner 5 0;ware 60 1 1;ware 60 1 1",
                "run 9-rivals");
        x.force(0);
        checks.due("both are got", x.day(), 3);
        checks.due("ware 0 by the fastest of 0, 2, 4", x.ware(0, 4), 4);
        checks.due("ware 1 by the fastest of 1, 3", x.ware(1, 4), 3);
        checks.due("4 paid two", x.runner(4, 1), -2);
        checks.due("3 paid one", x.runner(3, 1), -1);
        checks.due("0 was paid", x.runner(0, 1), 1);
    }

    private void signs() {
        BigInteger power = BigInteger.valueOf(99999).pow(4);
        boolean below = power.longValue() < 0;
        fact(TOWN, 0, 0, 0, "99999*99999*99999*99999" + (below ? "<" : ">") + "0");
        fact(TOWN, 0, 0, 0, "99999*99999*99999*99999/99999=" + digits(power.longValue() / 99999));
        fact(TOWN, 0, 0, 0, "2+3*4=14 and 2*3+4=10 and 20-5-3=12 and 100/5/2=10 and 17%10%4=3 and 100/7*7=98");
        fact(TOWN, 0, 0, 0, "7/2=3 and 7%2=1 and lead/2=0-3 and lead%2=0-1 and lead%4=0-3 and 7/lead=0-1");
        fact(TOWN, 0, 0, 0, "5/0=0 and 5%0=0 and 0/0=0 and lead/0=0 and 5/0+3=3");
        fact(TOWN, 0, 0, 0, "1<2 and 1<=2 and 2<=2 and 2=2 and 2>=2 and 3>=2 and 3>2");
        for (String wrong : new String[] {"2<2", "3<2", "3<=2", "1=2", "1>=2", "2>2", "1>2"}) {
            fact(TOWN, 0, 0, 0, "not " + wrong);
        }
    }

    /** A number of any size as a SUM of NUMBERS with 5 digits at most. */
    private static String digits(long number) {
        long left = Math.abs(number);
        String sum = "0";
        for (long unit = 1; left > 0; unit *= 10000) {
            String factor = String.valueOf(left % 10000);
            for (long u = unit; u > 1; u /= 10000) {
                factor += "*10000";
            }
            sum += (number < 0 ? "-" : "+") + factor;
            left /= 10000;
        }
        return sum;
    }

    private void tests() {
        fact(TOWN, 0, 0, 0, "1=1 or 1=2 and 1=2");
        fact(TOWN, 0, 0, 0, "not [[1=1 or 1=2] and 1=2]");
        fact(TOWN, 0, 0, 0, "not 1=2 and 1=1");
        fact(TOWN, 0, 0, 0, "not 1=2 or 1=2");
        fact(TOWN, 0, 0, 0, "not not 1=1 and not [1=1 and 1=2]");
        fact(TOWN, 0, 0, 0, "1=2 or 1=2 or 1=1");
        fact(TOWN, 0, 0, 0, "not [1=1 and 1=1 and 1=2]");
        fact(TOWN, 0, 0, 0, "not [not 1=1 or not 1=1] and [1=1]");
        fact(TOWN, 0, 0, 0, "1=2 or 1=1 and [".repeat(7) + "1+2*3=7" + "]".repeat(7));
        checks.holds("deep and false", !isSo(Checks.at(TOWN), 0, 0,
                "1=2 or 1=1 and [".repeat(8) + "1+2*3=8" + "]".repeat(8)));
        checks.holds("deep and true", isSo(Checks.at(TOWN), 0, 0,
                "1=2 or 1=1 and [".repeat(8) + "9=9" + "]".repeat(8)));
    }

    private void clauses() {
        String town = "hill 9;runner 1 0;ware 1 5 1;ware 1 7 1;ware 1 9 2";
        // The first CLAUSE that holds, even if a later one has more.
        checks.due("first clause", gotBy(town, 0, "run 1 if worth>5;run 100"), 1);
        checks.due("several alike: the least", gotBy(town, 0, "run 5"), 1);
        checks.due("greatest", gotBy(town, 0, "run worth"), 4);
        checks.due("of those that are there", gotBy(town, 1, "run worth"), 2);
        checks.due("0 is not above 0", gotBy(town, 0, "run 0"), 0);
        checks.due("below 0", gotBy(town, 0, "run 1-worth"), 0);
        checks.due("no clause holds", gotBy(town, 0, "run 5 if 1=2;run 7 if worth=1"), 0);
        checks.due("second clause", gotBy(town, 0, "run 5 if worth=1;run 7 if worth=7;run 6"), 2);
        checks.due("a clause that holds with 0", gotBy(town, 0, "run 0 if worth>5;run 1"), 1);
        checks.due("without a rule", gotBy(town, 0, ""), 4);
        checks.due("without a rule, of those there", gotBy(town, 1, ""), 2);
        checks.due("without a rule, the least", gotBy("hill 9;runner 1 0;ware 9 7 1;ware 1 7 1", 0, ""), 1);
    }

    private static int gotBy(String town, int days, String rule) {
        HeadHill x = Checks.at(town);
        for (int d = 0; d < days; d++) {
            x.day();
        }
        if (!rule.isEmpty()) {
            x.force(Checks.rule(x, rule));
        }
        return x.day();
    }
}
