/** Each promise of the document by hand: ordinary answers, the edges it names, wrong inputs. */
public final class PromiseTest {
    private static final int MIN = Integer.MIN_VALUE;
    private static final int MAX = Integer.MAX_VALUE;
    /**
     * Without a RULE all run for WARE 0. DAY 0: at 1, 3 and 3 seconds, so 0 GETS it, PURSES 3 1 10. DAY 1: at 3, 2
     * and 2, so 1 GETS it, PURSES 4 -1 11. DAY 2, a FEAST: at 2, 4 and 1, so 2 GETS it, PURSES 0 0 0. From then on 1,
     * at 6, 3, 12: PURSES 1 -2 1; at 5, 5, 11: 0, PURSES -1 -1 2; a FEAST: at 7, 4, 10: 1.
     */
    private static final String TOWN = "hill 3;runner 2 5;runner 4 0;runner 1 9;ware 12 10 1;ware 6 8 2";

    private final Checks checks = new Checks();

    public static void main(String[] args) {
        PromiseTest test = new PromiseTest();
        test.newObject();
        test.feedAndEnd();
        test.hill();
        test.rule();
        test.force();
        test.runnerAndWare();
        test.day();
        test.dayBounds();
        test.lend();
        test.fallShiftTrain();
        test.undo();
        test.aheadAndGets();
        test.rank();
        test.need();
        test.lender();
        test.row();
        test.settleAndRings();
        test.had();
        test.rests();
        test.pence();
        test.note();
        test.ruledAndLook();
        test.seedAndFalls();
        test.count();
        test.images();
        test.checks.finish("PromiseTest");
    }

    private void due(String what, long got, long want) {
        checks.due(what, got, want);
    }

    private static HeadHill town() {
        return Checks.at(TOWN);
    }

    private static HeadHill after(int days, String hill, String... rules) {
        HeadHill x = Checks.at(hill, rules);
        for (int d = 0; d < days; d++) {
            x.day();
        }
        return x;
    }

    private void purses(String when, HeadHill x, int... want) {
        for (int r = 0; r < want.length; r++) {
            due("purse of " + r + " " + when, x.runner(r, 1), want[r]);
        }
    }

    private void wealth(String when, HeadHill x, int... want) {
        for (int r = 0; r < want.length; r++) {
            due("wealth of " + r + " " + when, x.runner(r, 2), want[r]);
        }
    }

    /** Promise 1. */
    private void newObject() {
        HeadHill x = new HeadHill();
        for (int what = -1; what <= 12; what++) {
            due("count " + what + " of a new one", x.count(what), what < 0 || what == 4 || what == 12 ? -1 : 0);
        }
        due("runner", x.runner(0, 1), -1000);
        due("ware", x.ware(0, 4), -2);
        due("day", x.day(), -1);
        due("force", x.force(0), -2);
        due("undo", x.undo(), -2);
        due("settle", x.settle(), -1);
        due("rings", x.rings(0), -1);
        due("ruled", x.ruled(0), -3);
        due("look", x.look(0, 0), -1);
        due("falls", x.falls(1, 1, 1, 0), -1);
        due("ahead", x.ahead(0, 0, 2), -1000);
        due("back", x.back(0), -1);
    }

    /** Promises 2 and 3. */
    private void feedAndEnd() {
        HeadHill x = new HeadHill();
        for (int n = 20; n <= 400; n += 20) {
            due("feed", x.feed(0x20202020, MIN, MAX, -1, 0), n);
        }
        due("feed beyond 400", x.feed(0, 0, 0, 0, 0), -1);
        due("bytes stay", x.count(11), 400);
        due("end beyond", x.end(401), -1);
        due("end below", x.end(-1), -1);
        due("end least", x.end(MIN), -1);
        due("end most", x.end(MAX), -1);
        due("end all", x.end(400), 400);
        due("end 381", x.end(381), 381);
        due("feed beyond 400 from 381", x.feed(0, 0, 0, 0, 0), -1);
        due("end 380", x.end(380), 380);
        due("feed to 400", x.feed(0, 0, 0, 0, 0), 400);
        due("end 0", x.end(0), 0);
        due("end 1 of 0", x.end(1), -1);
        // "hill" "  31" ";run" "ner " "7 9;": the highest byte first, what was ahead is kept.
        due("feed text", x.feed(0x68696c6c, 0x20203331, 0x3b72756e, 0x6e657220, 0x3720393b), 20);
        due("end text", x.end(19), 19);
        due("hill of it", x.hill(), 1);
        due("feast", x.count(0), 31);
        due("speed", x.runner(0, 0), 7);
        due("purse", x.runner(0, 1), 9);
        x.feed(0x68696c6c, 0x20312020, 0x20202020, 0x20202020, 0x20202020);
        due("second feed", x.feed(0x3b776172, 0x65203220, 0x33203400, 0, 0), 40);
        due("end in the second", x.end(31), 31);
        due("hill of two feeds", x.hill(), 0);
        due("worth", x.ware(0, 1), 3);
    }

    /** Promise 4. */
    private void hill() {
        HeadHill x = after(2, TOWN, "run 1");
        x.force(0);
        x.seed(77);
        x.note(0, 0, 0);
        due("a fault", Checks.hill(x, "hill 1;x"), -2 - (1 + 8 * 7));
        int[] stays = {3, 3, 2, 1, 0, 2, 20, 3, 1, 2, 77, 0};
        for (int what = 0; what < 12; what++) {
            due("count " + what + " stays behind a fault", x.count(what), stays[what]);
        }
        due("another", Checks.hill(x, "hill 9;runner 3 4;ware 5 6 7"), 1);
        int[] then = {9, 1, 1, 1, 0, 0, 0, 1, 0, 0, 77, 0};
        for (int what = 0; what < 12; what++) {
            due("count " + what + " of another hill", x.count(what), then[what]);
        }
        due("nobody got it", x.ware(0, 4), -1);
        due("nothing to undo", x.undo(), -2);
        due("no runner 1", x.runner(1, 0), -1000);
    }

    /** Promise 5. */
    private void rule() {
        HeadHill x = town();
        for (int n = 0; n < 6; n++) {
            due("a fault takes no number", Checks.rule(x, "run"), -2 - (1 + 8 * 3));
            due("tape is empty", x.count(11), 0);
            due("rule " + n, Checks.rule(x, "run worth"), n);
            due("tape is empty then", x.count(11), 0);
        }
        due("seventh", Checks.rule(x, "run worth"), -1);
        due("the tape stays", x.count(11), 9);
        due("six", x.count(3), 6);
        due("a hill keeps rules", Checks.hill(x, "hill 1"), 0);
        due("six then", x.count(3), 6);
    }

    /** Promise 6. */
    private void force() {
        HeadHill x = Checks.at(TOWN, "run far", "run 0");
        due("none was", x.force(1), -1);
        due("1 was", x.force(0), 1);
        due("none such", x.force(2), -2);
        due("none such below", x.force(-2), -2);
        due("least", x.force(MIN), -2);
        due("most", x.force(MAX), -2);
        due("0 stays", x.count(4), 0);
        due("0 was", x.force(-1), 0);
        due("none was then", x.force(-1), -1);
        x.force(1);
        due("nobody runs", x.day(), 0);
        x.force(0);
        due("farthest alone is there", x.day(), 1);
    }

    /** Promises 7 and 8. */
    private void runnerAndWare() {
        HeadHill x = after(2, TOWN);
        int[][] runners = {{2, 4, 10}, {4, -1, 10}, {1, 11, 0}};
        for (int r = 0; r < 3; r++) {
            for (int what = 0; what < 3; what++) {
                due("runner " + r + " " + what, x.runner(r, what), runners[r][what]);
            }
        }
        int[][] wrong = {{3, 0}, {-1, 0}, {0, 3}, {0, -1}, {MIN, 0}, {MAX, 0}, {0, MIN}, {0, MAX}};
        for (int[] pair : wrong) {
            due("runner without these", x.runner(pair[0], pair[1]), -1000);
        }
        int[][] wares = {{12, 10, 1, 1, 1}, {6, 8, 2, 1, -1}};
        for (int w = 0; w < 2; w++) {
            for (int what = 0; what < 5; what++) {
                due("ware " + w + " " + what, x.ware(w, what), wares[w][what]);
            }
        }
        x.day();
        due("not there on day 3", x.ware(1, 3), 0);
        due("there on day 3", x.ware(0, 3), 1);
        int[][] without = {{2, 0}, {-1, 0}, {0, 5}, {0, -1}, {MIN, 0}, {MAX, 0}, {0, MIN}, {0, MAX}};
        for (int[] pair : without) {
            due("ware without these", x.ware(pair[0], pair[1]), -2);
        }
    }

    /** Promise 9. */
    private void day() {
        HeadHill x = town();
        due("day 0", x.day(), 1);
        purses("after day 0", x, 3, 1, 10);
        wealth("after day 0", x, 10, 0, 0);
        due("who", x.ware(0, 4), 0);
        due("nobody ran for 1", x.ware(1, 4), -1);
        due("day 1", x.day(), 1);
        purses("after day 1", x, 4, -1, 11);
        wealth("after day 1", x, 10, 10, 0);
        due("day 2", x.day(), 1);
        purses("after the feast", x, 0, 0, 0);
        wealth("after day 2", x, 10, 10, 10);
        due("day 3", x.day(), 1);
        purses("after day 3", x, 1, -2, 1);
        due("day", x.count(5), 4);
        // At 4/3, 3/7 and 2/3 seconds: whole seconds would not part the last two.
        HeadHill y = Checks.at("hill 60;runner 3 2;runner 7 1;runner 6 1;ware 10 1 1");
        y.day();
        due("fractions count", y.ware(0, 4), 1);
        HeadHill z = Checks.at("hill 60;runner 3 1;runner 6 0;runner 2 2;ware 6 1 1");
        z.day();
        due("2 less 1, 1, 3 less 2 are alike: the least", z.ware(0, 4), 0);
        due("no runners", after(0, "hill 1;ware 1 1 1").day(), 0);
        due("no wares", after(0, "hill 1;runner 1 1").day(), 0);
        due("none there on day 1", after(1, "hill 9;runner 1 1;ware 1 1 2").day(), 0);
        HeadHill e = after(1, "hill 1;runner 1 40;runner 2 7");
        purses("each day a feast", e, 0, 0);
    }

    private void dayBounds() {
        // One wins always and pays four each DAY; on the 20th it is at 80.95, others at 80.
        String town = "hill 60;runner 1 0;runner 1 0;runner 20 0;runner 1 0;runner 1 0;ware 99 50 1";
        HeadHill x = after(19, town);
        purses("after 19 days", x, 19, 19, -76, 19, 19);
        due("the fast one got all of them", x.runner(2, 2), 19 * 50);
        x.day();
        due("then the first of the slow ones", x.ware(0, 4), 0);
        purses("and pays four", x, 15, 20, -75, 20, 20);
        HeadHill y = Checks.at("hill 60;runner 20 0;runner 1 0;ware 99 50 1");
        for (int i = 0; i < 4; i++) {
            due("lend", y.lend(0, 1, 20), -20 * (i + 1));
        }
        due("lend 18", y.lend(0, 1, 18), -98);
        due("not below", y.lend(0, 1, 2), -1000);
        y.train(0, 20);
        y.shift(0, 1);
        y.day();
        purses("1 is first and pays", y, -97, 97);
        due("lend to 99", y.lend(0, 1, 2), -99);
        purses("at the bounds", y, -99, 99);
        // RUNNER 1 at 1 - 99 is first, pays while it can: 98 and -98.
        y.day();
        purses("paid", y, -98, 98);
        HeadHill z = Checks.at("hill 60;runner 1 0;runner 20 0;runner 1 0;ware 1 50 1", "run 1 if runner<2",
                "run 1 if runner>0", "run 1");
        for (int i = 0; i < 4; i++) {
            z.lend(0, 2, 20);
        }
        z.lend(0, 2, 19);
        purses("lent", z, -99, 0, 99);
        z.force(0);
        z.day();
        purses("1 is first and pays 0", z, -98, -1, 99);
        z.undo();
        z.force(1);
        z.day();
        purses("2 is first and pays 1", z, -99, 1, 98);
        z.undo();
        z.fall(0);
        z.shift(0, 99);
        z.train(2, 1);
        z.lend(1, 0, 20);
        z.train(0, 20);
        // At -15.05, 24.95 and 0: 0 is first and can pay 1 alone, as 2 has 99.
        z.force(2);
        z.day();
        purses("who has 99 is paid nothing", z, 19, -19, 99);
        HeadHill v = Checks.at("hill 60;runner 1 0;runner 1 0;runner 1 0;ware 1 50 1");
        for (int i = 0; i < 4; i++) {
            v.lend(0, 1, 20);
        }
        v.lend(0, 1, 19);
        v.fall(1);
        for (int i = 0; i < 4; i++) {
            v.lend(2, 1, 20);
        }
        v.lend(2, 1, 19);
        v.fall(1);
        purses("two at the least", v, -99, 0, -99);
        v.force(Checks.rule(v, "run 1 if runner=0 or runner=2"));
        v.day();
        due("0 is first of those alike", v.ware(0, 4), 0);
        purses("who has -99 pays nothing", v, -99, 0, -99);
        HeadHill u = Checks.at("hill 60;runner 1 0;runner 20 0;runner 1 0;ware 99 50 1");
        for (int i = 0; i < 4; i++) {
            u.lend(1, 0, 20);
        }
        u.lend(1, 0, 18);
        u.lend(1, 2, 1);
        u.lend(2, 1, 1);
        purses("one off the bounds", u, 98, -98, 0);
        u.force(Checks.rule(u, "run 1 if runner<2"));
        u.train(0, 20);
        u.shift(0, 1);
        u.fall(0);
        u.lend(2, 0, 20);
        purses("0 is ahead of 1", u, 20, -98, -20);
        u.day();
        purses("and pays", u, 19, -97, -20);
        u.fall(0);
        u.lend(1, 0, 1);
        u.lend(0, 2, 20);
        u.lend(0, 2, 20);
        u.lend(0, 2, 20);
        u.lend(0, 2, 20);
        u.lend(0, 2, 17);
        u.lend(0, 1, 1);
        u.lend(1, 2, 1);
        purses("both near the least", u, -97, -98, 78);
        u.day();
        purses("1 is paid by 0", u, -98, -97, 78);
        u.train(1, 1);
        u.shift(0, 99);
        u.day();
        purses("-98 is above -99: 0 pays", u, -99, -96, 78);
        u.day();
        purses("-99 is not", u, -99, -96, 78);
        HeadHill t = Checks.at("hill 60;runner 20 40;runner 1 40;runner 1 40;ware 99 50 1", "run 1 if runner<2");
        t.lend(0, 1, 20);
        t.lend(0, 1, 20);
        t.lend(0, 1, 18);
        t.fall(0);
        t.lend(2, 0, 10);
        t.force(0);
        // 0 is at -5.05, 1 at 1; then 0 is at -4.05, 1 at 0.
        t.day();
        purses("98 is below 99: 1 is paid", t, 9, 99, 30);
        t.day();
        purses("99 is not", t, 9, 99, 30);
        wealthBound();
    }

    private void wealthBound() {
        HeadHill x = Checks.at("hill 60;runner 1 0;runner 1 0;ware 1 50 1;ware 1 49 1", "run 1 if runner=ware");
        x.force(0);
        for (int d = 0; d < 199; d++) {
            x.day();
        }
        wealth("after 199 days", x, 9950, 9751);
        due("need of 9999 in one", x.need(0, 1, 9999), 0);
        due("rests gain is what they have more", x.rests(0, 1, 0), 2);
        x.day();
        wealth("after 200 days", x, 9999, 9800);
        x.day();
        wealth("after 201 days", x, 9999, 9849);
        due("still got", x.ware(0, 4), 0);
        due("nothing more by falls but of the other", x.falls(1, 1, 0, 0), 49);
        due("ahead at most", x.ahead(1, 100, 1), 9999);
        due("all", x.count(6), 9999 + 9849);
    }

    /** Promise 10. */
    private void lend() {
        HeadHill x = town();
        due("lend", x.lend(0, 2, 20), -15);
        purses("lent", x, -15, 0, 29);
        due("acts", x.count(9), 1);
        int[][] wrong = {{0, 0, 1}, {0, 3, 1}, {3, 0, 1}, {-1, 0, 1}, {0, -1, 1}, {0, 1, 0}, {0, 1, 21}, {0, 1, -1},
            {0, 1, MIN}, {0, 1, MAX}, {MIN, 0, 1}, {0, MAX, 1}};
        for (int[] w : wrong) {
            due("lend without these", x.lend(w[0], w[1], w[2]), -1000);
        }
        for (int i = 1; i <= 4; i++) {
            due("lend on", x.lend(0, 1, 20), -15 - 20 * i);
        }
        due("to below -99", x.lend(0, 1, 5), -1000);
        due("to -99", x.lend(0, 1, 4), -99);
        due("from -99", x.lend(0, 1, 1), -1000);
        purses("at -99", x, -99, 84, 29);
        due("to above 99", x.lend(2, 1, 16), -1000);
        due("to 99", x.lend(2, 1, 15), 14);
        due("one to 99", x.lend(2, 1, 1), -1000);
        due("acts then", x.count(9), 7);
    }

    /** Promises 11, 12 and 13. */
    private void fallShiftTrain() {
        HeadHill x = after(2, TOWN);
        due("fall", x.fall(2), 11);
        due("fall of none", x.fall(2), -1000);
        due("fall below 0", x.fall(1), -1);
        due("fall -1", x.fall(-1), -1000);
        due("fall 3", x.fall(3), -1000);
        due("fall least", x.fall(MIN), -1000);
        due("fall most", x.fall(MAX), -1000);
        purses("fallen", x, 4, 0, 0);
        due("acts", x.count(9), 4);
        due("shift", x.shift(1, 99), 6);
        due("shift again", x.shift(1, 99), -1);
        due("shift to 1", x.shift(1, 1), 99);
        int[][] noShift = {{1, 0}, {1, 100}, {-1, 5}, {2, 5}, {MIN, 5}, {MAX, 5}, {1, MIN}, {1, MAX}};
        for (int[] w : noShift) {
            due("shift without these", x.shift(w[0], w[1]), -1);
        }
        due("far", x.ware(1, 0), 1);
        due("the other stays", x.ware(0, 0), 12);
        due("train", x.train(0, 20), 2);
        due("train again", x.train(0, 20), -1);
        due("train to 1", x.train(0, 1), 20);
        int[][] noTrain = {{0, 0}, {0, 21}, {-1, 5}, {3, 5}, {MIN, 5}, {MAX, 5}, {0, MIN}, {0, MAX}};
        for (int[] w : noTrain) {
            due("train without these", x.train(w[0], w[1]), -1);
        }
        due("speed", x.runner(0, 0), 1);
        due("all acts", x.count(9), 8);
        due("a shifted ware is run to", Checks.at(TOWN).shift(0, 40), 12);
        HeadHill y = Checks.at(TOWN);
        y.shift(0, 40);
        y.day();
        due("at 15, 10 and 31", y.ware(0, 4), 1);
        HeadHill z = Checks.at(TOWN);
        z.train(2, 12);
        z.day();
        due("at 1, 3 and -8", z.ware(0, 4), 2);
    }

    /** Promise 14. */
    private void undo() {
        HeadHill x = after(3, TOWN);
        x.force(Checks.rule(x, "run 1"));
        x.seed(5);
        x.note(1, 1, 1);
        due("undo the feast", x.undo(), 2);
        purses("before it", x, 4, -1, 11);
        wealth("before it", x, 10, 10, 0);
        due("who got it then", x.ware(0, 4), 1);
        due("day", x.count(5), 2);
        due("rule stays", x.count(4), 0);
        due("x stays", x.count(10), 5);
        due("notes stay", x.count(8), 1);
        due("undo", x.undo(), 1);
        due("undo", x.undo(), 0);
        due("nobody got it", x.ware(0, 4), -1);
        due("none more", x.undo(), -2);
        purses("as told", x, 5, 0, 9);
        for (int speed = 1; speed <= 20; speed++) {
            x.train(1, 21 - speed);
        }
        x.shift(0, 50);
        x.shift(0, 51);
        // 22 ACTS, of which the first two, to 20 and to 19, can't be UNDONE any more.
        due("twenty at most", x.count(9), 20);
        for (int left = 19; left >= 0; left--) {
            due("undo of twenty", x.undo(), left);
        }
        due("no further", x.undo(), -2);
        due("the older ones stay", x.runner(1, 0), 19);
        due("far is back", x.ware(0, 0), 12);
    }

    /** Promises 15 and 16. */
    private void aheadAndGets() {
        HeadHill x = town();
        int[][] purse = {{5, 0, 9}, {3, 1, 10}, {4, -1, 11}, {0, 0, 0}, {1, -2, 1}};
        int[][] wealth = {{0, 0, 0}, {10, 0, 0}, {10, 10, 0}, {10, 10, 10}, {10, 20, 10}};
        int[] who = {-1, 0, 1, 2, 1};
        for (int n = 0; n < 5; n++) {
            for (int r = 0; r < 3; r++) {
                due("purse ahead " + n, x.ahead(r, n, 0), purse[n][r]);
                due("wealth ahead " + n, x.ahead(r, n, 1), wealth[n][r]);
            }
            due("who ahead " + n, x.ahead(0, n, 2), who[n]);
            due("nobody ahead " + n, x.ahead(1, n, 2), -1);
        }
        due("nothing changes", x.count(5), 0);
        due("no act", x.count(9), 0);
        int[][] wrong = {{0, -1, 0}, {0, 101, 0}, {3, 0, 0}, {-1, 0, 1}, {2, 0, 2}, {-1, 0, 2}, {0, 0, 3}, {0, 0, -1},
            {MAX, 0, 0}, {MIN, 0, 2}, {0, MAX, 0}, {0, MIN, 0}, {0, 0, MAX}, {0, 0, MIN}};
        for (int[] w : wrong) {
            due("ahead without these", x.ahead(w[0], w[1], w[2]), -1000);
        }
        due("ahead 100 is asked", x.ahead(0, 100, 0) >= -99 ? 1 : 0, 1);
        x.day();
        due("who of n 0 is who got it", x.ahead(0, 0, 2), 0);
        due("gets on day 1", x.gets(1, 0), 1);
        due("which", x.gets(1, 1), 0);
        due("gets of 2", x.gets(2, 0), 2);
        due("gets of 0 on day 4", x.gets(0, 0), 4);
        due("gets 3", x.gets(3, 0), -1);
        due("gets -1", x.gets(-1, 0), -1);
        due("gets what 2", x.gets(0, 2), -1);
        due("gets what -1", x.gets(0, -1), -1);
        HeadHill y = Checks.at("hill 1;runner 9 0;runner 1 0;ware 9 1 1;ware 9 2 8", "run 1 if runner=1 and day=99",
                "run 1 if runner=1 and day=100", "run ware if runner=1 and day>95");
        y.force(0);
        due("the 100th is day 99", y.gets(1, 0), 99);
        due("ware 0", y.gets(1, 1), 0);
        due("never by 0", y.gets(0, 0), -2);
        due("never by 0, which", y.gets(0, 1), -2);
        y.force(1);
        due("none on day 100", y.gets(1, 0), -2);
        y.force(2);
        due("96 is the first of 8", y.gets(1, 0), 96);
        due("ware 1", y.gets(1, 1), 1);
    }

    /** Promise 17. */
    private void rank() {
        HeadHill x = town();
        int[][] ranks = {{0, 1, 2}, {1, 2, 0}};
        for (int r = 0; r < 3; r++) {
            due("rank to 12", x.rank(r, 12), ranks[0][r]);
            due("rank to 6: -2, 1.5, -3", x.rank(r, 6), ranks[1][r]);
        }
        due("far 1", x.rank(0, 1), 1);
        due("far 99: 44.5, 24.75, 90", x.rank(0, 99), 1);
        int[][] wrong = {{0, 0}, {0, 100}, {3, 1}, {-1, 1}, {MIN, 1}, {MAX, 1}, {0, MIN}, {0, MAX}};
        for (int[] w : wrong) {
            due("rank without these", x.rank(w[0], w[1]), -1);
        }
        HeadHill y = Checks.at("hill 1;runner 3 0;runner 3 0;runner 6 0");
        due("alike: less numbers are ahead", y.rank(1, 3), 2);
        due("alike: the least", y.rank(0, 3), 1);
        due("ahead", y.rank(2, 3), 0);
    }

    /** Promise 18. */
    private void need() {
        HeadHill x = town();
        // 3 - p below 1, as 0 is at 1 and has the less number.
        due("need", x.need(1, 1, 10), 3);
        due("need less", x.need(1, 1, 1), 3);
        due("need one more", x.need(1, 1, 11), -2);
        due("need none", x.need(0, 1, 10), 0);
        due("need in two", x.need(1, 2, 10), 0);
        due("2 at 12 - 9 - p", x.need(2, 1, 10), 3);
        int[][] wrong = {{3, 1, 1}, {-1, 1, 1}, {0, 0, 1}, {0, 61, 1}, {0, 1, 0}, {0, 1, 10000}, {0, 1, MIN},
            {0, MAX, 1}, {MIN, 1, 1}, {0, 1, MAX}};
        for (int[] w : wrong) {
            due("need without these", x.need(w[0], w[1], w[2]), -1);
        }
        due("60 days", x.need(0, 60, 9999), -2);
        due("99 - p at most 59", Checks.at("hill 9;runner 1 0;runner 1 40;ware 99 5 1").need(0, 1, 5), 40);
        HeadHill y = Checks.at("hill 9;runner 1 0;runner 2 12;ware 98 5 1");
        due("98 - p at most 37: 61 are too many", y.need(0, 1, 5), -2);
        y.lend(1, 0, 1);
        due("98 - 1 - p at most 38: 59", y.need(0, 1, 5), 59);
        HeadHill z = Checks.at("hill 9;runner 1 40;runner 20 40;ware 99 5 1");
        due("59 - p at most 99/20 - 40: none", z.need(0, 1, 5), -2);
        due("wealth had already counts", after(1, TOWN).need(0, 1, 10), 0);
        HeadHill alone = Checks.at("hill 9;runner 1 0;ware 9 50 1");
        due("all that days can bring", alone.need(0, 60, 3000), 0);
        due("one more", alone.need(0, 60, 3001), -2);
        HeadHill w = Checks.at("hill 60;runner 1 40;runner 1 0;ware 99 1 1", "run 1 if runner=0 and purse=99",
                "run 1 if runner=0 and purse=100");
        w.force(0);
        due("59 to 99", w.need(0, 1, 1), 59);
        w.force(1);
        due("never 100", w.need(0, 1, 1), -2);
        w.force(Checks.rule(w, "run 1 if runner=1 and purse=60"));
        due("60 at most", w.need(1, 1, 1), 60);
        w.force(Checks.rule(w, "run 1 if runner=1 and purse=61"));
        due("61 are too many", w.need(1, 1, 1), -2);
    }

    /** Promise 19. */
    private void lender() {
        HeadHill x = town();
        // 1 at 3 seconds, 0 at 1: with 3 of 0's at 0 against 4; with 3 of 2's at 0 against 1. The least.
        due("lender", x.lender(1, 1, 0), 0);
        due("how much", x.lender(1, 1, 1), 10);
        due("nobody", x.lender(0, 1, 0), -1);
        due("how much by nobody", x.lender(0, 1, 1), 10);
        due("2 from 1: 0 against 1", x.lender(2, 1, 0), 0);
        due("nothing is lent", x.runner(0, 1), 5);
        int[][] wrong = {{3, 1, 0}, {-1, 1, 0}, {0, 0, 0}, {0, 61, 0}, {0, 1, 2}, {0, 1, -1}, {MIN, 1, 0}, {0, MAX, 0}};
        for (int[] w : wrong) {
            due("lender without these", x.lender(w[0], w[1], w[2]), -2);
        }
        HeadHill y = Checks.at("hill 60;runner 1 0;runner 1 0;runner 1 0;ware 1 5 1;ware 1 9 1",
                "run 1 if runner=0 and purse=3 and ware=1", "run 1 if runner=0 and lead=6 and ware=0");
        y.force(0);
        due("the least of two", y.lender(0, 1, 0), 1);
        due("nine", y.lender(0, 1, 1), 9);
        for (int i = 0; i < 4; i++) {
            y.lend(1, 2, 20);
        }
        y.lend(1, 2, 17);
        due("1 has -97: 2 it is", y.lender(0, 1, 0), 2);
        y.lend(2, 1, 1);
        due("1 has -96: it can", y.lender(0, 1, 0), 1);
        HeadHill z = Checks.at("hill 60;runner 1 0;runner 1 0;ware 1 5 1", "run 1 if runner=1 and purse>98");
        z.force(0);
        for (int i = 0; i < 4; i++) {
            z.lend(0, 1, 20);
        }
        z.lend(0, 1, 16);
        due("to 99", z.lender(1, 1, 0), 0);
        z.lend(0, 1, 1);
        due("not to 100", z.lender(1, 1, 0), -1);
        due("then it gets nothing", z.lender(1, 1, 1), 0);
        due("alone", Checks.at("hill 1;runner 1 1").lender(0, 60, 0), -1);
    }

    /** Promise 20. */
    private void row() {
        HeadHill x = town();
        due("1 gets ware 1 alone", x.row(1, 1, 0), 8);
        due("ware 1", x.row(1, 1, 1), 1);
        due("no second", x.row(1, 1, 2), -2);
        due("no third", x.row(1, 2, 3), -2);
        // With WARE 1 on DAY 0 it is not paid, and on DAY 1 2 is first: 8 alone. With WARE 0 on both it is 10.
        due("in two", x.row(1, 2, 0), 10);
        due("first of two", x.row(1, 2, 1), 0);
        due("second of two", x.row(1, 2, 2), 0);
        due("nothing changes", x.count(5), 0);
        int[][] wrong = {{3, 1, 0}, {-1, 1, 0}, {0, 0, 0}, {0, 4, 0}, {0, 1, 4}, {0, 1, -1}, {MIN, 1, 0}, {0, MAX, 0},
            {0, 4, 3}, {0, 1, MAX}};
        for (int[] w : wrong) {
            due("row without these", x.row(w[0], w[1], w[2]), -3);
        }
        HeadHill y = Checks.at("hill 60;runner 1 0;ware 1 5 1;ware 1 5 1;ware 1 9 2");
        due("9 and 5 and 9", y.row(0, 3, 0), 23);
        due("2", y.row(0, 3, 1), 2);
        due("the first of two alike", y.row(0, 3, 2), 0);
        due("2 again", y.row(0, 3, 3), 2);
        HeadHill none = Checks.at("hill 60;runner 1 0;runner 20 40;ware 99 5 1");
        due("nothing to get", none.row(0, 2, 0), 0);
        due("none is ahead of 0", none.row(0, 2, 1), -1);
        due("none again", none.row(0, 2, 2), -1);
        due("no wares", Checks.at("hill 1;runner 1 0").row(0, 3, 3), -1);
        due("wealth had already counts", after(1, TOWN).row(0, 1, 0) >= 10 ? 1 : 0, 1);
        // The order ends with the asking: the next DAY goes by the RULE.
        HeadHill after = town();
        after.row(0, 3, 0);
        due("then the day is as ever", after.day(), 1);
        // Rivals as it comes: what 0 runs for counts for 1.
        HeadHill r = Checks.at("hill 60;runner 1 0;runner 20 40;ware 9 5 1;ware 9 4 1", "run 9-rivals*5+worth");
        r.force(0);
        due("1 turns to the other ware", r.row(0, 1, 0), 5);
        due("0", r.row(0, 1, 1), 0);
    }

    /** Promises 21 and 22. */
    private void settleAndRings() {
        due("no runners", Checks.at("hill 1").settle(), 0);
        due("no rings", Checks.at("hill 1").rings(0), 0);
        due("no ring", Checks.at("hill 1").rings(1), 0);
        HeadHill x = Checks.at("hill 60;runner 1 0;runner 1 0;runner 1 0;runner 1 0;runner 1 0");
        due("all 0", x.settle(), 0);
        due("all sets", x.rings(0), 31);
        due("the one of most", x.rings(1), 31);
        x.lend(0, 1, 5);
        x.lend(2, 3, 7);
        due("two pairs", x.settle(), 2);
        // -5 5 -7 7 0: of the sets of 0 to 3 three, each with 4 or without, and 4 alone.
        due("rings", x.rings(0), 7);
        due("all", x.rings(1), 31);
        x.lend(0, 4, 1);
        // -6 5 -7 7 1: 2 with 3 and the three others.
        due("two and three", x.settle(), 3);
        due("rings", x.rings(0), 3);
        x.fall(3);
        due("not 0 together", x.settle(), -2);
        due("then 3 and 0 1 4", x.rings(0), 3);
        due("the one of most", x.rings(1), 1 + 2 + 8 + 16);
        x.fall(4);
        // -6 5 -7 0 0: 3, 4, both.
        due("3", x.rings(0), 3);
        due("both", x.rings(1), 8 + 16);
        HeadHill y = Checks.at("hill 60;runner 1 1;runner 1 2;runner 1 4;runner 1 8");
        due("none", y.rings(0), 0);
        due("none at all", y.rings(1), 0);
        due("above 0 together", y.settle(), -2);
        due("rings 2", y.rings(2), -1);
        due("rings -1", y.rings(-1), -1);
        // -3 -3 3 3 0 alike: several of two, the least as bits.
        HeadHill z = Checks.at("hill 60;runner 1 3;runner 1 3;runner 1 0;runner 1 9");
        z.lend(2, 3, 3);
        due("two of two: 0 2 and 1 2", z.rings(0), 2);
        due("the least as bits", z.rings(1), 5);
        HeadHill four = Checks.at("hill 60;runner 1 0;runner 1 0;runner 1 0;runner 1 0;runner 1 0");
        four.lend(0, 1, 1);
        four.lend(0, 2, 2);
        four.lend(0, 3, 4);
        four.lend(0, 4, 8);
        due("one pays four", four.settle(), 4);
    }

    /** Promise 23. */
    private void had() {
        HeadHill x = town();
        // 3 - p below 1, as 0 is at 1 and has the less number: p from 3 on, to 40.
        due("how many", x.had(1, 1, 0, 0), 38);
        due("the least", x.had(1, 1, 0, 1), 3);
        due("0: 6 - p at most 3", x.had(0, 1, 0, 1), 3);
        due("none", x.had(1, 1, 1, 0), 0);
        due("no least", x.had(1, 1, 1, 1), -1000);
        due("purse stays", x.runner(1, 1), 0);
        int[][] wrong = {{3, 1, 0, 0}, {-1, 1, 0, 0}, {0, 0, 0, 0}, {0, 21, 0, 0}, {0, 1, 2, 0}, {0, 1, -1, 0},
            {0, 1, 0, 2}, {0, 1, 0, -1}, {MIN, 1, 0, 0}, {0, MAX, 0, 0}, {0, 1, MAX, 0}};
        for (int[] w : wrong) {
            due("had without these", x.had(w[0], w[1], w[2], w[3]), -1001);
        }
        HeadHill y = Checks.at("hill 60;runner 1 7;ware 5 5 1", "run 1 if purse=0-20", "run 1 if purse=0-21",
                "run 1 if purse=40", "run 1 if purse=41", "run 1 if day=1");
        int[] many = {1, 0, 1, 0};
        int[] least = {-20, -1000, 40, -1000};
        for (int rule = 0; rule < 4; rule++) {
            y.force(rule);
            due("had by rule " + rule, y.had(0, 1, 0, 0), many[rule]);
            due("least by rule " + rule, y.had(0, 1, 0, 1), least[rule]);
        }
        y.force(4);
        due("on the first", y.had(0, 1, 0, 0), 0);
        due("on the last", y.had(0, 2, 0, 0), 61);
        due("not behind it", y.had(0, 3, 0, 0), 0);
        // After the FEAST of DAY 2 it is 1 that GETS it, with whatever was had.
        due("after a feast", x.had(1, 4, 0, 0), 61);
        due("twenty", x.had(1, 20, 0, 0) >= 0 ? 1 : 0, 1);
    }

    /** Promise 24. */
    private void rests() {
        HeadHill x = town();
        // 2 runs for WARE 0. Of 0 by 1: 0 on WARE 0 has 20 + 4, 1 on WARE 1 has 16 + 0; nothing is better.
        due("how many", x.rests(0, 1, 0), 1);
        due("first one", x.rests(0, 1, 1), 0);
        due("second one", x.rests(0, 1, 2), 1);
        due("turned", x.rests(1, 0, 1), 1);
        due("turned, second", x.rests(1, 0, 2), 0);
        int[][] wrong = {{0, 0, 0}, {3, 0, 0}, {0, 3, 0}, {-1, 0, 0}, {0, -1, 0}, {0, 1, 3}, {0, 1, -1}, {MIN, 1, 0},
            {0, MAX, 0}, {0, 1, MIN}};
        for (int[] w : wrong) {
            due("rests without these", x.rests(w[0], w[1], w[2]), -3);
        }
        // No WARES: both stay, that is a rest.
        HeadHill none = Checks.at("hill 9;runner 1 3;runner 1 4");
        due("one rest", none.rests(0, 1, 0), 1);
        due("none", none.rests(0, 1, 1), -1);
        due("none", none.rests(0, 1, 2), -1);
        // WARE 1 is not there on DAY 1: both run for 0 or the slower one for none. Who loses there gains a second.
        HeadHill y = after(1, "hill 60;runner 20 0;runner 1 0;ware 9 1 1;ware 9 9 2");
        due("both for 0", y.rests(0, 1, 0), 1);
        due("0", y.rests(0, 1, 1), 0);
        due("0 too", y.rests(0, 1, 2), 0);
        // On a FEAST the second is lost at once: the slower one may stay as well.
        HeadHill f = Checks.at("hill 1;runner 20 0;runner 1 0;ware 9 1 1");
        due("two", f.rests(0, 1, 0), 2);
        due("first", f.rests(0, 1, 1), 0);
        due("none is ahead of 0", f.rests(0, 1, 2), -1);
        due("nothing changes", y.count(5), 1);
        // For WARE 0 the first one had 2 less the 3 that it pays; so it stays. The second one is paid by 2.
        HeadHill dear = Checks.at("hill 60;runner 20 0;runner 1 0;runner 2 0;runner 1 0;ware 99 1 1");
        due("one", dear.rests(0, 1, 0), 1);
        due("stays", dear.rests(0, 1, 1), -1);
        due("runs", dear.rests(0, 1, 2), 0);
        // 1 beats both, and runs for WARE 0 unless 0 does; 2 beats 0 at both WARES. So 2 goes where 0 is, where it
        // meets not 1, and 0 goes away from 2: no rest.
        HeadHill round = Checks.at("hill 1;runner 9 1;runner 8 9;runner 8 3;ware 51 8 1;ware 6 6 2", "run 2-rivals");
        round.force(0);
        for (int what = 0; what < 3; what++) {
            due("no rest " + what, round.rests(0, 2, what), what == 0 ? 0 : -2);
        }
        HeadHill after = town();
        after.rests(0, 1, 0);
        due("then the day is as ever", after.day(), 1);
    }

    /** Promise 25. */
    private void pence() {
        HeadHill x = town();
        due("nobody has any", x.pence(9, 0), 0);
        x.day();
        due("one has all", x.pence(9999, 0), 9999);
        due("others nothing", x.pence(9999, 1), 0);
        x.day();
        x.day();
        // 10 10 10 by 11: 3 each, two left to the least.
        due("11 of 0", x.pence(11, 0), 4);
        due("11 of 1", x.pence(11, 1), 4);
        due("11 of 2", x.pence(11, 2), 3);
        x.day();
        // 10 20 10 by 7: 1.75, 3.5, 1.75: 1 3 1 and two left to 0 and 2.
        due("7 of 0", x.pence(7, 0), 2);
        due("7 of 1", x.pence(7, 1), 3);
        due("7 of 2", x.pence(7, 2), 2);
        // By 6: 1.5, 3, 1.5: one left to 0.
        due("6 of 0", x.pence(6, 0), 2);
        due("6 of 1", x.pence(6, 1), 3);
        due("6 of 2", x.pence(6, 2), 1);
        due("0", x.pence(0, 0), 0);
        due("of one in all", after(1, "hill 1;runner 1 0;ware 1 1 1").pence(7, 0), 7);
        int[][] wrong = {{-1, 0}, {10000, 0}, {1, 3}, {1, -1}, {MIN, 0}, {MAX, 0}, {1, MIN}, {1, MAX}};
        for (int[] w : wrong) {
            due("pence without these", x.pence(w[0], w[1]), -1);
        }
    }

    /** Promise 26. */
    private void note() {
        HeadHill x = town();
        int[][] wrong = {{-2, 0, 0}, {61, 0, 0}, {0, 2, 0}, {0, -1, 0}, {0, 0, 3}, {0, 0, -2}, {MIN, 0, 0}, {MAX, 0, 0},
            {0, MAX, 0}, {0, 0, MAX}, {0, 0, MIN}};
        for (int[] w : wrong) {
            due("note without these", x.note(w[0], w[1], w[2]), -2);
        }
        due("none yet", x.count(8), 0);
        due("first", x.note(60, 1, -1), 1);
        for (int n = 2; n <= 10; n++) {
            due("note", x.note(0, 0, 2), n);
        }
        due("eleventh", x.note(0, 0, 2), -2);
        due("ten", x.count(8), 10);
        due("ten at once", x.ruled(0), 0);
        due("none then", x.note(-1, 99, 99), 0);
        due("none", x.count(8), 0);
        due("first again", x.note(0, 0, 0), 1);
        due("none without a hill", new HeadHill().note(-1, 0, 0), 0);
        due("no note without a hill", new HeadHill().note(0, 0, -1), -2);
    }

    /** Promises 27 and 28. */
    private void ruledAndLook() {
        // None: 0 1 2 on WARE 0. Rule 0: nobody runs. Rule 1: all for WARE 1 when it is there. Rule 2: as none.
        HeadHill x = after(1, TOWN, "run 0", "run ware", "run worth");
        x.fall(0);
        x.train(1, 1);
        due("all four", x.ruled(0), 4);
        due("none is the first", x.ruled(1), -1);
        due("day 0 parts at ware 0: two alike", x.look(0, 0), 0);
        due("two", x.look(0, 1), 2);
        due("day 1: 1, nobody, nobody, 1", x.look(1, 1), 2);
        x.note(0, 0, -1);
        due("nobody on day 0: rules 0 and 1", x.ruled(0), 2);
        due("0", x.ruled(1), 0);
        due("look at ware 1 then", x.look(0, 0), 1);
        due("one each", x.look(0, 1), 1);
        due("day 1 parts nothing", x.look(1, 0), 0);
        due("two alike", x.look(1, 1), 2);
        x.note(0, 1, 2);
        due("2 is first to ware 1", x.ruled(0), 1);
        due("rule 1", x.ruled(1), 1);
        x.note(1, 0, 1);
        due("none such", x.ruled(0), 0);
        due("none", x.ruled(1), -2);
        due("nowhere", x.look(0, 0), -2);
        due("nowhere how many", x.look(0, 1), -2);
        x.note(-1, 0, 0);
        x.note(2, 0, 2);
        due("from the text on, not from now", x.ruled(0), 2);
        due("none is first", x.ruled(1), -1);
        x.note(60, 1, -1);
        due("day 60", x.ruled(0), 2);
        due("look 60", x.look(60, 1), 2);
        int[][] wrong = {{-1, 0}, {61, 0}, {0, 2}, {0, -1}, {MIN, 0}, {MAX, 0}, {0, MAX}};
        for (int[] w : wrong) {
            due("look without these", x.look(w[0], w[1]), -1);
        }
        due("ruled 2", x.ruled(2), -3);
        due("ruled -1", x.ruled(-1), -3);
        due("state stays", x.count(5), 1);
        HeadHill bare = Checks.at("hill 1;runner 1 1", "run 1");
        due("no wares", bare.look(0, 0), -2);
        due("no wares, how many", bare.look(0, 1), -2);
        due("both", bare.ruled(0), 2);
        x.force(1);
        due("the rule in force is no matter", x.ruled(1), -1);
        Checks.hill(x, TOWN);
        due("a hill has no notes", x.ruled(0), 4);
    }

    /** Promises 29 and 30. */
    private void seedAndFalls() {
        HeadHill x = town();
        due("0 at first", x.seed(MAX), 0);
        due("most", x.seed(3), MAX);
        due("below 0", x.seed(-1), -1);
        due("least", x.seed(MIN), -1);
        due("3 stays", x.seed(0), 3);
        due("no falls: all get 10 each day", x.falls(1, 3, 0, 0), 30);
        due("three times", x.falls(3, 2, 0, 0), 60);
        due("greatest purse of no falls", x.falls(1, 1, 0, 1), 10);
        due("three times that", x.falls(3, 1, 0, 1), 30);
        due("after a feast", x.falls(1, 3, 0, 1), 0);
        // x: 0, 12345, 1406932606, 654583775, 1449466924: DRAWS 0, 21468, 9988, 22117. With p 100 always, the second
        // of each two by 3: 21468 mod 3 = 0, then 22117 mod 3 = 1.
        // RUNNER 0 falls: at 6, 3, 3, so 1 GETS it, PURSES 1 -2 10.
        due("one fall", x.falls(1, 1, 100, 1), 10);
        // Then 1 falls: PURSES 1 0 10, at 5, 3, 2: 2 GETS it, PURSES 2 1 8.
        due("two falls", x.falls(1, 2, 100, 1), 8);
        // Two times one DAY: x goes on. 1 falls from 5 0 9: as it was, 3 1 10.
        due("two times one fall", x.falls(2, 1, 100, 1), 20);
        due("x as it was", x.count(10), 0);
        due("the first draw is 0: below 1", x.falls(1, 1, 1, 1), 10);
        due("nothing changes", x.runner(0, 1), 5);
        x.seed(12345);
        // DRAW 21468 mod 100 = 68: not below 68, below 69; then 9988 mod 3 = 1: no change by that fall.
        due("68", x.falls(1, 1, 68, 1), 10);
        HeadHill y = Checks.at("hill 60;runner 1 3;runner 1 4;runner 1 5;ware 9 1 2", "run 0");
        y.force(0);
        y.seed(12345);
        due("not below 68", y.falls(1, 1, 68, 1), 5);
        y.seed(0);
        // 0 falls, then 1: 5 stays; x then 1449466924.
        due("0 and 1 fall", y.falls(1, 2, 100, 1), 5);
        due("nothing got", y.falls(1, 2, 100, 0), 0);
        HeadHill bare = Checks.at("hill 1;ware 1 1 1");
        due("no runners", bare.falls(10, 60, 100, 0), 0);
        due("no purses", bare.falls(10, 60, 100, 1), 0);
        int[][] wrong = {{0, 1, 1, 0}, {11, 1, 1, 0}, {1, 0, 1, 0}, {1, 61, 1, 0}, {1, 1, -1, 0}, {1, 1, 101, 0},
            {1, 1, 1, 2}, {1, 1, 1, -1}, {MIN, 1, 1, 0}, {1, MAX, 1, 0}, {1, 1, MAX, 0}};
        for (int[] w : wrong) {
            due("falls without these", x.falls(w[0], w[1], w[2], w[3]), -1);
        }
        HeadHill below = Checks.at("hill 60;runner 20 0;runner 20 0;ware 9 1 1");
        below.lend(0, 1, 20);
        below.fall(1);
        below.lend(1, 0, 5);
        // -15 and -5, one pays the other: -14 and -6.
        due("of 0 at least", below.falls(2, 1, 0, 1), 0);
    }

    /** Promise 31. */
    private void count() {
        HeadHill x = after(1, TOWN, "run 1", "run 2");
        x.force(1);
        x.note(0, 0, 0);
        x.note(0, 0, 1);
        x.note(0, 0, 2);
        x.seed(99);
        x.fall(0);
        x.feed(1, 2, 3, 4, 5);
        int[] due = {3, 3, 2, 2, 1, 1, 10, 1, 3, 2, 99, 20};
        for (int what = 0; what < 12; what++) {
            due("count " + what, x.count(what), due[what]);
        }
        due("count 12", x.count(12), -1);
        due("count -1", x.count(-1), -1);
        due("count least", x.count(MIN), -1);
        due("count most", x.count(MAX), -1);
    }

    /** Promises 32 and 33. */
    private void images() {
        HeadHill x = new HeadHill();
        due("image of no hill", x.image(3), 0);
        Checks.hill(x, TOWN);
        due("never made", x.back(0), -1);
        due("day", x.day(), 1);
        x.force(Checks.rule(x, "run ware"));
        x.note(5, 1, 1);
        x.seed(42);
        x.shift(0, 77);
        due("image", x.image(0), 1);
        for (int wrong : new int[] {-1, 4, MIN, MAX}) {
            due("no such image", x.image(wrong), -1);
            due("no such back", x.back(wrong), -1);
        }
        x.undo();
        x.day();
        x.day();
        x.force(-1);
        x.seed(1);
        x.note(-1, 0, 0);
        x.train(0, 20);
        Checks.rule(x, "run 3");
        x.feed(0, 0, 0, 0, 0);
        due("image 1", x.image(1), 3);
        due("back", x.back(0), 1);
        int[] due = {3, 3, 2, 2, 0, 1, 10, 1, 1, 2, 42, 20};
        for (int what = 0; what < 12; what++) {
            due("count " + what + " as it was, rules and tape stay", x.count(what), due[what]);
        }
        purses("as they were", x, 3, 1, 10);
        due("far", x.ware(0, 0), 77);
        due("speed", x.runner(0, 0), 2);
        due("who got", x.ware(0, 4), 0);
        due("undo the shift", x.undo(), 1);
        due("far then", x.ware(0, 0), 12);
        due("undo the day", x.undo(), 0);
        purses("as told", x, 5, 0, 9);
        due("the image stays as it was", x.back(0), 1);
        due("acts again", x.count(9), 2);
        due("the other one", x.back(1), 3);
        due("speed there", x.runner(0, 0), 20);
        due("no hill", x.back(3), 0);
        due("no runners", x.count(1), 0);
        due("no force", x.count(4), -1);
        due("rules stay", x.count(3), 2);
        due("no day", x.day(), -1);
        Checks.hill(x, "hill 9;runner 7 7");
        due("another hill goes back, too", x.back(0), 1);
        due("with its note on day 5, ware 1, runner 1", x.ruled(0), 0);
        x.note(-1, 0, 0);
        x.note(1, 1, -1);
        x.image(2);
        x.note(-1, 0, 0);
        x.note(0, 0, 0);
        x.back(2);
        due("nobody gets ware 1 on day 1", x.ruled(0), 3);
        due("runners", x.count(1), 3);
        due("made anew", x.image(3), 1);
        x.day();
        due("back there", x.back(3), 1);
    }
}
