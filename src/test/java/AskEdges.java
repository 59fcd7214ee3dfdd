/** Edges of what is asked of the HILL as it is and as it goes on: promises 15 to 25. */
final class AskEdges extends Edges {
    /** Alone: WARE 1, worth 2, on DAYS 0, 9, 18 and so on, WARE 0, worth 1, on all others. */
    private static final String ALONE = "hill 60;runner 1 7;ware 1 1 1;ware 1 2 9";
    private static final String ONE = "hill 60;runner 1 0;ware 1 1 1";

    AskEdges(Checks checks, Document document) {
        super(checks, document);
    }

    void promise15NothingChanges() {
        says("(By what is asked nothing changes;");
        Call[] asked = {x -> x.ahead(0, 100, 0), x -> x.ahead(0, 3, 1), x -> x.ahead(1, 3, 2), x -> x.gets(0, 0),
            x -> x.gets(2, 1), x -> x.rank(0, 1), x -> x.need(0, 60, 9999), x -> x.need(1, 5, 20),
            x -> x.lender(0, 60, 0), x -> x.lender(1, 5, 1), x -> x.row(0, 3, 0), x -> x.row(1, 3, 3),
            HeadHill::settle, x -> x.rings(0), x -> x.rings(1), x -> x.had(0, 20, 0, 0), x -> x.had(1, 1, 1, 1),
            x -> x.rests(0, 1, 0), x -> x.rests(2, 1, 2), x -> x.pence(9999, 0), x -> x.ruled(0), x -> x.ruled(1),
            x -> x.look(0, 0), x -> x.look(60, 1), x -> x.falls(10, 60, 100, 0), x -> x.falls(1, 1, 50, 1),
            x -> x.count(7), x -> x.runner(0, 1), x -> x.ware(0, 3)};
        for (int i = 0; i < asked.length; i++) {
            changesNothing("ask " + i, Scenes::rich, asked[i]);
        }
    }

    /** What is asked on trials of its own must not show in what is asked next, nor on the next DAY. */
    void promise15NothingStaysOfAnOrder() {
        says("By what is asked nothing changes");
        Call[] asked = {x -> x.row(0, 3, 1), x -> x.row(1, 1, 1), x -> x.rests(0, 1, 0), x -> x.rests(1, 2, 2)};
        for (int i = 0; i < asked.length; i++) {
            HeadHill x = Scenes.rich();
            asked[i].on(x);
            HeadHill left = Scenes.rich();
            for (int what = 0; what < 3; what++) {
                due("rests of 0 and 2", x.rests(0, 2, what), left.rests(0, 2, what));
                due("row of 2", x.row(2, 2, what), left.row(2, 2, what));
            }
            due("ahead", x.ahead(0, 5, 1), left.ahead(0, 5, 1));
            due("day", x.day(), left.day());
        }
    }

    /** More calls than an object is promised for: it holds there, too. */
    void promise15BeyondDay999() {
        says("DAYS go on by the RULE IN FORCE, beyond 999, too.)");
        HeadHill x = by(after(990, ONE), "run 1 if day>998");
        due("to 999", x.ahead(0, 9, 1), 990);
        due("999", x.ahead(0, 10, 1), 991);
        due("1000", x.ahead(0, 11, 1), 992);
        due("to 1089", x.ahead(0, 100, 1), 1081);
        x = by(x, "run 1 if day=1000");
        due("gets on 1000", x.gets(0, 0), 1000);
        due("need", x.need(0, 11, 991), 0);
        due("had", x.had(0, 11, 0, 0), 61);
        due("falls", x.falls(1, 11, 0, 0), 1);
    }

    void promise15ZeroToAHundred() {
        says("AHEAD n DAYS (0 to 100): PURSE of a RUNNER; WEALTH of a RUNNER; who GOT a WARE on the last DAY that"
                + " has been.");
        HeadHill x = Checks.at(ALONE);
        int[] days = {0, 1, 2, 9, 10, 99, 100};
        int[] wealth = {0, 2, 3, 10, 12, 110, 112};
        int[] whoGot0 = {-1, -1, 0, 0, -1, 0, -1};
        int[] whoGot1 = {-1, 0, -1, -1, 0, -1, 0};
        for (int i = 0; i < days.length; i++) {
            due("wealth in " + days[i], x.ahead(0, days[i], 1), wealth[i]);
            due("who got 0 in " + days[i], x.ahead(0, days[i], 2), whoGot0[i]);
            due("who got 1 in " + days[i], x.ahead(1, days[i], 2), whoGot1[i]);
        }
        due("purse in 0", x.ahead(0, 0, 0), 7);
        due("purse in 59", x.ahead(0, 59, 0), 7);
        due("purse in 60, by the feast", x.ahead(0, 60, 0), 0);
        x.day();
        due("who got 1 on the last day", x.ahead(1, 0, 2), 0);
        due("wealth now", x.ahead(0, 0, 1), 2);
        HeadHill rich = after(199, "hill 9;runner 1 0;ware 1 50 1");
        due("9950", rich.ahead(0, 0, 1), 9950);
        due("9999", rich.ahead(0, 1, 1), 9999);
        due("9999 in 100", rich.ahead(0, 100, 1), 9999);
        HeadHill below = Checks.at("hill 60;runner 20 0;runner 1 0;ware 99 1 1");
        due("below 0", below.ahead(0, 5, 0), -5);
    }

    void promise15Ahead() {
        says("AHEAD what 0: PURSE, 1: WEALTH of the RUNNER, 2: who (NONE: nobody) GOT the WARE of that number."
                + " -1000 without these, or a HILL.");
        int[][] without = {{0, -1, 0}, {0, 101, 0}, {0, MIN, 1}, {0, MAX, 1}, {0, -1, 2}, {0, 101, 2}, {-1, 0, 0},
            {3, 0, 0}, {-1, 0, 1}, {3, 0, 1}, {-1, 0, 2}, {2, 0, 2}, {MIN, 0, 0}, {MAX, 0, 2}, {0, 0, -1}, {0, 0, 3},
            {0, 0, MIN}, {0, 0, MAX}};
        for (int[] w : without) {
            refused("ahead " + w[0] + " " + w[1] + " " + w[2], Scenes::rich, x -> x.ahead(w[0], w[1], w[2]), -1000);
        }
        HeadHill more = Checks.at("hill 9;runner 1 3;ware 1 1 1;ware 1 1 1");
        due("ware 1, though there is no runner 1", more.ahead(1, 0, 2), -1);
        due("no runner 1", more.ahead(1, 0, 0), -1000);
        due("no ware", Checks.at("hill 9;runner 1 3").ahead(0, 0, 2), -1000);
        due("a runner without wares", Checks.at("hill 9;runner 1 3").ahead(0, 0, 0), 3);
        due("no hill", new HeadHill().ahead(0, 0, 1), -1000);
    }

    void promise16OfAHundred() {
        says("GETS of a RUNNER: the first DAY, this one the first, of 100, on which they GET any WARE; which, the"
                + " least.");
        int[][] first = {{0, 0, 0}, {0, 1, 1}, {0, 98, 98}, {0, 99, 99}, {0, 100, -2}, {1, 0, -2}, {1, 1, 1},
            {1, 100, 100}, {1, 101, -2}, {5, 4, -2}, {5, 5, 5}, {5, 104, 104}, {5, 105, -2}};
        for (int[] f : first) {
            HeadHill x = by(after(f[0], "hill 60;runner 1 0;ware 1 1 1;ware 1 1 1"), "run ware if day=" + f[1]);
            due("from " + f[0] + " on day " + f[1], x.gets(0, 0), f[2]);
            due("from " + f[0] + " on day " + f[1] + ", which", x.gets(0, 1), f[2] < 0 ? -2 : 1);
        }
        HeadHill both = by(Checks.at("hill 9;runner 1 0;ware 1 1 1;ware 1 1 1"), "run 1 if day>3;run ware if day=3");
        due("the first of many", both.gets(0, 0), 3);
        due("that one's ware", both.gets(0, 1), 1);
    }

    /** As many RUNNERS and WARES as there can be: 4 runs for WARE 5, and wins only that. */
    private static HeadHill fullest() {
        HeadHill x = Checks.at("hill 60;runner 1 0;runner 1 0;runner 1 0;runner 1 0;runner 1 3"
                + ";ware 9 1 1;ware 9 2 1;ware 9 3 1;ware 9 4 1;ware 9 5 1;ware 9 6 1");
        return by(x, "run 1 if runner=4 and ware=5");
    }

    void promise16InTheFullestHill() {
        says("GETS of a RUNNER: the first DAY");
        due("4 gets ware 5", fullest().gets(4, 1), 5);
        due("0 gets none of six", fullest().gets(0, 1), -2);
        due("3 gets none of six", fullest().gets(3, 0), -2);
        due("4 has six in 1", fullest().ahead(4, 1, 1), 6);
        due("4 has 600 in 100", fullest().ahead(4, 100, 1), 600);
        due("who got 5", fullest().ahead(5, 1, 2), 4);
        due("need of 4", fullest().need(4, 60, 360), 0);
        due("lender of 4", fullest().lender(4, 60, 1), 360);
        due("had of 4 and 5", fullest().had(4, 20, 5, 0), 61);
        due("row of 0: ware 4", fullest().row(0, 1, 1), 4);
        due("row of 4: ware 5", fullest().row(4, 3, 3), 5);
        due("row of 0 in three", fullest().row(0, 3, 0), 15);
        due("falls", fullest().falls(10, 60, 100, 0), 3600);
        due("falls, purses", fullest().falls(10, 59, 0, 1), 30);
        due("rank of 4", fullest().rank(4, 9), 0);
        due("rank of 3", fullest().rank(3, 9), 4);
        due("pence", after(1, fullest()).pence(9999, 4), 9999);
    }

    void promise16Gets() {
        says("GETS what 0: the DAY, 1: the WARE; -2: on none of these. NONE without these.");
        HeadHill x = Checks.at("hill 60;runner 1 0;runner 20 40;ware 99 1 1", "run 1 if runner=1");
        x.force(0);
        due("never", x.gets(0, 0), -2);
        due("never, which", x.gets(0, 1), -2);
        due("at once", x.gets(1, 0), 0);
        due("at once, which", x.gets(1, 1), 0);
        due("no wares", Checks.at("hill 9;runner 1 1").gets(0, 1), -2);
        int[][] without = {{-1, 0}, {3, 0}, {MIN, 0}, {MAX, 1}, {0, -1}, {0, 2}, {0, MIN}, {0, MAX}};
        for (int[] w : without) {
            refused("gets " + w[0] + " " + w[1], Scenes::rich, y -> y.gets(w[0], w[1]), -1);
        }
    }

    void promise17AsOfTheFirst() {
        says("RANK of a RUNNER to FAR (1 to 99): how many are ahead of them, as of the FIRST.");
        HeadHill alike = Checks.at("hill 9" + ";runner 7 3".repeat(5));
        for (int r = 0; r < 5; r++) {
            due("alike " + r + " to 1", alike.rank(r, 1), r);
            due("alike " + r + " to 99", alike.rank(r, 99), r);
        }
        due("alone", Checks.at("hill 9;runner 1 0").rank(0, 99), 0);
        // 1/19 and 1/20; 99 - 40, 99/20; 1 - 40, 1/20.
        due("a 380th behind", Checks.at("hill 9;runner 19 0;runner 20 0").rank(0, 1), 1);
        HeadHill x = Checks.at("hill 9;runner 1 40;runner 20 0");
        due("far", x.rank(0, 99), 1);
        due("near", x.rank(0, 1), 0);
        due("the other far", x.rank(1, 99), 0);
        due("the other near", x.rank(1, 1), 1);
        // 42 2/19 - 40 against 2 2/19: alike only exactly.
        HeadHill exact = Checks.at("hill 9;runner 20 0;runner 1 19;runner 10 1");
        due("20/20, 20 - 19, 20/10 - 1: 0", exact.rank(0, 20), 0);
        due("1", exact.rank(1, 20), 1);
        due("2", exact.rank(2, 20), 2);
        due("21/20, 21 - 19, 21/10 - 1", exact.rank(2, 21), 1);
    }

    void promise17Rank() {
        says("RANK; NONE without these.");
        int[][] without = {{-1, 1}, {3, 1}, {MIN, 1}, {MAX, 1}, {0, 0}, {0, 100}, {0, -1}, {0, MIN}, {0, MAX}};
        for (int[] w : without) {
            refused("rank " + w[0] + " " + w[1], Scenes::rich, x -> x.rank(w[0], w[1]), -1);
        }
    }

    void promise18DaysAndWealth() {
        says("NEED of a RUNNER for n DAYS (1 to 60) and WEALTH (1 to 9999):");
        HeadHill x = Checks.at(ONE);
        due("1 in 1", x.need(0, 1, 1), 0);
        due("2 in 1", x.need(0, 1, 2), -2);
        due("60 in 60", x.need(0, 60, 60), 0);
        due("61 in 60", x.need(0, 60, 61), -2);
        due("9999 in 60", x.need(0, 60, 9999), -2);
        HeadHill dear = Checks.at("hill 60;runner 1 0;ware 1 50 1");
        due("50 in 1", dear.need(0, 1, 50), 0);
        due("51 in 1", dear.need(0, 1, 51), -2);
        due("3000 in 60", dear.need(0, 60, 3000), 0);
        due("3001 in 60", dear.need(0, 60, 3001), -2);
        HeadHill fifty = after(199, "hill 9;runner 1 0;ware 1 50 1");
        due("9999 of 9950", fifty.need(0, 1, 9999), 0);
        fifty.day();
        due("9999 of 9999", fifty.need(0, 1, 9999), 0);
        HeadHill had = by(after(1, ONE), "run 0");
        due("what they have counts", had.need(0, 1, 1), 0);
        due("one more does not come", had.need(0, 60, 2), -2);
    }

    /** Who runs, and so GETS, only with this PURSE on DAY 0. */
    private static HeadHill with(String purses) {
        return by(Checks.at("hill 60;runner 1 0;runner 1 40;ware 9 1 1"), "run 1 if day=0 and [" + purses + "]");
    }

    void promise18FewestSeconds() {
        says("the fewest seconds more, 0 to 60 (PURSE 99 at most), now, by which they have as much then.");
        due("0", with("runner=0 and purse=0").need(0, 1, 1), 0);
        due("1", with("runner=0 and purse=1").need(0, 1, 1), 1);
        due("60", with("runner=0 and purse=60").need(0, 1, 1), 60);
        due("61", with("runner=0 and purse=61").need(0, 1, 1), -2);
        due("not less", with("runner=0 and purse<0").need(0, 1, 1), -2);
        due("the fewest of many", with("runner=0 and [purse=33 or purse=22 or purse>44]").need(0, 1, 1), 22);
        due("to 99", with("runner=1 and purse=99").need(1, 1, 1), 59);
        due("not to 100", with("runner=1 and purse>99").need(1, 1, 1), -2);
        due("now, not on the day after", with("runner=0 and purse=5").need(0, 60, 1), 5);
        HeadHill least = with("runner=0 and [purse=0-39 or purse=0-38]");
        lendAll(least, 0, 1, 59);
        least.fall(1);
        lendAll(least, 0, 1, 40);
        due("from -99 to -39", least.need(0, 1, 1), 60);
        HeadHill beyond = with("runner=0 and purse=0-38");
        lendAll(beyond, 0, 1, 59);
        beyond.fall(1);
        lendAll(beyond, 0, 1, 40);
        purses("least", beyond, -99, 40);
        due("not from -99 to -38", beyond.need(0, 1, 1), -2);
        HeadHill most = with("runner=1 and purse=99");
        lendAll(most, 0, 1, 59);
        purses("most", most, -59, 99);
        due("from 99", most.need(1, 1, 1), 0);
        HeadHill full = with("runner=1 and purse>99");
        lendAll(full, 0, 1, 59);
        due("99 at most", full.need(1, 1, 1), -2);
    }

    void promise18Need() {
        says("NEED; -2: by none; NONE without these.");
        due("by none", Checks.at("hill 9;runner 1 0").need(0, 60, 1), -2);
        int[][] without = {{-1, 1, 1}, {3, 1, 1}, {MIN, 1, 1}, {MAX, 1, 1}, {0, 0, 1}, {0, 61, 1}, {0, MIN, 1},
            {0, MAX, 1}, {0, 1, 0}, {0, 1, 10000}, {0, 1, -1}, {0, 1, MIN}, {0, 1, MAX}};
        for (int[] w : without) {
            refused("need " + w[0] + " " + w[1] + " " + w[2], Scenes::rich, x -> x.need(w[0], w[1], w[2]), -1);
        }
    }

    void promise19Days() {
        says("LENDER of a RUNNER for n DAYS (1 to 60):");
        HeadHill x = Checks.at(ONE);
        due("in 1", x.lender(0, 1, 1), 1);
        due("in 60", x.lender(0, 60, 1), 60);
        HeadHill last = by(Checks.at("hill 60;runner 1 0;runner 1 9;ware 1 1 1"), "run 1 if day=59 and purse=3");
        due("the 60th day counts", last.lender(0, 60, 0), 1);
        due("and brings one", last.lender(0, 60, 1), 1);
        due("not of 59", last.lender(0, 59, 0), -1);
    }

    void promise19ThreeSeconds() {
        says("the other RUNNER from whom they had best have 3 seconds now (so that it can be LENT),");
        String town = "hill 60;runner 1 0;runner 1 0;runner 1 0;ware 9 1 1";
        int[] lenders = {-1, -1, 1, -1, -1};
        for (int purse = 1; purse <= 5; purse++) {
            HeadHill x = by(Checks.at(town), "run 1 if runner=0 and purse=" + purse);
            due("who for " + purse, x.lender(0, 1, 0), lenders[purse - 1]);
            due("how much for " + purse, x.lender(0, 1, 1), lenders[purse - 1] < 0 ? 0 : 1);
        }
        HeadHill given = by(Checks.at(town), "run 1 if runner=0 and lead=3;run 1 if runner=1 and purse>9");
        due("who gives has less: 3 and 0 of the third", given.lender(0, 1, 0), 1);
        HeadHill low = by(Checks.at(town), "run 1 if runner=0 and purse=3");
        lendAll(low, 1, 2, 96);
        due("-96 can", low.lender(0, 1, 0), 1);
        low.lend(1, 2, 1);
        due("-97 can't, the next one is it", low.lender(0, 1, 0), 2);
        HeadHill high = by(Checks.at(town), "run 1 if runner=0 and purse=99");
        lendAll(high, 1, 0, 96);
        high.fall(1);
        due("96 to 99", high.lender(0, 1, 0), 1);
        HeadHill full = by(Checks.at(town), "run 1 if runner=0 and purse=100");
        lendAll(full, 1, 0, 97);
        full.fall(1);
        due("97 can't have 100", full.lender(0, 1, 0), -1);
        due("and has nothing", full.lender(0, 1, 1), 0);
        HeadHill first = by(Checks.at(town), "run 1 if runner=2 and purse=3");
        due("0 is a lender, too", first.lender(2, 1, 0), 0);
        HeadHill middle = by(Checks.at(town), "run 1 if runner=1 and purse=3");
        lendAll(middle, 0, 2, 97);
        due("2 for 1, as 0 can't", middle.lender(1, 1, 0), 2);
        HeadHill self = by(Checks.at("hill 60;runner 1 0;ware 9 1 1"), "run 1 if purse=3");
        due("nobody lends to themselves", self.lender(0, 1, 0), -1);
    }

    void promise19OfSeveralNobody() {
        says("or nobody, so that their WEALTH is most then; of several nobody, then the least: how much.");
        String town = "hill 60;runner 1 0;runner 1 0;runner 1 6;runner 1 6;ware 9 1 1;ware 9 2 1;ware 9 3 1";
        due("all alike", by(Checks.at(town), "run 1").lender(0, 1, 0), -1);
        // With 3 of 1's: lead -3; of 2's: lead -3, too, as 3 has 6.
        HeadHill x = by(Checks.at(town),
                "run 1 if runner=0 and ware=2 and purse=3;run 1 if runner=0 and ware=0 and purse=0");
        due("the least of three", x.lender(0, 1, 0), 1);
        due("three", x.lender(0, 1, 1), 3);
        HeadHill better = by(Checks.at("hill 60;runner 1 0;runner 1 3;runner 1 6;ware 9 1 1;ware 9 2 1;ware 9 3 1"),
                "run 1 if runner=0 and purse=3 and lead=0-3 and ware=1;run 1 if runner=0 and lead=0 and ware=2"
                + ";run 1 if runner=0 and purse=0 and ware=0");
        // Of 1: 3, 0, 6, so lead -3, worth 2; of 2: 3, 3, 3, so lead 0, worth 3; of nobody: worth 1.
        due("the best, not the first", better.lender(0, 1, 0), 2);
        due("its worth", better.lender(0, 1, 1), 3);
        HeadHill had = after(3, Checks.at(ONE));
        due("whole wealth, what they have, too", had.lender(0, 1, 1), 4);
    }

    void promise19Lender() {
        says("LENDER what 0: who (NONE: nobody), 1: how much. -2 without these.");
        int[][] without = {{-1, 1, 0}, {3, 1, 0}, {MIN, 1, 0}, {MAX, 1, 0}, {0, 0, 0}, {0, 61, 0}, {0, MIN, 0},
            {0, MAX, 0}, {0, 1, -1}, {0, 1, 2}, {0, 1, MIN}, {0, 1, MAX}};
        for (int[] w : without) {
            refused("lender " + w[0] + " " + w[1] + " " + w[2], Scenes::rich, x -> x.lender(w[0], w[1], w[2]), -2);
        }
    }

    void promise20Days() {
        says("ROW of a RUNNER for n DAYS (1 to 3): the WARES for which they run on each, of those that are there,"
                + " or none, in place of what the RULE says (others by it),");
        // There on DAY 0: all; on DAY 1: 0 alone; on DAY 2: 0 and 1; on DAY 3: 0 and 2.
        HeadHill x = Checks.at("hill 60;runner 1 0;ware 1 1 1;ware 1 5 2;ware 1 9 3", "run 0");
        x.force(0);
        int[] much = {9, 10, 15};
        int[] which = {2, 0, 1};
        for (int n = 1; n <= 3; n++) {
            due("in " + n, x.row(0, n, 0), much[n - 1]);
            for (int day = 1; day <= 3; day++) {
                due("in " + n + " on " + day, x.row(0, n, day), day > n ? -2 : which[day - 1]);
            }
        }
        x.day();
        due("from day 1", x.row(0, 3, 0), 15);
        due("day 3", x.row(0, 3, 3), 2);
        // The other one runs by the RULE for the WARE most WORTH, and is faster.
        HeadHill two = Checks.at("hill 60;runner 1 0;runner 20 0;ware 9 5 1;ware 9 4 1");
        due("what is left", two.row(0, 1, 0), 4);
        due("ware 1", two.row(0, 1, 1), 1);
    }

    void promise20OfSeveralTheFirst() {
        says("by which their WEALTH is most then; of several the first (none ahead of WARE 0): how much; which.");
        HeadHill full = after(200, "hill 9;runner 1 0;ware 1 50 1");
        due("9999 however", full.row(0, 3, 0), 9999);
        for (int day = 1; day <= 3; day++) {
            due("none on " + day, full.row(0, 3, day), -1);
        }
        HeadHill beaten = Checks.at("hill 60;runner 1 0;runner 20 40;ware 99 5 1");
        due("nothing to get", beaten.row(0, 1, 0), 0);
        due("none", beaten.row(0, 1, 1), -1);
        HeadHill alike = after(1, "hill 60;runner 1 0;ware 1 5 1;ware 1 5 1;ware 1 4 1");
        due("whole wealth, what they have, too", alike.row(0, 2, 0), 15);
        due("the least of two", alike.row(0, 2, 1), 0);
        due("the least of two again", alike.row(0, 2, 2), 0);
        // 9990 and 10 more is 9999: 9 would do, on the first DAY or on the last; so it is the last.
        HeadHill near = by(after(199, "hill 9;runner 1 0;ware 1 50 1;ware 1 49 1;ware 1 40 1"), "run 1 if ware=2");
        near.day();
        wealth("near", near, 9990);
        due("9999", near.row(0, 2, 0), 9999);
        due("none first", near.row(0, 2, 1), -1);
        due("then the least", near.row(0, 2, 2), 0);
        due("no wares", Checks.at("hill 9;runner 1 1").row(0, 3, 0), 0);
        due("no wares: none", Checks.at("hill 9;runner 1 1").row(0, 3, 3), -1);
    }

    void promise20Row() {
        says("ROW what 0: how much, 1 to 3: the WARE on that one (NONE: none; -2: there is no such). -3 without"
                + " these.");
        HeadHill x = Checks.at(ONE);
        due("1 of 1", x.row(0, 1, 1), 0);
        due("2 of 1", x.row(0, 1, 2), -2);
        due("3 of 2", x.row(0, 2, 3), -2);
        due("3 of 3", x.row(0, 3, 3), 0);
        int[][] without = {{-1, 1, 0}, {3, 1, 0}, {MIN, 1, 0}, {MAX, 1, 0}, {0, 0, 0}, {0, 4, 0}, {0, MIN, 0},
            {0, MAX, 0}, {0, 1, -1}, {0, 1, 4}, {0, 3, 4}, {0, 1, MIN}, {0, 1, MAX}, {0, 0, 2}, {0, 4, 4}};
        for (int[] w : without) {
            refused("row " + w[0] + " " + w[1] + " " + w[2], Scenes::rich, y -> y.row(w[0], w[1], w[2]), -3);
        }
    }

    void promise21FewestGoes() {
        says("SETTLE: seconds that go from one RUNNER to another in one go, any many: the fewest goes by which all"
                + " PURSES are 0 (only if they are 0 together).");
        String five = "hill 60" + ";runner 1 0".repeat(5);
        int[][] lent = {{0, 0, 0, 0}, {1, 0, 0, 0}, {0, 0, 0, 99}, {49, 0, 0, 50}, {1, 1, 0, 0},
            {1, 2, 3, 0}, {1, 2, 4, 8}, {4, 3, 2, 1}, {24, 25, 25, 25}};
        for (int[] l : lent) {
            HeadHill x = Checks.at(five);
            for (int r = 0; r < 4; r++) {
                lendAll(x, 4, r, l[r]);
            }
            int goes = 0;
            for (int r = 0; r < 4; r++) {
                goes += l[r] > 0 ? 1 : 0;
            }
            due("4 gave " + l[0] + " " + l[1] + " " + l[2] + " " + l[3], x.settle(), goes);
        }
        HeadHill pairs = Checks.at(five);
        lendAll(pairs, 0, 1, 50);
        lendAll(pairs, 2, 3, 49);
        due("two pairs, one has 0", pairs.settle(), 2);
        pairs.lend(2, 4, 1);
        // -50 50 -50 49 1: a pair and three, not four.
        due("a pair and three", pairs.settle(), 3);
        due("no runners", Checks.at("hill 9").settle(), 0);
        due("one with 0", Checks.at("hill 9;runner 1 0").settle(), 0);
    }

    void promise21Settle() {
        says("SETTLE; -2: they are not 0 together; NONE without a HILL.");
        due("one above", Checks.at("hill 9;runner 1 0;runner 1 1").settle(), -2);
        HeadHill x = Checks.at("hill 9;runner 1 0;runner 1 1");
        x.lend(0, 1, 1);
        x.fall(1);
        due("one below", x.settle(), -2);
        x.lend(0, 1, 1);
        due("-2 and 1", x.settle(), -2);
        due("without a hill", new HeadHill().settle(), -1);
    }

    void promise22Sets() {
        says("RINGS: sets of RUNNERS, one at least, whose PURSES are 0 together: how many; the one of most, of"
                + " several the least as bits.");
        HeadHill five = Checks.at("hill 60" + ";runner 1 0".repeat(5));
        due("31 sets", five.rings(0), 31);
        due("all", five.rings(1), 31);
        due("one of one", Checks.at("hill 9;runner 1 0").rings(0), 1);
        due("that one", Checks.at("hill 9;runner 1 0").rings(1), 1);
        due("of two the last", Checks.at("hill 9;runner 1 1;runner 1 0").rings(1), 2);
        HeadHill x = Checks.at("hill 60;runner 1 3;runner 1 3;runner 1 0;runner 1 3;runner 1 9");
        x.lend(2, 4, 3);
        // 3 3 -3 3 12: each of three with 2.
        due("three", x.rings(0), 3);
        due("the least as bits", x.rings(1), 5);
        x.fall(0);
        // 0 3 -3 3 12: 0 alone, two, and these with 0.
        due("five", x.rings(0), 5);
        due("three of them, the least", x.rings(1), 1 + 2 + 4);
        HeadHill far = Checks.at("hill 60" + ";runner 1 0".repeat(5));
        lendAll(far, 0, 1, 99);
        lendAll(far, 2, 3, 99);
        far.fall(4);
        // -99 99 -99 99 0: of the four two sets by two, twice, and all; each with 4, too; and 4 alone.
        due("eleven", far.rings(0), 11);
        due("all five", far.rings(1), 31);
    }

    void promise22Rings() {
        says("RINGS what 0: how many, 1: the set (0: there is none). NONE for others, or without a HILL.");
        HeadHill none = Checks.at("hill 9;runner 1 1;runner 1 2");
        due("how many of none", none.rings(0), 0);
        due("there is none", none.rings(1), 0);
        due("no runners", Checks.at("hill 9").rings(0), 0);
        due("no runners, the set", Checks.at("hill 9").rings(1), 0);
        for (int what : new int[] {-1, 2, MIN, MAX}) {
            refused("rings " + what, Scenes::rich, x -> x.rings(what), -1);
        }
        due("without a hill 0", new HeadHill().rings(0), -1);
        due("without a hill 1", new HeadHill().rings(1), -1);
    }

    void promise23Days() {
        says("HAD of a RUNNER for n DAYS (1 to 20) and a WARE:");
        int[][] on = {{1, 0, 61}, {1, 1, 0}, {20, 19, 61}, {20, 20, 0}, {20, 18, 0}, {19, 18, 61}};
        for (int[] o : on) {
            due(o[0] + " days, got on " + o[1], by(Checks.at(ONE), "run 1 if day=" + o[1]).had(0, o[0], 0, 0), o[2]);
        }
    }

    void promise23NumbersAsPurse() {
        says("numbers -20 to 40 as PURSE now, in place of what it is, by which they GET that WARE on the last one"
                + " of these: how many; the least.");
        String[] purses = {"purse=0-21", "purse=0-20", "purse=0-19", "purse=40", "purse=41", "purse>0-100",
            "purse=0-20 or purse=40", "purse<0", "purse>39", "purse=7"};
        int[] many = {0, 1, 1, 1, 0, 61, 2, 20, 1, 1};
        int[] least = {-1000, -20, -19, 40, -1000, -20, -20, -20, 40, 7};
        for (int i = 0; i < purses.length; i++) {
            for (int seconds : new int[] {0, 40, 99}) {
                HeadHill x = by(Checks.at("hill 60;runner 1 0;runner 1 0;ware 1 1 1"),
                        "run 1 if runner=0 and [" + purses[i] + "]");
                lendAll(x, 0, 1, seconds);
                due(purses[i] + " with " + -seconds, x.had(0, 1, 0, 0), many[i]);
                due(purses[i] + " with " + -seconds + ", the least", x.had(0, 1, 0, 1), least[i]);
            }
        }
        // The other WARE is no matter, nor is it who else GETS this one.
        HeadHill y = by(Checks.at("hill 60;runner 1 0;runner 20 0;ware 9 1 1;ware 9 1 1"), "run 1+ware-ware*runner");
        due("the other ware", y.had(0, 1, 0, 0), 0);
        due("its own", y.had(0, 1, 1, 0), 61);
        due("the other runner", y.had(1, 1, 1, 0), 0);
    }

    void promise23Had() {
        says("HAD what 0: how many, 1: the least (-1000: there is none). -1001 without these.");
        HeadHill never = by(Checks.at(ONE), "run 0");
        due("none", never.had(0, 20, 0, 0), 0);
        due("no least", never.had(0, 20, 0, 1), -1000);
        int[][] without = {{-1, 1, 0, 0}, {3, 1, 0, 0}, {MIN, 1, 0, 0}, {MAX, 1, 0, 0}, {0, 0, 0, 0}, {0, 21, 0, 0},
            {0, MIN, 0, 0}, {0, MAX, 0, 0}, {0, 1, -1, 0}, {0, 1, 2, 0}, {0, 1, MIN, 0}, {0, 1, MAX, 0},
            {0, 1, 0, -1}, {0, 1, 0, 2}, {0, 1, 0, MIN}, {0, 1, 0, MAX}};
        for (int[] w : without) {
            refused("had " + w[0] + " " + w[1] + " " + w[2] + " " + w[3], Scenes::rich,
                    x -> x.had(w[0], w[1], w[2], w[3]), -1001);
        }
    }

    private void restsAre(String what, HeadHill x, int one, int other, int... due) {
        for (int i = 0; i < 3; i++) {
            due(what + ", " + i, x.rests(one, other, i), due[i]);
        }
    }

    void promise24ThatIsThereOrNone() {
        says("RESTS of two RUNNERS: each runs on this DAY for a WARE that is there, or none (told as NONE, ahead"
                + " of 0),");
        restsAre("no wares", Checks.at("hill 9;runner 1 3;runner 1 4"), 0, 1, 1, -1, -1);
        restsAre("none there", after(1, "hill 9;runner 1 3;runner 1 4;ware 1 9 2"), 0, 1, 1, -1, -1);
        // The dear WARE 0 is not there on DAY 1; each has one of the two others.
        HeadHill x = after(1, "hill 60;runner 1 0;runner 1 0;ware 9 50 2;ware 9 5 1;ware 9 5 1");
        restsAre("1 and 2, or 2 and 1", x, 0, 1, 2, 1, 2);
        // On a FEAST the slower one has nothing either way: none is ahead of WARE 0.
        HeadHill feast = Checks.at("hill 1;runner 20 0;runner 1 0;ware 9 1 1");
        restsAre("the slower one second", feast, 0, 1, 2, 0, -1);
        restsAre("the slower one first", feast, 1, 0, 2, -1, 0);
    }

    void promise24OthersByTheRule() {
        says("others by the RULE (rivals as it comes):");
        // 1 goes where 0 is not, or for WARE 0; it beats 2, and 2 beats 0.
        HeadHill round = by(Checks.at("hill 1;runner 9 1;runner 8 9;runner 8 3;ware 51 8 1;ware 6 6 2"),
                "run 2-rivals");
        restsAre("no rest", round, 0, 2, 0, -2, -2);
        // 2, the fastest, goes for the WARE with fewer of 0 and 1, or for WARE 0; 0 beats 1. So 0 at WARE 1 has it
        // always, and 1 nothing then, wherever it is; with 0 elsewhere 1 has a WARE, or 0 would turn to WARE 1.
        HeadHill x = by(Checks.at("hill 1;runner 9 0;runner 8 0;runner 20 0;ware 9 5 1;ware 9 5 1"), "run 2-rivals");
        restsAre("0 at ware 1, 1 anywhere", x, 0, 1, 3, 1, -1);
    }

    void promise24WealthDoubledAndPurse() {
        says("each has how much WEALTH they have more by this DAY, doubled, and their PURSE then:");
        // 0 GETS 1, doubled 2, and pays 2: no more than by none. 1 has a second by running, whoever GETS it.
        HeadHill x = Checks.at("hill 60;runner 20 0;runner 1 0;runner 2 0;ware 99 1 1");
        restsAre("2 less 2 is as good as none", x, 0, 1, 2, -1, 0);
        HeadHill dear = Checks.at("hill 60;runner 20 0;runner 1 0;runner 2 0;runner 1 0;ware 99 1 1");
        restsAre("2 less 3 is not", dear, 0, 1, 1, -1, 0);
        restsAre("2 less 2, turned", x, 1, 0, 2, 0, -1);
        restsAre("2 less 3, turned", dear, 1, 0, 1, 0, -1);
        HeadHill cheap = Checks.at("hill 60;runner 20 0;runner 1 0;ware 99 1 1");
        restsAre("2 less 1 is better", cheap, 0, 1, 1, 0, 0);
        // With 9999 there is nothing more to have: 0 only pays.
        HeadHill full = after(200, "hill 1;runner 20 0;runner 1 0;ware 9 50 1");
        wealth("full", full, 9999, 0);
        restsAre("on a feast all is one to 0", full, 0, 1, 3, -1, 0);
        // With 9950 both WARES bring 49: 0 may be at either, and 1, whom 0 beats, at the other one.
        HeadHill near = after(199, "hill 1;runner 20 0;runner 1 0;ware 9 50 1;ware 9 49 1");
        wealth("near", near, 9950, 0);
        restsAre("49 by 50 and by 49", near, 0, 1, 2, 0, 1);
        HeadHill low = Checks.at("hill 60;runner 20 0;runner 1 0;ware 99 1 1");
        lendAll(low, 0, 1, 90);
        // 0 is at 94.95, 1 at 9: 1 GETS it and pays a second if 0 runs.
        restsAre("whoever is first by purses", low, 0, 1, 1, 0, 0);
    }

    void promise24TheFirstTwo() {
        says("twos by which neither would have more by another one: how many; the first (by the first one, then"
                + " the second one).");
        HeadHill x = Checks.at("hill 1;runner 1 0;runner 1 0;ware 9 5 1;ware 9 5 1;ware 9 5 1");
        // 0 has 10 wherever it is, but for none; 1 has 10 where 0 is not: six twos, 0 with 1 the first.
        restsAre("six", x, 0, 1, 6, 0, 1);
        restsAre("six turned", x, 1, 0, 6, 0, 1);
        HeadHill y = Checks.at("hill 1;runner 1 0;runner 1 0;ware 9 5 1;ware 9 6 1");
        // 0 is first to both: it is at 1, and 1 at 0.
        restsAre("one", y, 0, 1, 1, 1, 0);
        restsAre("turned", y, 1, 0, 1, 0, 1);
    }

    void promise24Rests() {
        says("RESTS what 0: how many, 1, 2: WARES of the first (NONE: none; -2: there is no rest). -3 without"
                + " these (unlike).");
        int[][] without = {{0, 0, 0}, {2, 2, 1}, {-1, 0, 0}, {0, -1, 0}, {3, 0, 0}, {0, 3, 0}, {MIN, 0, 0},
            {0, MIN, 0}, {MAX, 0, 0}, {0, MAX, 0}, {0, 1, -1}, {0, 1, 3}, {0, 1, MIN}, {0, 1, MAX}, {-1, -1, 0}};
        for (int[] w : without) {
            refused("rests " + w[0] + " " + w[1] + " " + w[2], Scenes::rich, x -> x.rests(w[0], w[1], w[2]), -3);
        }
        HeadHill five = Checks.at("hill 60" + ";runner 1 0".repeat(5));
        // All six WARES are there, and each RUNNER is first to none that 4 runs for.
        HeadHill full = Checks.at("hill 1;runner 1 0;runner 1 0;runner 1 0;runner 1 0;runner 20 0"
                + ";ware 9 1 1;ware 9 2 1;ware 9 3 1;ware 9 4 1;ware 9 5 1;ware 9 6 1", "run 0");
        full.force(0);
        restsAre("ware 4 and ware 5 of six", full, 0, 4, 1, 4, 5);
        restsAre("turned, of six", full, 4, 0, 1, 5, 4);
        restsAre("the first and the last of five", five, 0, 4, 1, -1, -1);
        restsAre("turned", five, 4, 0, 1, -1, -1);
    }

    /** Five RUNNERS, each with a WARE of its own, of this WORTH. */
    private static HeadHill withWealth(int days, int... worth) {
        StringBuilder hill = new StringBuilder("hill 60");
        for (int w : worth) {
            hill.append(";runner 1 0;ware 1 ").append(w).append(" 1");
        }
        return after(days, by(Checks.at(hill.toString()), "run 1 if ware=runner"));
    }

    private void penceAre(HeadHill x, int much, int... due) {
        int all = 0;
        for (int r = 0; r < due.length; r++) {
            due("pence of " + much + " for " + r, x.pence(much, r), due[r]);
            all += due[r];
        }
        due("all of " + much, all, x.count(6) == 0 ? 0 : much);
    }

    void promise25Bounds() {
        says("PENCE (0 to 9999) among RUNNERS by WEALTH:");
        penceAre(withWealth(1, 1, 2, 3), 0, 0, 0, 0);
        penceAre(withWealth(1, 1, 2, 3), 1, 0, 0, 1);
        penceAre(withWealth(1, 1), 9999, 9999);
        penceAre(withWealth(200, 50, 50, 50, 50, 50), 9999, 2000, 2000, 2000, 2000, 1999);
        penceAre(withWealth(200, 50, 1), 9999, 9802 + 1, 196);
        due("9999 and 200", withWealth(200, 50, 1).count(6), 10199);
    }

    void promise25PartsDownwards() {
        says("each the part downwards; what is left, one each, to those whose part lost most by that, of several"
                + " the least first (nothing, if nobody has any).");
        penceAre(withWealth(1, 5, 5, 5, 5, 5), 5, 1, 1, 1, 1, 1);
        penceAre(withWealth(1, 5, 5, 5, 5, 5), 9, 2, 2, 2, 2, 1);
        penceAre(withWealth(1, 5, 5, 5, 5, 5), 6, 2, 1, 1, 1, 1);
        penceAre(withWealth(1, 5, 5, 5, 5, 5), 1, 1, 0, 0, 0, 0);
        // By 7 of 1 2 4: 1 2 4. By 8: 1 1/7, 2 2/7, 4 4/7. By 9: 1 2/7, 2 4/7, 5 1/7. By 10: 1 3/7, 2 6/7, 5 5/7.
        penceAre(withWealth(1, 1, 2, 4), 7, 1, 2, 4);
        penceAre(withWealth(1, 1, 2, 4), 8, 1, 2, 5);
        penceAre(withWealth(1, 1, 2, 4), 9, 1, 3, 5);
        penceAre(withWealth(1, 1, 2, 4), 10, 1, 3, 6);
        // By 2 of 3 1 3 1: 3/4 1/4 3/4 1/4. By 6: 2 1/4, 3/4, 2 1/4, 3/4.
        penceAre(withWealth(1, 3, 1, 3, 1), 2, 1, 0, 1, 0);
        penceAre(withWealth(1, 3, 1, 3, 1), 1, 1, 0, 0, 0);
        penceAre(withWealth(1, 3, 1, 3, 1), 6, 2, 1, 2, 1);
        penceAre(withWealth(1, 3, 1, 3, 1), 5, 2, 1, 2, 0);
        penceAre(withWealth(0, 3, 1), 9999, 0, 0);
    }

    void promise25Pence() {
        says("PENCE of a RUNNER; NONE without these.");
        int[][] without = {{-1, 0}, {10000, 0}, {MIN, 0}, {MAX, 0}, {1, -1}, {1, 3}, {1, MIN}, {1, MAX}};
        for (int[] w : without) {
            refused("pence " + w[0] + " " + w[1], Scenes::rich, x -> x.pence(w[0], w[1]), -1);
        }
        due("no runners", Checks.at("hill 9").pence(1, 0), -1);
    }
}
