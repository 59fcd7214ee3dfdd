/** Edges of a DAY and of ACTS: promises 7 to 14. */
final class DayEdges extends Edges {
    /** One who pays, two who may be paid, and one who only lends and never runs. */
    private static final String PAYERS = "hill 60;runner 20 5;runner 1 0;runner 1 0;runner 1 0;ware 99 5 1";

    DayEdges(Checks checks, Document document) {
        super(checks, document);
    }

    void promise07Runner() {
        says("Of a RUNNER what 0: SPEED, 1: PURSE (below 0, too), 2: WEALTH. -1000 without these.");
        HeadHill x = Checks.at("hill 9;runner 20 0;runner 1 40;ware 99 50 1");
        lendAll(x, 0, 1, 59);
        due("below 0", x.runner(0, 1), -59);
        due("99", x.runner(1, 1), 99);
        due("speed 20", x.runner(0, 0), 20);
        due("speed 1", x.runner(1, 0), 1);
        x.day();
        due("wealth", x.runner(1, 2), 50);
        due("none", x.runner(0, 2), 0);
        int[][] without = {{-1, 0}, {3, 0}, {MIN, 1}, {MAX, 1}, {0, -1}, {0, 3}, {2, 3}, {0, MIN}, {0, MAX}, {4, 2}};
        for (int[] w : without) {
            refused("runner " + w[0] + " " + w[1], Scenes::rich, y -> y.runner(w[0], w[1]), -1000);
        }
        due("no runners", Checks.at("hill 9;ware 1 1 1").runner(0, 0), -1000);
        due("the fifth", Checks.at("hill 9" + ";runner 1 0".repeat(4) + ";runner 3 0").runner(4, 0), 3);
    }

    void promise08Ware() {
        says("Of a WARE what 0: FAR, 1: WORTH, 2: EVERY, 3: 1 if it is there, else 0, 4: who GOT it on the last"
                + " DAY that has been (NONE: nobody). -2 without these.");
        HeadHill x = Checks.at("hill 9;runner 1 0;runner 2 0;ware 99 50 2;ware 1 1 9");
        int[][] due = {{99, 50, 2, 1, -1}, {1, 1, 9, 1, -1}};
        for (int w = 0; w < 2; w++) {
            for (int what = 0; what < 5; what++) {
                due("ware " + w + " " + what, x.ware(w, what), due[w][what]);
            }
        }
        x.day();
        due("1 got it", x.ware(0, 4), 1);
        due("not there", x.ware(0, 3), 0);
        x.day();
        due("nobody got it on the last day", x.ware(0, 4), -1);
        due("there", x.ware(0, 3), 1);
        int[][] without = {{-1, 0}, {2, 0}, {MIN, 1}, {MAX, 1}, {0, -1}, {0, 5}, {1, 5}, {0, MIN}, {0, MAX}, {5, 4}};
        for (int[] w : without) {
            refused("ware " + w[0] + " " + w[1], Scenes::rich, y -> y.ware(w[0], w[1]), -2);
        }
        due("no wares", Checks.at("hill 9;runner 1 1").ware(0, 0), -2);
        due("the sixth", Checks.at("hill 9" + ";ware 1 1 1".repeat(5) + ";ware 3 1 1").ware(5, 0), 3);
    }

    void promise09GotByNobody() {
        says("(2) Each WARE is GOT by who is FIRST to it of all that run for it (by nobody, if none does; all by"
                + " PURSES as the DAY began):");
        HeadHill x = by(Checks.at("hill 9;runner 9 0;runner 1 0;ware 1 5 1;ware 1 5 1;ware 1 5 1"),
                "run 1 if runner=1 and ware=0;run 1 if runner=0 and ware=2");
        due("0 and 2", x.day(), 5);
        due("the slow one, as the fast one does not run for it", x.ware(0, 4), 1);
        due("nobody", x.ware(1, 4), -1);
        due("0", x.ware(2, 4), 0);
        x.force(-1);
        x.day();
        due("all for 0", x.ware(0, 4), 0);
        due("nobody any more", x.ware(2, 4), -1);
        // 0 leads by 1 second and pays 1: only on the DAY after that they are alike.
        HeadHill y = Checks.at("hill 9;runner 1 0;runner 1 1;ware 9 5 1");
        y.day();
        due("1 by its second", y.ware(0, 4), 1);
        y.day();
        due("0 by the second that it was paid", y.ware(0, 4), 0);
    }

    void promise09WealthAtMost9999() {
        says("that one has WORTH more WEALTH (9999 at most).");
        HeadHill x = by(after(199, "hill 9;runner 1 0;ware 1 50 1;ware 1 49 1;ware 1 1 1"), "run 1 if ware=1");
        wealth("199 by 50", x, 9950);
        x.day();
        wealth("to 9999", x, 9999);
        by(x, "run 1 if ware=2");
        due("it is got all the same", x.day(), 4);
        wealth("one more", x, 9999);
        due("of all", x.count(6), 9999);
        x.force(-1);
        x.undo();
        x.undo();
        x.day();
        wealth("to 10000", x, 9999);
        HeadHill y = by(after(199, "hill 9;runner 1 0;ware 1 50 1;ware 1 48 1"), "run ware");
        y.day();
        wealth("to 9998", y, 9998);
        y.day();
        wealth("and beyond", y, 9999);
    }

    void promise09GivesASecondToEach() {
        says("(3) Who GOT one gives a second to each other who ran for it, by WARES, then RUNNERS, by numbers,");
        HeadHill x = Checks.at("hill 60;runner 1 0;runner 1 0;runner 20 0;runner 1 0;runner 1 0;ware 99 5 1");
        x.day();
        purses("2 gives one to each", x, 1, 1, -4, 1, 1);
        HeadHill alone = after(1, "hill 60;runner 1 7;ware 1 1 1");
        purses("alone", alone, 7);
        // 0 and 1 run for WARE 0, 2, 3 and 4 for WARE 1.
        HeadHill y = by(Checks.at("hill 60;runner 20 0;runner 1 0;runner 1 0;runner 1 0;runner 20 0"
                + ";ware 99 5 1;ware 99 5 1"), "run 1 if ware=0 and runner<2;run 1 if ware=1 and runner>1");
        y.day();
        purses("0 gives one, 4 gives two", y, -1, 1, 1, 1, -2);
    }

    /** RUNNER 0 at -98 is FIRST of 0 to 2, at 102.95 and twice 119 seconds. */
    private static HeadHill payerNearTheLeast() {
        HeadHill x = Checks.at(PAYERS);
        x.lend(1, 0, 20);
        x.lend(2, 0, 20);
        x.fall(0);
        lendAll(x, 0, 3, 98);
        return by(x, "run 1 if runner<3");
    }

    void promise09OwnPurseAboveTheLeast() {
        says("if their own PURSE is above -99,");
        HeadHill x = payerNearTheLeast();
        purses("ahead", x, -98, -20, -20, 98);
        x.day();
        due("0 got it", x.ware(0, 4), 0);
        purses("the first of two is paid, then it has -99", x, -99, -19, -20, 98);
        x.day();
        due("0 got it again", x.ware(0, 4), 0);
        purses("nobody is paid", x, -99, -19, -20, 98);
        wealth("all the same", x, 10, 0, 0, 0);
        HeadHill y = payerNearTheLeast();
        y.lend(1, 0, 1);
        y.day();
        purses("-97 pays both", y, -99, -20, -19, 98);
    }

    void promise09PurseOfTheOtherBelowTheMost() {
        says("and that of the other below 99.");
        HeadHill x = Checks.at(PAYERS);
        lendAll(x, 3, 1, 99);
        x.fall(3);
        lendAll(x, 3, 2, 98);
        by(x, "run 1 if runner<3");
        purses("ahead", x, 5, 99, 98, -98);
        x.day();
        // At -0.05, 0 and 1 seconds.
        due("0 got it", x.ware(0, 4), 0);
        purses("99 is paid nothing, 98 is", x, 4, 99, 99, -98);
        x.lend(2, 0, 1);
        x.lend(2, 3, 1);
        x.lend(1, 3, 1);
        purses("one and two less", x, 5, 98, 97, -96);
        x.day();
        purses("both are paid", x, 3, 99, 98, -96);
    }

    void promise09Feast() {
        says("(4) If the rest of DAY by FEAST is FEAST - 1: all PURSES are 0.");
        HeadHill one = Checks.at("hill 1;runner 1 40;runner 1 3");
        one.lend(1, 0, 9);
        one.day();
        purses("each day of 1", one, 0, 0);
        one.lend(0, 1, 2);
        one.day();
        purses("the next one, too", one, 0, 0);
        HeadHill sixty = Checks.at("hill 60;runner 1 40;runner 1 0;runner 1 0");
        sixty.lend(1, 2, 20);
        after(59, sixty);
        purses("days 0 to 58", sixty, 40, -20, 20);
        sixty.day();
        purses("day 59", sixty, 0, 0, 0);
        sixty.lend(1, 2, 20);
        after(59, sixty);
        purses("days 60 to 118", sixty, 0, -20, 20);
        sixty.day();
        purses("day 119", sixty, 0, 0, 0);
        HeadHill two = Checks.at("hill 2;runner 1 40");
        two.day();
        purses("day 0 of 2", two, 40);
        two.day();
        purses("day 1 of 2", two, 0);
        // What is paid on a FEAST is gone as well.
        HeadHill paid = after(1, "hill 1;runner 1 0;runner 20 0;ware 9 9 1");
        purses("paid and spent", paid, 0, 0);
        wealth("but got", paid, 0, 9);
    }

    /** More calls than an object is promised for: it holds there, too. */
    void promise09DayAtMost999() {
        says("DAY is 1 more (999 at most).");
        HeadHill x = after(998, "hill 60;runner 1 0;ware 1 1 9");
        due("day", x.count(5), 998);
        due("999 is no day for it", x.day(), 0);
        due("day then", x.count(5), 999);
        due("no more", x.day(), -1);
        due("day stays", x.count(5), 999);
        due("acts stay", x.count(9), 20);
        due("there on 999", x.count(7), 1);
    }

    void promise09DayBits() {
        says("A DAY: WARES that are GOT on it, as bits;");
        String town = "hill 60;runner 1 0;runner 1 0;runner 1 0;runner 1 0;runner 1 0"
                + ";ware 1 1 1;ware 1 1 1;ware 1 1 1;ware 1 1 1;ware 1 1 1;ware 1 1 1";
        due("none", by(Checks.at(town), "run 0").day(), 0);
        due("the last five", by(Checks.at(town), "run 1 if ware=runner+1").day(), 62);
        due("the first five", by(Checks.at(town), "run 1 if ware=runner").day(), 31);
        due("the last", by(Checks.at(town), "run ware").day(), 32);
        due("the first", Checks.at(town).day(), 1);
        HeadHill x = Checks.at(town);
        x.day();
        due("one day more", x.count(5), 1);
        due("one act", x.count(9), 1);
    }

    void promise09NoDay() {
        says("NONE, and nothing happens, without a HILL, or at DAY 999.");
        refused("without a hill", HeadHill::new, HeadHill::day, -1);
        refused("without a hill, with rules", () -> Checks.at("", "run 1"), HeadHill::day, -1);
        refused("at day 999", () -> after(999, "hill 60;runner 1 0;ware 1 1 1"), HeadHill::day, -1);
    }

    void promise10Seconds() {
        says("ACTS: a DAY; LEND (1 to 20 seconds from one RUNNER to another,");
        String town = "hill 9;runner 1 7;runner 1 0;ware 1 1 1";
        HeadHill x = Checks.at(town);
        due("1", x.lend(0, 1, 1), 6);
        due("20", x.lend(0, 1, 20), -14);
        due("back", x.lend(1, 0, 20), 1);
        purses("lent", x, 6, 1);
        due("three acts", x.count(9), 3);
        for (int seconds : new int[] {0, 21, 22, -1, -20, MIN, MAX}) {
            refused("lend " + seconds, () -> Checks.at(town), y -> y.lend(0, 1, seconds), -1000);
        }
    }

    void promise10PursesStayWithin() {
        says("so that no PURSE is below -99 or above 99);");
        Maker low = () -> {
            HeadHill x = Checks.at("hill 9;runner 1 0;runner 1 0;runner 1 0");
            lendAll(x, 0, 1, 80);
            x.fall(1);
            return x;
        };
        due("-80 to -99", low.make().lend(0, 1, 19), -99);
        refused("-80 to -100", low, x -> x.lend(0, 1, 20), -1000);
        Maker least = () -> {
            HeadHill x = low.make();
            x.lend(0, 1, 19);
            return x;
        };
        refused("-99 to -100", least, x -> x.lend(0, 1, 1), -1000);
        due("-99 may be given", least.make().lend(1, 0, 1), 18);
        Maker high = () -> {
            HeadHill x = Checks.at("hill 9;runner 1 0;runner 1 0;runner 1 0");
            lendAll(x, 0, 1, 80);
            x.fall(0);
            return x;
        };
        due("80 to 99", high.make().lend(0, 1, 19), -19);
        refused("80 to 100", high, x -> x.lend(0, 1, 20), -1000);
        Maker most = () -> {
            HeadHill x = high.make();
            x.lend(2, 1, 19);
            return x;
        };
        refused("99 to 100", most, x -> x.lend(0, 1, 1), -1000);
        due("99 may give", most.make().lend(1, 0, 1), 98);
    }

    void promise10Lend() {
        says("LEND: PURSE of the first one then (below 0, too). -1000, and nothing happens, without these (unlike,"
                + " 1 to 20, so that it can be).");
        due("to 0", Checks.at(Scenes.TOWN).lend(0, 2, 5), 0);
        due("to -1", Checks.at(Scenes.TOWN).lend(0, 2, 6), -1);
        int[][] without = {{0, 0, 1}, {2, 2, 1}, {-1, 0, 1}, {0, -1, 1}, {3, 0, 1}, {0, 3, 1}, {4, 0, 1}, {MIN, 0, 1},
            {0, MIN, 1}, {MAX, 0, 1}, {0, MAX, 1}, {-1, -1, 1}, {0, 1, 0}, {0, 1, 21}};
        for (int[] w : without) {
            refused("lend " + w[0] + " " + w[1] + " " + w[2], Scenes::rich, x -> x.lend(w[0], w[1], w[2]), -1000);
        }
    }

    void promise11NotZero() {
        says("FALL (a RUNNER's PURSE, not 0, is 0);");
        HeadHill x = Checks.at("hill 9;runner 1 1;runner 1 1;runner 1 0");
        x.lend(1, 2, 2);
        due("1", x.fall(0), 1);
        due("-1", x.fall(1), -1);
        due("2", x.fall(2), 2);
        purses("fallen", x, 0, 0, 0);
        due("four acts", x.count(9), 4);
        Maker fallen = () -> Checks.at("hill 9;runner 1 1;runner 1 0");
        refused("0", fallen, y -> y.fall(1), -1000);
    }

    void promise11Fall() {
        says("FALL: what it was (below 0, too); -1000, and nothing happens, without these.");
        HeadHill x = Checks.at("hill 9;runner 1 0;runner 1 0");
        lendAll(x, 0, 1, 99);
        due("least", x.fall(0), -99);
        due("most", x.fall(1), 99);
        for (int runner : new int[] {-1, 3, 4, 5, MIN, MAX}) {
            refused("fall " + runner, Scenes::rich, y -> y.fall(runner), -1000);
        }
        refused("fallen", Scenes::rich, y -> y.fall(2), -1000);
    }

    void promise12FarOtherwise() {
        says("SHIFT (a WARE is FAR otherwise, 1 to 99);");
        HeadHill x = Checks.at("hill 9;runner 1 0;ware 2 1 1;ware 98 1 1");
        due("to 1", x.shift(0, 1), 2);
        due("to 99", x.shift(1, 99), 98);
        due("far 1", x.ware(0, 0), 1);
        due("far 99", x.ware(1, 0), 99);
        due("from 1 to 99", x.shift(0, 99), 1);
        due("from 99 to 1", x.shift(1, 1), 99);
        due("acts", x.count(9), 4);
        for (int far : new int[] {0, 100, -1, MIN, MAX}) {
            refused("shift to " + far, Scenes::rich, y -> y.shift(0, far), -1);
        }
    }

    void promise12Shift() {
        says("SHIFT: how FAR it was; NONE, and nothing happens, without these (another one).");
        refused("the same", Scenes::rich, x -> x.shift(0, 50), -1);
        due("one less", Scenes.rich().shift(0, 49), 50);
        due("one more", Scenes.rich().shift(0, 51), 50);
        for (int ware : new int[] {-1, 2, 5, 6, MIN, MAX}) {
            refused("shift of " + ware, Scenes::rich, x -> x.shift(ware, 7), -1);
        }
        // The text still says 12, now it is 50: 12 is another one again.
        due("back to what the text told", Scenes.rich().shift(0, 12), 50);
    }

    void promise13AnotherSpeed() {
        says("TRAIN (a RUNNER has another SPEED, 1 to 20).");
        HeadHill x = Checks.at("hill 9;runner 2 0;runner 19 0");
        due("to 1", x.train(0, 1), 2);
        due("to 20", x.train(1, 20), 19);
        due("from 1 to 20", x.train(0, 20), 1);
        due("from 20 to 1", x.train(1, 1), 20);
        due("speed 20", x.runner(0, 0), 20);
        due("speed 1", x.runner(1, 0), 1);
        due("acts", x.count(9), 4);
        for (int speed : new int[] {0, 21, -1, MIN, MAX}) {
            refused("train to " + speed, Scenes::rich, y -> y.train(0, speed), -1);
        }
    }

    void promise13Train() {
        says("TRAIN: which SPEED it was; NONE, and nothing happens, without these (another one).");
        refused("the same", Scenes::rich, x -> x.train(1, 9), -1);
        due("one less", Scenes.rich().train(1, 8), 9);
        due("one more", Scenes.rich().train(1, 10), 9);
        due("back to what the text told", Scenes.rich().train(1, 4), 9);
        for (int runner : new int[] {-1, 3, 4, 5, MIN, MAX}) {
            refused("train of " + runner, Scenes::rich, x -> x.train(runner, 7), -1);
        }
    }

    void promise14TwentyActs() {
        says("The last 20 ACTS can be UNDONE, the last first.");
        for (int acts : new int[] {19, 20, 21, 39, 40, 41, 60}) {
            HeadHill x = Checks.at("hill 9;ware 1 1 1");
            for (int i = 1; i <= acts; i++) {
                due("shift", x.shift(0, 1 + i), i);
            }
            int can = Math.min(20, acts);
            due("acts of " + acts, x.count(9), can);
            for (int left = can - 1; left >= 0; left--) {
                due("undo of " + acts, x.undo(), left);
                due("far with " + left + " left", x.ware(0, 0), 1 + acts - can + left);
            }
            due("none of " + acts, x.undo(), -2);
            due("far stays", x.ware(0, 0), 1 + acts - can);
        }
    }

    void promise14EachKindOfAct() {
        says("The last ACT is UNDONE: how many more can be;");
        HeadHill x = Checks.at("hill 1;runner 2 5;runner 4 9;ware 12 10 1");
        due("lend", x.lend(0, 1, 6), -1);
        due("fall", x.fall(0), -1);
        due("shift", x.shift(0, 13), 12);
        due("train", x.train(0, 20), 2);
        due("day", x.day(), 1);
        purses("a feast", x, 0, 0);
        due("the day", x.undo(), 4);
        purses("ahead of the day", x, 0, 15);
        wealth("ahead of the day", x, 0, 0);
        due("nobody got it", x.ware(0, 4), -1);
        due("day 0", x.count(5), 0);
        due("the train", x.undo(), 3);
        due("speed", x.runner(0, 0), 2);
        due("the shift", x.undo(), 2);
        due("far", x.ware(0, 0), 12);
        due("the fall", x.undo(), 1);
        purses("ahead of the fall", x, -1, 15);
        due("the lend", x.undo(), 0);
        purses("as told", x, 5, 9);
        due("then another act", x.fall(1), 9);
        due("that one", x.undo(), 0);
    }

    void promise14WhatIsNoAct() {
        says("ACTS: a DAY; LEND");
        HeadHill x = after(1, Checks.at(Scenes.TOWN, "run 1"));
        x.force(0);
        x.seed(9);
        x.note(1, 1, 1);
        x.image(0);
        Checks.tell(x, "run 1");
        x.lend(0, 0, 1);
        x.fall(9);
        x.shift(0, 12);
        x.train(0, 2);
        due("one act", x.count(9), 1);
        due("undone", x.undo(), 0);
        due("in force", x.count(4), 0);
        due("x", x.count(10), 9);
        due("notes", x.count(8), 1);
        due("bytes", x.count(11), 5);
        due("image", x.back(0), 1);
    }

    void promise14NoneCan() {
        says("-2, and nothing happens: none can.");
        refused("a new object", HeadHill::new, HeadHill::undo, -2);
        refused("a new hill", () -> Checks.at(Scenes.TOWN, "run 1"), HeadHill::undo, -2);
        Maker all = () -> {
            HeadHill x = Scenes.rich();
            for (int i = 0; i < 6; i++) {
                x.undo();
            }
            return x;
        };
        refused("all are undone", all, HeadHill::undo, -2);
        Maker more = () -> {
            HeadHill x = Checks.at("hill 9;ware 1 1 1");
            for (int i = 0; i < 25; i++) {
                x.shift(0, 50 + i);
            }
            for (int i = 0; i < 20; i++) {
                x.undo();
            }
            return x;
        };
        due("far after five", more.make().ware(0, 0), 54);
        refused("all of twenty are undone", more, HeadHill::undo, -2);
    }
}
