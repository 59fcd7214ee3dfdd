/** Edges of NOTES, RULED, LOOK, DRAWS, counts and IMAGES: promises 26 to 33. */
final class KeepEdges extends Edges {
    private static final String NO_WARES = "hill 60;runner 1 %d;runner 1 %d;runner 1 %d";

    KeepEdges(Checks checks, Document document) {
        super(checks, document);
    }

    void promise26NoteBounds() {
        says("NOTES 0 to 9, told: on the n-th DAY of all (0 to 60) a WARE was GOT by a RUNNER, or by nobody (NONE).");
        HeadHill x = Checks.at("hill 9" + ";runner 1 0".repeat(5) + ";ware 1 1 1".repeat(6));
        int[][] told = {{0, 0, 0}, {60, 5, 4}, {59, 0, -1}, {1, 5, -1}, {0, 0, 0}, {60, 0, -1}, {30, 3, 3}, {2, 1, 0},
            {2, 1, 0}, {60, 5, 4}};
        for (int i = 0; i < told.length; i++) {
            due("note " + i, x.note(told[i][0], told[i][1], told[i][2]), i + 1);
            due("notes", x.count(8), i + 1);
        }
        due("an eleventh", x.note(0, 0, 0), -2);
        due("still ten", x.count(8), 10);
    }

    void promise26NoteIsSo() {
        says("on the n-th DAY of all (0 to 60)");
        for (int day : new int[] {0, 1, 59, 60}) {
            for (int at : new int[] {0, 3}) {
                HeadHill x = after(at, Checks.at("hill 60;runner 1 0;ware 1 1 1", "run 1 if day=" + day));
                x.note(day, 0, 0);
                due("none and the rule on day " + day, x.ruled(0), 2);
                x.note(day == 0 ? 1 : day - 1, 0, -1);
                due("the rule alone on day " + day, x.ruled(1), 0);
                due("one", x.ruled(0), 1);
            }
        }
    }

    void promise26Note() {
        says("A NOTE (n NONE: there are none then, 0): how many; -2, and nothing happens, without these (runner"
                + " NONE: nobody),");
        int[][] without = {{-2, 0, 0}, {61, 0, 0}, {MIN, 0, 0}, {MAX, 0, 0}, {0, -1, 0}, {0, 2, 0}, {0, MIN, 0},
            {0, MAX, 0}, {0, 0, -2}, {0, 0, 3}, {0, 0, MIN}, {0, 0, MAX}};
        for (int[] w : without) {
            refused("note " + w[0] + " " + w[1] + " " + w[2], Scenes::rich, x -> x.note(w[0], w[1], w[2]), -2);
        }
        refused("no hill", HeadHill::new, x -> x.note(0, 0, -1), -2);
        refused("no wares", () -> Checks.at("hill 9;runner 1 1"), x -> x.note(0, 0, 0), -2);
        due("no runners, but nobody", Checks.at("hill 9;ware 1 1 1").note(0, 0, -1), 1);
        HeadHill x = Scenes.rich();
        due("two", x.count(8), 2);
        due("none then, whatever else is told", x.note(-1, MIN, MAX), 0);
        due("none", x.count(8), 0);
        due("all are so", x.ruled(0), 3);
        due("none of none", x.note(-1, 0, 0), 0);
        due("the first again", x.note(0, 0, 0), 1);
        due("without a hill none, too", new HeadHill().note(-1, 0, 0), 0);
    }

    void promise26TenNotes() {
        says("or if there are 10.");
        Maker ten = () -> {
            HeadHill x = Scenes.rich();
            for (int i = 2; i < 10; i++) {
                x.note(i, 0, -1);
            }
            return x;
        };
        due("ten", ten.make().count(8), 10);
        refused("an eleventh", ten, x -> x.note(0, 0, 0), -2);
        refused("an eleventh that is wrong", ten, x -> x.note(61, 0, 0), -2);
        HeadHill x = ten.make();
        due("none then", x.note(-1, 0, 0), 0);
        due("room again", x.note(0, 0, 0), 1);
        // Each of the ten counts: nine are so, the tenth is not.
        for (int wrong = 0; wrong < 10; wrong++) {
            HeadHill y = Checks.at("hill 60;runner 1 0;ware 1 1 1");
            for (int i = 0; i < 10; i++) {
                y.note(i, 0, i == wrong ? -1 : 0);
            }
            due("note " + wrong + " is not so", y.ruled(0), 0);
        }
        HeadHill all = Checks.at("hill 60;runner 1 0;ware 1 1 1");
        for (int i = 0; i < 10; i++) {
            all.note(i, 0, 0);
        }
        due("all are so", all.ruled(0), 1);
    }

    void promise27FromTheBeginOn() {
        says("RULED: which of the RULES, and of none, so that from the begin on, all as the text told it, all"
                + " NOTES are so: how many; the first (none ahead of 0, told as NONE).");
        String town = "hill 60;runner 1 5;runner 1 0;ware 9 5 1;ware 9 4 1";
        HeadHill x = Checks.at(town, "run 0", "run ware", "run worth", "run 1", "run 2", "run 3");
        due("six and none", x.ruled(0), 7);
        due("none is the first", x.ruled(1), -1);
        x.note(0, 0, -1);
        due("rules 0 and 1", x.ruled(0), 2);
        due("0", x.ruled(1), 0);
        x.note(0, 1, 0);
        due("rule 1", x.ruled(0), 1);
        due("1", x.ruled(1), 1);
        x.note(-1, 0, 0);
        x.note(0, 0, 0);
        due("all but 0 and 1", x.ruled(0), 5);
        // Seconds lent, falls, wares moved, speeds and DAYS: RULED goes by the text.
        x.lend(0, 1, 20);
        x.fall(1);
        x.shift(0, 99);
        x.train(1, 20);
        x.day();
        x.force(0);
        due("as the text told it", x.ruled(0), 5);
        due("none", x.ruled(1), -1);
        HeadHill bare = Checks.at("hill 60;runner 1 5;ware 9 5 1");
        due("none alone", bare.ruled(0), 1);
        bare.note(0, 0, -1);
        due("not even none", bare.ruled(0), 0);
        due("no first", bare.ruled(1), -2);
        due("a rule told behind the note", Checks.rule(bare, "run 0"), 0);
        due("is so", bare.ruled(1), 0);
    }

    void promise27Ruled() {
        says("RULED what 0: how many, 1: the first (NONE: none; -2: there is none such). -3 for others, or without"
                + " a HILL.");
        for (int what : new int[] {-1, 2, MIN, MAX}) {
            refused("ruled " + what, Scenes::rich, x -> x.ruled(what), -3);
        }
        due("without a hill 0", Checks.at("", "run 1").ruled(0), -3);
        due("without a hill 1", Checks.at("", "run 1").ruled(1), -3);
        due("a bare hill", Checks.at("hill 1").ruled(0), 1);
        due("a bare hill, the first", Checks.at("hill 1").ruled(1), -1);
    }

    void promise28PartBest() {
        says("LOOK for the n-th DAY: the WARE by who GOT it on it these part best: the most alike are fewest, of"
                + " several the least; how many.");
        String town = "hill 60;runner 1 0;runner 2 0;ware 9 5 1;ware 9 4 1";
        // WARE 0 by 1, by 0, by nobody and by nobody; WARE 1 by nobody, by nobody, by nobody and by 1.
        HeadHill x = Checks.at(town, "run 1 if runner=0", "run 0", "run ware");
        due("ware 0", x.look(0, 0), 0);
        due("two of four are alike", x.look(0, 1), 2);
        x.note(0, 0, -1);
        due("then ware 1", x.look(0, 0), 1);
        due("one each", x.look(0, 1), 1);
        x.note(0, 1, -1);
        due("one alone: the least ware", x.look(0, 0), 0);
        due("one", x.look(0, 1), 1);
        // WARES 0 and 1 part alike, two and two.
        HeadHill alike = Checks.at(town, "run ware", "run ware*2", "run worth");
        due("the least of two", alike.look(0, 0), 0);
        due("two", alike.look(0, 1), 2);
        // None parts: seven alike.
        String worth = "run worth";
        HeadHill seven = Checks.at(town, worth, worth, worth, worth, worth, worth);
        due("ware 0 of none that parts", seven.look(0, 0), 0);
        due("seven alike", seven.look(0, 1), 7);
        // WARE 5 alone parts, on DAY 60 alone.
        HeadHill last = Checks.at("hill 60;runner 1 0" + ";ware 1 1 1".repeat(6), "run 1",
                "run 5 if ware=5 and day=60;run 1");
        due("day 59", last.look(59, 1), 3);
        due("day 60: both part two and one", last.look(60, 1), 2);
        due("day 60: the least", last.look(60, 0), 0);
        HeadHill sixth = Checks.at("hill 60;runner 1 0;runner 1 0" + ";ware 1 1 1".repeat(6),
                "run 1 if runner=0 and ware=0;run 1 if runner=1 and ware=5", "run 1 if runner=0 and ware=0");
        sixth.note(0, 0, 0);
        due("ware 5 as good as any: 2 of none and of 1", sixth.look(0, 0), 5);
        due("two", sixth.look(0, 1), 2);
    }

    void promise28Look() {
        says("LOOK (n 0 to 60) what 0: the WARE, 1: how many; -2: no RULE is so, or there are no WARES. NONE"
                + " without these, or a HILL.");
        HeadHill x = Checks.at("hill 60;runner 1 0;ware 1 1 1", "run 1 if day=0", "run 1 if day=60");
        due("day 0: none and 0 alike", x.look(0, 1), 2);
        due("day 60: none and 1 alike", x.look(60, 1), 2);
        due("day 30: none alone gets it", x.look(30, 1), 2);
        x.note(30, 0, -1);
        due("both part on day 0", x.look(0, 1), 1);
        due("both part on day 60", x.look(60, 1), 1);
        due("not on day 59", x.look(59, 1), 2);
        int[][] without = {{-1, 0}, {61, 0}, {-1, 1}, {61, 1}, {MIN, 0}, {MAX, 0}, {0, -1}, {0, 2}, {0, MIN},
            {0, MAX}};
        for (int[] w : without) {
            refused("look " + w[0] + " " + w[1], Scenes::rich, y -> y.look(w[0], w[1]), -1);
        }
        due("without a hill", new HeadHill().look(0, 0), -1);
        for (int what = 0; what < 2; what++) {
            due("no wares", Checks.at("hill 9;runner 1 1", "run 1").look(0, what), -2);
            HeadHill none = Checks.at("hill 60;runner 1 0;ware 1 1 1");
            none.note(60, 0, -1);
            due("no rule is so, by a note behind the day", none.look(0, what), -2);
        }
    }

    void promise29Numbers() {
        says("DRAWS: x (0 to 2147483647; 0 at first)");
        HeadHill x = new HeadHill();
        due("0 at first", x.count(10), 0);
        due("0 at first, told by seed", x.seed(MAX), 0);
        due("most", x.count(10), MAX);
        due("most was", x.seed(0), MAX);
        due("0 was", x.seed(1), 0);
        due("1", x.count(10), 1);
    }

    void promise29Seed() {
        says("x becomes a number: what it was; NONE, and nothing happens, below 0.");
        for (int number : new int[] {-1, -2, MIN}) {
            refused("seed " + number, Scenes::rich, x -> x.seed(number), -1);
        }
        HeadHill x = Scenes.rich();
        due("77 was", x.seed(0), 77);
        due("no act", x.count(9), 6);
    }

    /** The greatest of three PURSES after one DAY, ahead of which one may fall. */
    private static int greatest(int seed, int p, int... purses) {
        HeadHill x = Checks.at(String.format(NO_WARES, purses[0], purses[1], purses[2]));
        x.seed(seed);
        return x.falls(1, 1, p, 1);
    }

    /** Seeds whose next x was worked out apart from the program, with the x behind that one. */
    void promise30Draws() {
        says("becomes x * 1103515245 + 12345, of 2147483648 the rest; a DRAW is x / 65536.");
        // 0: 12345, 1406932606; DRAWS 0 and 21468, by 3 the first.
        due("0 is not below 0", greatest(0, 0, 5, 4, 3), 5);
        due("0 is below 1: 0 falls", greatest(0, 1, 5, 4, 3), 4);
        // 2147483647: 1043980748, 288979989; DRAWS 15929 and 4409, by 3 the last.
        due("29 is not below 29", greatest(MAX, 29, 3, 4, 5), 5);
        due("29 is below 30: 2 falls", greatest(MAX, 30, 3, 4, 5), 4);
        // 230538014: 2147483647, 1043980748; DRAWS 32767 and 15929, by 3 the last.
        due("67 is not below 67", greatest(230538014, 67, 3, 4, 5), 5);
        due("67 is below 68: 2 falls", greatest(230538014, 68, 3, 4, 5), 4);
        // 2032319262: 65535, 212263372; DRAWS 0 and 3238, by 3 the second.
        due("65535 is 0: below 1, 1 falls", greatest(2032319262, 1, 3, 5, 4), 4);
        // 1742513795: 65536, 1315778617; DRAWS 1 and 20077, by 3 the second.
        due("65536 is 1: not below 1", greatest(1742513795, 1, 3, 5, 4), 5);
        due("65536 is 1: below 2, 1 falls", greatest(1742513795, 2, 3, 5, 4), 4);
        // 2088216195: 0, 12345; DRAWS 0 and 0.
        due("0 goes round: 0 falls", greatest(2088216195, 1, 5, 4, 3), 4);
        // 194: 1481088723, 1393891856; DRAWS 22599 and 21269, by 3 the last.
        due("99 is not below 99", greatest(194, 99, 3, 4, 5), 5);
        due("99 is below 100: 2 falls", greatest(194, 100, 3, 4, 5), 4);
    }

    void promise30Bounds() {
        says("FALLS m times (1 to 10) n DAYS (1 to 60) from now on:");
        HeadHill x = Checks.at("hill 60;runner 1 7;ware 1 1 1");
        due("once a day", x.falls(1, 1, 0, 0), 1);
        due("ten times sixty", x.falls(10, 60, 0, 0), 600);
        due("purse by one of 59", x.falls(1, 59, 0, 1), 7);
        due("purse by one of 60, a feast", x.falls(1, 60, 0, 1), 0);
        due("ten times 59", x.falls(10, 59, 0, 1), 70);
        x.day();
        due("from now on", x.falls(1, 60, 0, 0), 60);
        due("the feast is nearer now", x.falls(10, 59, 0, 1), 0);
        HeadHill full = after(199, "hill 9;runner 1 0;ware 1 50 1");
        due("9999 at most, each time", full.falls(10, 60, 0, 0), 490);
    }

    void promise30AheadOfEach() {
        says("ahead of each a DRAW mod 100; is it below p (0 to 100), and are there RUNNERS, a DRAW mod how many:"
                + " that one's PURSE is 0:");
        // 1 is at -20 and 0 at 1; fallen, 1 is at 20. 15929 mod 100 is 29, 4409 mod 2 is 1.
        HeadHill x = Checks.at("hill 60;runner 20 0;runner 1 40;ware 20 5 1");
        x.seed(MAX);
        due("no fall: 1 and 39", x.falls(1, 1, 29, 1), 39);
        due("1 falls ahead of the day: -1 and 1", x.falls(1, 1, 30, 1), 1);
        due("never by 0", x.falls(10, 5, 0, 1) > 300 ? 1 : 0, 1);
        // By 100 each DAY has a fall. From 0 on the second ones are 21468 and 22117: 0, then 1 of two.
        x.seed(0);
        due("0 falls, which has 0: 1 GETS it, 1 and 39", x.falls(1, 1, 100, 1), 39);
        due("then 1 falls: 0 GETS it, 0 and 1", x.falls(1, 2, 100, 1), 1);
        // Without a fall only one DRAW is taken. From 0 on by 1: 0 is below 1 and 21468 falls; 9988 mod 100 is 88.
        due("one fall of two days", x.falls(1, 2, 1, 1), 38);
        HeadHill none = Checks.at("hill 9;ware 1 1 1");
        due("no runners", none.falls(10, 60, 100, 0), 0);
        due("no runners, purses", none.falls(10, 60, 100, 1), 0);
        HeadHill one = Checks.at("hill 60;runner 1 40");
        due("one runner falls each time", one.falls(10, 59, 100, 1), 0);
        due("one runner falls once", one.falls(1, 1, 100, 1), 0);
        due("and never", one.falls(10, 59, 0, 1), 400);
        HeadHill five = Checks.at("hill 60" + ";runner 1 0".repeat(4) + ";runner 1 7");
        five.seed(MAX);
        due("the last of five: 4409 mod 5 is 4", five.falls(1, 1, 30, 1), 0);
        due("but not by 29", five.falls(1, 1, 29, 1), 7);
    }

    void promise30AllTogether() {
        says("how much all have more WEALTH by these; the greatest PURSE at the end (of 0 at least), all together"
                + " (x as it was).");
        HeadHill below = Checks.at("hill 60;runner 1 0;runner 1 0;runner 1 0");
        below.lend(0, 1, 5);
        below.fall(1);
        below.lend(2, 1, 9);
        below.fall(1);
        below.lend(1, 0, 1);
        purses("all below 0", below, -4, -1, -9);
        due("0 at least", below.falls(3, 2, 0, 1), 0);
        below.lend(0, 1, 2);
        due("1 three times", below.falls(3, 2, 0, 1), 3);
        // Two times one DAY, from 0 on by 100: 21468 and 22117, by 3 the first and the second.
        HeadHill two = Checks.at(String.format(NO_WARES, 5, 4, 3));
        due("4, then 5", two.falls(2, 1, 100, 1), 9);
        due("both on two days of one time", two.falls(1, 2, 100, 1), 3);
        two.seed(12345);
        due("x as it was", two.falls(10, 60, 50, 0), 0);
        due("12345", two.count(10), 12345);
        due("the same twice", two.falls(10, 7, 50, 1), two.falls(10, 7, 50, 1));
        HeadHill all = by(Checks.at("hill 60;runner 1 0;runner 1 0;ware 1 3 1;ware 1 4 2"), "run 1 if ware=runner");
        all.day();
        due("of all, what they have more: 3 and 7", all.falls(1, 2, 100, 0), 10);
    }

    void promise30Falls() {
        says("FALLS what 0: how much, 1: PURSES. NONE without these, or a HILL.");
        int[][] without = {{0, 1, 1, 0}, {11, 1, 1, 0}, {-1, 1, 1, 0}, {MIN, 1, 1, 0}, {MAX, 1, 1, 0}, {1, 0, 1, 0},
            {1, 61, 1, 0}, {1, -1, 1, 0}, {1, MIN, 1, 0}, {1, MAX, 1, 0}, {1, 1, -1, 0}, {1, 1, 101, 0},
            {1, 1, MIN, 0}, {1, 1, MAX, 0}, {1, 1, 1, -1}, {1, 1, 1, 2}, {1, 1, 1, MIN}, {1, 1, 1, MAX}};
        for (int[] w : without) {
            refused("falls " + w[0] + " " + w[1] + " " + w[2] + " " + w[3], Scenes::rich,
                    x -> x.falls(w[0], w[1], w[2], w[3]), -1);
        }
        due("without a hill", new HeadHill().falls(1, 1, 0, 0), -1);
        due("a bare hill", Checks.at("hill 1").falls(1, 1, 0, 0), 0);
    }

    void promise31Count() {
        says("What 0: FEAST, 1: RUNNERS, 2: WARES, 3: RULES, 4: the RULE IN FORCE (NONE), 5: DAY, 6: WEALTH of"
                + " all, 7: WARES that are there, as bits, 8: NOTES, 9: ACTS that can be UNDONE, 10: x, 11: bytes"
                + " of the TAPE. NONE for others.");
        HeadHill x = Checks.at("hill 60" + ";runner 1 0".repeat(5) + ";ware 1 50 1".repeat(6),
                "run 1 if ware=runner", "run 2", "run 3", "run 4", "run 5", "run 6");
        x.force(0);
        after(200, x);
        x.force(5);
        x.seed(MAX);
        for (int i = 0; i < 10; i++) {
            x.note(60, 5, 4);
        }
        Checks.tell(x, " ".repeat(400));
        int[] due = {60, 5, 6, 6, 5, 200, 5 * 9999, 63, 10, 20, MAX, 400};
        for (int what = 0; what < due.length; what++) {
            due("all full, count " + what, x.count(what), due[what]);
        }
        for (int what : new int[] {-1, 12, 13, MIN, MAX}) {
            refused("count " + what, Scenes::rich, y -> y.count(what), -1);
            due("count " + what + " of a new one", new HeadHill().count(what), -1);
        }
        HeadHill there = after(1, "hill 9;ware 1 1 1;ware 1 1 2;ware 1 1 1;ware 1 1 9;ware 1 1 3;ware 1 1 1");
        due("there on day 1", there.count(7), 1 + 4 + 32);
        due("none is there", after(1, "hill 9;ware 1 1 2").count(7), 0);
    }

    void promise32FourImages() {
        says("IMAGES 0 to 3: all but the RULES and the TAPE, as it is (the RULE IN FORCE, what can be UNDONE, too);");
        HeadHill x = Checks.at("hill 9;runner 1 0;ware 1 1 1");
        for (int k = 0; k < 4; k++) {
            due("image " + k, x.image(k), k);
            x.day();
        }
        for (int k = 3; k >= 0; k--) {
            due("back to " + k, x.back(k), k);
            due("day", x.count(5), k);
            wealth("then", x, k);
            due("acts", x.count(9), k);
        }
        HeadHill rules = Scenes.rich();
        rules.image(3);
        due("one more rule", rules.rule(), 2);
        rules.force(2);
        Checks.tell(rules, "run 9");
        rules.back(3);
        due("rules stay", rules.count(3), 3);
        due("the tape stays", rules.count(11), 5);
        due("the rule in force is as it was", rules.count(4), 1);
        due("and reads as told", rules.rule(), 3);
    }

    void promise32Image() {
        says("An IMAGE is made: the DAY; NONE without it.");
        for (int k : new int[] {-1, 4, 5, MIN, MAX}) {
            refused("image " + k, Scenes::rich, x -> x.image(k), -1);
        }
        HeadHill x = new HeadHill();
        due("of no hill", x.image(0), 0);
        due("of no hill, the last", x.image(3), 0);
        HeadHill y = after(7, "hill 9;runner 1 0;ware 1 1 1");
        due("day 7", y.image(0), 7);
        y.day();
        due("made anew", y.image(0), 8);
        y.undo();
        due("as it was made last", y.back(0), 8);
        due("an image is no act", y.count(9), 8);
    }

    /** An IMAGE with all of 20 ACTS and 10 NOTES; none of what comes later shows in it. */
    void promise33AsItWas() {
        says("gone back to, it is as it was (these stay).");
        HeadHill x = Checks.at("hill 60;runner 1 0;runner 2 0;ware 50 1 1", "run 1");
        for (int i = 0; i < 25; i++) {
            x.shift(0, 51 + i);
        }
        for (int i = 0; i < 10; i++) {
            x.note(i, 0, 1);
        }
        x.image(1);
        for (int i = 0; i < 25; i++) {
            x.shift(0, 1 + i);
        }
        x.note(-1, 0, 0);
        x.note(0, 0, -1);
        x.force(0);
        x.seed(5);
        x.train(0, 20);
        x.lend(0, 1, 3);
        x.day();
        for (int times = 0; times < 2; times++) {
            due("back", x.back(1), 0);
            due("far", x.ware(0, 0), 75);
            due("speed", x.runner(0, 0), 1);
            purses("as they were", x, 0, 0);
            due("notes", x.count(8), 10);
            due("x", x.count(10), 0);
            due("in force", x.count(4), -1);
            due("twenty acts", x.count(9), 20);
            for (int left = 19; left >= 0; left--) {
                due("undone", x.undo(), left);
                due("far then", x.ware(0, 0), 55 + left);
            }
            due("no more", x.undo(), -2);
        }
    }

    /** A NOTE of the IMAGE is as it was, by its DAY, its WARE and its RUNNER. */
    void promise33NotesAsTheyWere() {
        says("gone back to, it is as it was");
        int[][] others = {{1, 0, 0}, {0, 1, 0}, {0, 0, 1}, {0, 0, -1}};
        for (int[] other : others) {
            // On DAY 0 alone 0 GETS WARE 0.
            HeadHill x = Checks.at("hill 60;runner 1 0;runner 1 0;ware 9 1 1;ware 9 1 1",
                    "run 1 if day=0 and runner+ware=0");
            x.note(-1, 0, 0);
            x.note(0, 0, 0);
            x.note(1, 0, -1);
            x.image(0);
            due("the rule is so", x.ruled(1), 0);
            x.note(-1, 0, 0);
            x.note(other[0], other[1], other[2]);
            x.note(1, 0, -1);
            due("with another note nothing is", x.ruled(1), -2);
            x.image(1);
            x.back(0);
            due("it is so again", x.ruled(1), 0);
            due("and alone", x.ruled(0), 1);
            x.back(1);
            due("not so again", x.ruled(0), 0);
        }
    }

    void promise33AnotherHill() {
        says("All is as in an IMAGE: the DAY;");
        HeadHill x = new HeadHill();
        x.image(0);
        Checks.hill(x, "hill 3;runner 1 2;ware 3 4 5");
        x.day();
        x.image(1);
        Checks.hill(x, "hill 60;runner 9 9;runner 8 8;ware 7 7 7;ware 6 6 6");
        due("the other one", x.back(1), 1);
        int[] due = {3, 1, 1, 0, -1, 1, 4, 0, 0, 1, 0, 0};
        for (int what = 0; what < due.length; what++) {
            due("count " + what, x.count(what), due[what]);
        }
        due("no runner 1", x.runner(1, 0), -1000);
        due("purse", x.runner(0, 1), 2);
        due("far", x.ware(0, 0), 3);
        due("no hill", x.back(0), 0);
        due("no feast", x.count(0), 0);
        due("no wealth", x.count(6), 0);
        due("no day", x.day(), -1);
        due("no runner", x.runner(0, 0), -1000);
        due("there again", x.back(1), 1);
    }

    void promise33Back() {
        says("NONE, and nothing happens, if it was never made, or without it.");
        for (int k : new int[] {1, 3, -1, 4, 5, MIN, MAX}) {
            refused("back " + k, Scenes::rich, x -> x.back(k), -1);
        }
        for (int k = 0; k < 4; k++) {
            int never = k;
            refused("back " + k + " of a new one", HeadHill::new, x -> x.back(never), -1);
        }
        HeadHill x = Checks.at("hill 9;runner 1 0");
        x.image(4);
        x.image(-1);
        for (int k = -1; k < 5; k++) {
            due("none was made: " + k, x.back(k), -1);
        }
        Checks.hill(x, "hill 8");
        x.image(2);
        Checks.hill(x, "hill 7");
        due("an image outlives its hill", x.back(2), 0);
        due("feast", x.count(0), 8);
    }

    void promise01TheConstant() {
        says("The constants: `NONE = -1`: None.");
        due("NONE", HeadHill.NONE, -1);
    }
}
