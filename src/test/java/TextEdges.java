/** Edges of the TAPE, of HILLS and RULES as texts, and of their FAULTS: promises 1 to 6. */
final class TextEdges extends Edges {
    private static final String FIVE_RUNNERS = ";runner 1 0;runner 2 1;runner 3 2;runner 4 3;runner 5 4";
    private static final String SIX_WARES = ";ware 1 1 1;ware 2 2 2;ware 3 3 3;ware 4 4 4;ware 5 5 5;ware 6 6 6";

    TextEdges(Checks checks, Document document) {
        super(checks, document);
    }

    void promise01NoHill() {
        says("No HILL, no RULES, none IN FORCE.");
        int[] due = {0, 0, 0, 0, -1, 0, 0, 0, 0, 0, 0, 0};
        HeadHill x = new HeadHill();
        for (int what = 0; what < due.length; what++) {
            due("count " + what, x.count(what), due[what]);
        }
        due("the first rule is 0", Checks.rule(x, "run 1"), 0);
        due("none was in force", x.force(0), -1);
    }

    /** Of what is asked of no HILL each answer is the one for "without these". */
    void promise01AllIsRefusedWithoutAHill() {
        says("`HeadHill()`: No HILL");
        Maker none = () -> Checks.at("", "run 1", "run 2");
        refused("runner", none, x -> x.runner(0, 0), -1000);
        refused("ware", none, x -> x.ware(0, 0), -2);
        refused("day", none, HeadHill::day, -1);
        refused("lend", none, x -> x.lend(0, 1, 1), -1000);
        refused("fall", none, x -> x.fall(0), -1000);
        refused("shift", none, x -> x.shift(0, 1), -1);
        refused("train", none, x -> x.train(0, 1), -1);
        refused("undo", none, HeadHill::undo, -2);
        for (int what = 0; what < 3; what++) {
            int asked = what;
            refused("ahead " + what, none, x -> x.ahead(0, 0, asked), -1000);
        }
        refused("gets", none, x -> x.gets(0, 0), -1);
        refused("rank", none, x -> x.rank(0, 1), -1);
        refused("need", none, x -> x.need(0, 1, 1), -1);
        refused("lender", none, x -> x.lender(0, 1, 0), -2);
        refused("row", none, x -> x.row(0, 1, 0), -3);
        refused("settle", none, HeadHill::settle, -1);
        refused("rings", none, x -> x.rings(0), -1);
        refused("had", none, x -> x.had(0, 1, 0, 0), -1001);
        refused("rests", none, x -> x.rests(0, 1, 0), -3);
        refused("pence", none, x -> x.pence(0, 0), -1);
        refused("note", none, x -> x.note(0, 0, -1), -2);
        refused("ruled", none, x -> x.ruled(0), -3);
        refused("look", none, x -> x.look(0, 0), -1);
        refused("falls", none, x -> x.falls(1, 1, 0, 0), -1);
    }

    void promise02TheHighestByteComesFirst() {
        says("Twenty bytes come behind the TAPE, of each number the highest first: how many it has");
        for (int place = 0; place < 40; place++) {
            for (int sign : new int[] {'x', 0, 127, 128, 255}) {
                int[] five = {0x20202020, 0x20202020, 0x20202020, 0x20202020, 0x20202020};
                int at = place % 20;
                int down = 24 - at % 4 * 8;
                five[at / 4] = five[at / 4] & ~(255 << down) | sign << down;
                HeadHill x = new HeadHill();
                if (place >= 20) {
                    due("first twenty", x.feed(0x20202020, 0x20202020, 0x20202020, 0x20202020, 0x20202020), 20);
                }
                due("twenty", x.feed(five[0], five[1], five[2], five[3], five[4]), place < 20 ? 20 : 40);
                due("byte " + sign + " lies at " + place, x.hill(), fault(place, UNFIT));
            }
        }
    }

    void promise02FourHundredBytes() {
        says("NONE, and none comes, if it would have more than 400");
        HeadHill x = new HeadHill();
        for (int n = 20; n <= 400; n += 20) {
            due("feed", x.feed(MIN, MAX, -1, 0, 1), n);
        }
        due("400 and 20", x.feed(0, 0, 0, 0, 0), -1);
        for (int n = 381; n < 400; n++) {
            int length = n;
            refused(n + " and 20", () -> onTape("hill 1" + " ".repeat(length - 6)), Feed::blanks, -1);
        }
        due("380 and 20", Feed.blanks(onTape(" ".repeat(380))), 400);
        due("379 and 20", Feed.blanks(onTape(" ".repeat(379))), 399);
        refused("a full tape", () -> onTape("run 1" + " ".repeat(395)), Feed::blanks, -1);
    }

    private static HeadHill onTape(String text) {
        HeadHill x = new HeadHill();
        Checks.tell(x, text);
        return x;
    }

    /** A feed as a Call. */
    private static final class Feed {
        static int blanks(HeadHill x) {
            return from(0x20202020, x);
        }

        static int from(int first, HeadHill x) {
            return x.feed(first, 0x20202020, 0x20202020, 0x20202020, 0x20202020);
        }
    }

    void promise03FirstBytesAlone() {
        says("The TAPE has its first n bytes alone: n");
        HeadHill x = onTape("hill 12");
        due("all of 7", x.end(7), 7);
        due("six of 7", x.end(6), 6);
        due("what is cut off is gone", x.end(7), -1);
        due("hill", x.hill(), 0);
        due("feast 1, not 12", x.count(0), 1);
        x = onTape("hill 12");
        x.end(5);
        due("a feed comes behind what is left", Feed.from('9' << 24 | 0x202020, x), 25);
        x.hill();
        due("feast 9", x.count(0), 9);
        x = onTape("hill 12");
        due("none", x.end(0), 0);
        due("none again", x.end(0), 0);
        due("nothing is there", x.hill(), fault(0, UNFIT));
        x = onTape("x".repeat(400));
        due("400", x.end(400), 400);
        due("399", x.end(399), 399);
    }

    void promise03NotSoMany() {
        says("NONE, and nothing happens, if it has not so many, or n is below 0");
        for (int n : new int[] {16, 17, 400, 401, MAX, -1, -2, MIN}) {
            refused("end " + n + " of 15", Scenes::rich, x -> x.end(n), -1);
        }
        refused("end 1 of 0", HeadHill::new, x -> x.end(1), -1);
        refused("end -1 of 0", HeadHill::new, x -> x.end(-1), -1);
        refused("end 401 of 400", () -> onTape("run 1" + " ".repeat(395)), x -> x.end(401), -1);
    }

    /** Bytes behind the end were there once: they go on with no WORD, NUMBER or SIGN ahead of it. */
    void promise03NothingOfWhatWasCutOff() {
        says("The TAPE has its first n bytes alone");
        due("12345|6", cut("run 123456", 9), 0);
        due("12345|6, spoilt without the cut", cut("run 123456", 10), fault(4, NUMBER));
        due("far|x", cut("run farx", 7), 0);
        due("fa|r", cut("run far", 6), fault(4, UNFIT));
        due("<|=1", cut("run 1 if 1<=1", 11), fault(11, UNFIT));
        due(">|=1", cut("run 1 if 1>=1", 11), fault(11, UNFIT));
        due("run 1|;", cut("run 1;", 5), 0);
        due("run 1| x", cut("run 1 x", 6), 0);
    }

    private static int cut(String text, int n) {
        HeadHill x = onTape(text);
        x.end(n);
        return x.rule();
    }

    /** WORDS, NUMBERS and SIGNS that end with the last byte there can be. */
    void promise05LastBytes() {
        says("RULES 0 to 5: texts likewise");
        String[] last = {"run", "run fa", "run f", "run 1 if 1<", "run 1 if 1>", "run 1 if 1=1 an", "run 1 if no"};
        int[] at = {400, 398, 399, 400, 400, 398, 398};
        for (int i = 0; i < last.length; i++) {
            ruleFault(" ".repeat(400 - last[i].length()) + last[i], at[i], UNFIT);
        }
        for (String sound : new String[] {"run far", "run 12345", "run 1 if 1<=12345", "run 1 if [1=1]"}) {
            ruleIs(" ".repeat(400 - sound.length()) + sound, 0);
        }
        ruleFault(" ".repeat(390) + "run 123456", 394, NUMBER);
        hillFault(" ".repeat(397) + "run", 397, UNFIT);
        hillFault(" ".repeat(392) + "hill 1;r", 399, UNFIT);
        hillFault(" ".repeat(396) + "ware", 396, CLAUSE);
    }

    /** Nothing of a text that was read ahead, spoilt or whole, counts for the next. */
    void promise05EachTextBeginsAnew() {
        says("The TAPE, which is empty then, is a RULE");
        HeadHill x = new HeadHill();
        String sixty = "run 1" + "+1".repeat(59);
        String ten = "run 1 if " + "[".repeat(10) + "1=1" + "]".repeat(10);
        String nots = "run 1 if " + "not ".repeat(10) + "1=1";
        due("too deep", Checks.rule(x, "run 1 if " + "[".repeat(11)), fault(19, DEEP));
        due("ten deep", Checks.rule(x, ten), 0);
        due("too many nots", Checks.rule(x, "run 1 if " + "not ".repeat(11)), fault(49, DEEP));
        due("ten nots", Checks.rule(x, nots), 1);
        due("too many parts", Checks.rule(x, sixty + "+1"), fault(124, PART));
        due("sixty parts", Checks.rule(x, sixty), 2);
        due("sixty again", Checks.rule(x, sixty), 3);
        due("left open", Checks.rule(x, "run 1 if 1=1 or [1=1"), fault(20, UNFIT));
        due("none is open", Checks.rule(x, "run 1 if 1=1]"), fault(12, UNFIT));
        due("too many clauses", Checks.rule(x, "run 1;".repeat(12) + "run 1"), fault(72, CLAUSE));
        due("twelve", Checks.rule(x, "run 1;".repeat(11) + "run 1"), 4);
        due("something waits", Checks.rule(x, "run 1+2*"), fault(8, UNFIT));
        due("nots wait", Checks.rule(x, "run 1 if " + "not ".repeat(10)), fault(49, UNFIT));
        due("eleven deep all the same", Checks.rule(x, "run 1+1 if " + "[".repeat(11)), fault(21, DEEP));
        due("a not waits", Checks.rule(x, "run 1 if not"), fault(12, UNFIT));
        due("a last one", Checks.rule(x, "run ware"), 5);
        due("a hill", Checks.hill(x, "hill 9;runner 1 0;ware 1 1 1;ware 1 1 1"), 1);
        x.force(5);
        due("of the last one all is its own", x.day(), 2);
        due("another hill with a fault", Checks.hill(x, "hill 9;runner 1 0;runner 1 0;ware 1"), fault(35, UNFIT));
        due("as many as there can be", Checks.hill(x, "hill 1" + FIVE_RUNNERS + SIX_WARES), 5);
        due("again", Checks.hill(x, "hill 1" + FIVE_RUNNERS + SIX_WARES), 5);
    }

    void promise04AtMost400Bytes() {
        says("A HILL is a text of at most 400 bytes");
        String most = "hill 60" + FIVE_RUNNERS + SIX_WARES;
        hillIs(most + " ".repeat(400 - most.length()), 5);
        hillIs(" ".repeat(394) + "hill 1", 0);
        hillFault(" ".repeat(400), 400, UNFIT);
        hillFault(" ".repeat(399) + "x", 399, UNFIT);
        hillFault(" ".repeat(395) + "hill ", 400, UNFIT);
    }

    void promise04ClausesWithASemicolonBetween() {
        says("CLAUSE { ; CLAUSE }");
        hillIs("hill 1", 0);
        hillIs("hill 1;runner 1 0", 1);
        hillFault("", 0, UNFIT);
        hillFault(";hill 1", 0, UNFIT);
        hillFault("hill 1;", 7, UNFIT);
        hillFault("hill 1;;runner 1 0", 7, UNFIT);
        hillFault("hill 1 runner 1 0", 7, UNFIT);
        hillFault("hill 1,runner 1 0", 6, UNFIT);
    }

    /** The 13th CLAUSE is always one of those that are too many by themselves. */
    void promise04FortyClauses() {
        says(", 40 at most: hill NUMBER");
        String twelve = "hill 1" + FIVE_RUNNERS + SIX_WARES;
        hillIs(twelve, 5);
        for (String more : new String[] {"hill 1", "runner 1 0", "ware 1 1 1"}) {
            hillFault(twelve + ";" + more, twelve.length() + 1, CLAUSE);
        }
        hillFault("hill 1" + ";hill 1".repeat(40), 7, CLAUSE);
    }

    /** The last numbers that are taken, kept as told, and the first that are not, on either side. */
    private void numberIs(String ahead, int least, int most, String behind, Call kept) {
        for (int number : new int[] {least, least + 1, most - 1, most}) {
            HeadHill x = new HeadHill();
            holds("hill '" + ahead + number + behind + "' is taken", Checks.hill(x, ahead + number + behind) >= 0);
            due("kept of '" + ahead + number + behind + "'", kept.on(x), number);
        }
        if (least > 0) {
            hillFault(ahead + (least - 1) + behind, ahead.length(), NUMBER);
        }
        hillFault(ahead + "-1" + behind, ahead.length(), UNFIT);
        hillFault(ahead + (most + 1) + behind, ahead.length(), NUMBER);
        hillFault(ahead + "99999" + behind, ahead.length(), NUMBER);
    }

    void promise04Feast() {
        says("hill NUMBER (FEAST 1 to 60, days;");
        numberIs("hill ", 1, 60, "", x -> x.count(0));
        numberIs("hill ", 1, 60, ";runner 1 0", x -> x.count(0));
    }

    void promise04HillOnceAndFirst() {
        says("once, the first CLAUSE)");
        hillFault("hill 1;hill 2", 7, CLAUSE);
        hillFault("hill 1;runner 1 0; hill 2", 19, CLAUSE);
        hillFault("runner 1 0;hill 1", 0, CLAUSE);
        hillFault("  ware 1 1 1;hill 1", 2, CLAUSE);
    }

    void promise04Speed() {
        says("runner NUMBER NUMBER (SPEED 1 to 20;");
        numberIs("hill 1;runner ", 1, 20, " 0", x -> x.runner(0, 0));
        numberIs("hill 1" + FIVE_RUNNERS.substring(0, 44) + ";runner ", 1, 20, " 0", x -> x.runner(4, 0));
    }

    void promise04Purse() {
        says("PURSE 0 to 40, seconds)");
        numberIs("hill 1;runner 1 ", 0, 40, "", x -> x.runner(0, 1));
        numberIs("hill 1" + FIVE_RUNNERS.substring(0, 44) + ";runner 1 ", 0, 40, "", x -> x.runner(4, 1));
    }

    void promise04Far() {
        says("ware NUMBER NUMBER NUMBER (FAR 1 to 99;");
        numberIs("hill 1;ware ", 1, 99, " 1 1", x -> x.ware(0, 0));
        numberIs("hill 1" + SIX_WARES.substring(0, 55) + ";ware ", 1, 99, " 1 1", x -> x.ware(5, 0));
    }

    void promise04Worth() {
        says("WORTH 1 to 50;");
        numberIs("hill 1;ware 1 ", 1, 50, " 1", x -> x.ware(0, 1));
        numberIs("hill 1" + SIX_WARES.substring(0, 55) + ";ware 1 ", 1, 50, " 1", x -> x.ware(5, 1));
    }

    void promise04Every() {
        says("EVERY 1 to 9, days)");
        numberIs("hill 1;ware 1 1 ", 1, 9, "", x -> x.ware(0, 2));
        numberIs("hill 1" + SIX_WARES.substring(0, 55) + ";ware 1 1 ", 1, 9, "", x -> x.ware(5, 2));
    }

    void promise04FiveRunners() {
        says("RUNNERS 0 to 4");
        hillIs("hill 1", 0);
        hillIs("hill 1;runner 1 0", 1);
        HeadHill x = Checks.at("hill 1" + FIVE_RUNNERS);
        for (int r = 0; r < 5; r++) {
            due("speed of " + r, x.runner(r, 0), r + 1);
            due("purse of " + r, x.runner(r, 1), r);
        }
        due("no runner 5", x.runner(5, 0), -1000);
        String five = "hill 1" + FIVE_RUNNERS;
        hillFault(five + ";runner 1 0", five.length() + 1, CLAUSE);
        hillIs(five + ";ware 1 1 1", 5);
    }

    void promise04SixWares() {
        says("WARES 0 to 5");
        due("no ware", Checks.at("hill 1").ware(0, 0), -2);
        HeadHill x = Checks.at("hill 1" + SIX_WARES);
        for (int w = 0; w < 6; w++) {
            for (int what = 0; what < 3; what++) {
                due("ware " + w + " " + what, x.ware(w, what), w + 1);
            }
        }
        due("no ware 6", x.ware(6, 0), -2);
        String six = "hill 1" + SIX_WARES;
        hillFault(six + ";ware 1 1 1", six.length() + 1, CLAUSE);
        hillIs(six + ";runner 1 0", 1);
    }

    void promise04OrderTold() {
        says(", in the order told.");
        HeadHill x = Checks.at("hill 1;ware 9 9 9;runner 8 8;ware 7 7 7;runner 6 6");
        due("ware 0", x.ware(0, 0), 9);
        due("ware 1", x.ware(1, 0), 7);
        due("runner 0", x.runner(0, 0), 8);
        due("runner 1", x.runner(1, 0), 6);
    }

    void promise04AtTheBegin() {
        says("It is DAY 0; nobody has WEALTH, nobody GOT anything.");
        HeadHill x = after(3, "hill 9;runner 1 0;ware 1 5 1");
        Checks.hill(x, "hill 9;runner 1 0;runner 2 2;ware 1 5 1;ware 1 4 2");
        due("day", x.count(5), 0);
        wealth("of a new hill", x, 0, 0);
        due("of all", x.count(6), 0);
        due("who got 0", x.ware(0, 4), -1);
        due("who got 1", x.ware(1, 4), -1);
    }

    void promise04TapeIsEmptyThen() {
        says("The TAPE, which is empty then, is the HILL in place of the one there was");
        HeadHill x = Checks.at("hill 9;runner 1 0;ware 1 5 1");
        due("bytes", x.count(11), 0);
        due("nothing is left to read", x.hill(), fault(0, UNFIT));
        due("the old one stays", x.count(0), 9);
        Checks.hill(x, "hill 8");
        due("the new one in its place", x.count(0), 8);
        due("no runners", x.count(1), 0);
        due("no wares", x.count(2), 0);
    }

    void promise04NoNotesNoActs() {
        says("(no NOTES, nothing to be UNDONE; the RULE IN FORCE and x stay): how many RUNNERS");
        HeadHill x = Scenes.rich();
        due("notes ahead", x.count(8), 2);
        due("acts ahead", x.count(9), 6);
        due("three runners", Checks.hill(x, Scenes.TOWN), 3);
        due("notes", x.count(8), 0);
        due("acts", x.count(9), 0);
        due("undo", x.undo(), -2);
        due("in force", x.count(4), 1);
        due("x", x.count(10), 77);
        due("rules", x.count(3), 2);
        due("all rules and none are so without notes", x.ruled(0), 3);
    }

    void promise04FaultAndAllStays() {
        says("-2 - its FAULT, and all stays.");
        String[] spoilt = {"", "hill 61", "runner 1 1", "hill 1;runner 1 1;ware 1 1 10", "hill 2;runner 3 3;"};
        int[] due = {fault(0, UNFIT), fault(5, NUMBER), fault(0, CLAUSE), fault(27, NUMBER), fault(18, UNFIT)};
        for (int i = 0; i < spoilt.length; i++) {
            HeadHill called = Scenes.rich();
            due("hill '" + spoilt[i] + "'", Checks.hill(called, spoilt[i]), due[i]);
            due("bytes", called.count(11), 0);
            HeadHill left = Scenes.rich();
            left.end(0);
            sameAs("hill '" + spoilt[i] + "'", called, left);
        }
    }

    void promise05SixRules() {
        says("RULES 0 to 5: texts likewise,");
        HeadHill x = new HeadHill();
        for (int n = 0; n < 6; n++) {
            due("rule " + n, Checks.rule(x, "run " + n), n);
        }
        due("seventh", Checks.rule(x, "run 6"), -1);
        ruleIs("run 1" + " ".repeat(395), 0);
        ruleIs(" ".repeat(395) + "run 1", 0);
        ruleFault(" ".repeat(396) + "run ", 400, UNFIT);
        ruleFault("", 0, UNFIT);
        ruleFault(";run 1", 0, UNFIT);
        ruleFault("run 1;", 6, UNFIT);
        ruleFault("run 1;;run 1", 6, UNFIT);
        ruleFault("run 1 run 1", 6, UNFIT);
    }

    void promise05ItsNumber() {
        says("The TAPE, which is empty then, is a RULE: its number; -2 - its FAULT;");
        HeadHill x = new HeadHill();
        due("a fault", Checks.rule(x, "run 1;run"), fault(9, UNFIT));
        due("empty", x.count(11), 0);
        due("no rule", x.count(3), 0);
        due("the first", Checks.rule(x, "run 1"), 0);
        due("empty too", x.count(11), 0);
        for (String spoilt : new String[] {"", "hill 1", "run 100000", "run 1 if " + "[".repeat(11)}) {
            HeadHill called = Scenes.rich();
            holds("'" + spoilt + "' has a fault", Checks.rule(called, spoilt) < -2);
            HeadHill left = Scenes.rich();
            left.end(0);
            sameAs("rule '" + spoilt + "'", called, left);
        }
    }

    void promise05ThereAreSix() {
        says("NONE, and nothing happens: there are 6.");
        refused("a seventh", Scenes::ruled, HeadHill::rule, -1);
        Maker spoilt = () -> told(Scenes.ruled(), "runs");
        refused("a seventh with a fault", spoilt, HeadHill::rule, -1);
        Maker empty = () -> told(Scenes.ruled(), "");
        refused("a seventh of nothing", empty, HeadHill::rule, -1);
        HeadHill x = Scenes.ruled();
        x.back(0);
        due("rules stay six by going back", x.rule(), -1);
    }

    private static HeadHill told(HeadHill x, String text) {
        Checks.tell(x, text);
        return x;
    }

    void promise05TwelveClauses() {
        says("12 CLAUSES at most: run SUM [ if TEST ].");
        String eleven = "run 1;".repeat(11);
        ruleIs(eleven + "run 1 if 1=1", 0);
        ruleFault(eleven + "run 1;run 1", 72, CLAUSE);
        ruleFault(eleven + "run 1 ;  run", 75, CLAUSE);
        ruleFault("run", 3, UNFIT);
        ruleFault("run if 1=1", 4, UNFIT);
        ruleFault("run 1 if", 8, UNFIT);
        ruleFault("run 1 1=1", 6, UNFIT);
        ruleFault("1", 0, UNFIT);
    }

    void promise05Tests() {
        says("TEST: PART { or PART }. PART: FACT { and FACT }. FACT: not FACT | [ TEST ] (these brackets are"
                + " signs) | SUM SIGN SUM, SIGN one of < <= = >= >.");
        for (String sign : new String[] {"<", "<=", "=", ">=", ">"}) {
            ruleIs("run 1 if 1" + sign + "2", 0);
            ruleFault("run 1 if 1" + sign, 10 + sign.length(), UNFIT);
            ruleFault("run 1 if " + sign + "1", 9, UNFIT);
        }
        for (String wrong : new String[] {"==", "=<", "=>", "<>", "<<", "><", ">>"}) {
            ruleFault("run 1 if 1" + wrong + "2", 11, UNFIT);
        }
        ruleFault("run 1 if 1!=2", 10, UNFIT);
        ruleFault("run 1 if 1<==2", 12, UNFIT);
        ruleFault("run 1 if []", 10, UNFIT);
        ruleFault("run 1 if [1=1]]", 14, UNFIT);
        ruleFault("run 1 if [[1=1]", 15, UNFIT);
        ruleFault("run 1 if not", 12, UNFIT);
        ruleFault("run 1 if or 1=1", 9, UNFIT);
        ruleFault("run 1 if 1=1 and", 16, UNFIT);
        ruleFault("run 1 if 1=1 or and 1=1", 16, UNFIT);
        ruleFault("run 1 if 1=1 not 1=1", 13, UNFIT);
        ruleFault("run 1 if (1=1)", 9, UNFIT);
        ruleFault("run 1 if [1=1]+1", 14, UNFIT);
        ruleFault("run 1 if [1=1]=1", 14, UNFIT);
        ruleFault("run 1 if 1+[1=1]", 11, UNFIT);
        ruleFault("run 1 if 1=1=1", 12, UNFIT);
        ruleFault("run 1 if 1=[1=1]", 11, UNFIT);
        ruleFault("run 1 if 1=not 1=1", 11, UNFIT);
        ruleFault("run 1 if 1 and 1=1", 11, UNFIT);
        ruleFault("run 1 if 1=1 if 1=1", 13, UNFIT);
    }

    void promise05Sums() {
        says("SUM: TERM { (+ or -) TERM }. TERM: VALUE { (* or / or %) VALUE }.");
        for (String sign : new String[] {"+", "-", "*", "/", "%"}) {
            ruleIs("run 1" + sign + "2", 0);
            ruleFault("run " + sign + "2", 4, UNFIT);
            ruleFault("run 1" + sign, 6, UNFIT);
            ruleFault("run 1" + sign + sign + "1", 6, UNFIT);
            ruleFault("run 1" + sign + ";run 1", 6, UNFIT);
        }
        ruleFault("run 1^2", 5, UNFIT);
        ruleFault("run [1]", 4, UNFIT);
    }

    void promise05FiveDigits() {
        says("VALUE: NUMBER (1 to 5 digits, as far as digits go on) | WORD.");
        ruleIs("run 0", 0);
        ruleIs("run 00000", 0);
        ruleIs("run 99999", 0);
        ruleFault("run 000000", 4, NUMBER);
        ruleFault("run 100000", 4, NUMBER);
        ruleFault("run 1+" + "9".repeat(390), 6, NUMBER);
        ruleFault("run 12345 6", 10, UNFIT);
        ruleFault("run /", 4, UNFIT);
        ruleFault("run :", 4, UNFIT);
        hillIs("hill 00060", 0);
        hillFault("hill 000060", 5, NUMBER);
        hillFault("hill 4294967297", 5, NUMBER);
    }

    void promise05WordsAreSmallLetters() {
        says("WORDS (small letters, as far as these go on) of a RUNNER and of a WARE that is there:");
        String[] words = {"runner", "ware", "speed", "purse", "far", "worth", "rivals", "time", "lead", "wealth",
            "feast", "day"};
        for (String word : words) {
            ruleIs("run " + word, 0);
            ruleFault("run " + word + "a", 4, UNFIT);
            ruleFault("run " + word + "z", 4, UNFIT);
            ruleFault("run a" + word, 4, UNFIT);
            ruleFault("run " + word.substring(1), 4, UNFIT);
            ruleFault("run " + word.substring(0, word.length() - 1), 4, UNFIT);
            ruleFault("run " + word + "`", 4 + word.length(), UNFIT);
            ruleFault("run " + word + "{", 4 + word.length(), UNFIT);
            ruleFault("run " + word + "1", 4 + word.length(), UNFIT);
            ruleFault("run " + word.toUpperCase(), 4, UNFIT);
        }
        for (String word : new String[] {"hill", "run", "if", "and", "or", "not"}) {
            ruleFault("run " + word, 4, UNFIT);
        }
        ruleIs("run1if1=1and1=1or not1=1", 0);
        ruleFault("run 1 if1=1ornot1=1", 11, UNFIT);
        hillIs("hill1;runner1 0;ware1 1 1", 1);
    }

    void promise05Blanks() {
        says("Blanks (32) stand between as one likes.");
        ruleIs("  run  1  +  far  if  [  not  1  <=  2  ]  and  1  >  2  ;  run  3  ", 0);
        ruleIs("run1+far if[not 1<=2]and 1>2;run3", 0);
        hillIs("  hill  7  ;  runner  1  2  ;  ware  3  4  5  ", 1);
        ruleFault("ru n 1", 0, UNFIT);
        ruleFault("run 1 if 1 < = 2", 13, UNFIT);
        ruleFault("run 1 2", 6, UNFIT);
        hillFault("hill 6 0", 7, UNFIT);
        for (int sign : new int[] {0, 9, 10, 13, 31, 33, 160, 255}) {
            ruleFault("run 1" + (char) sign, 5, UNFIT);
            ruleFault("run" + (char) sign + "1", 3, UNFIT);
            hillFault("hill 1;" + (char) sign + "runner 1 0", 7, UNFIT);
        }
    }

    void promise05TenDeep() {
        says("[ and not lie within one another 10 deep at most;");
        ruleIs("run 1 if " + "[".repeat(10) + "1=1" + "]".repeat(10), 0);
        ruleIs("run 1 if " + "not ".repeat(10) + "1=1", 0);
        ruleIs("run 1 if " + "not [".repeat(5) + "1=1" + "]".repeat(5), 0);
        ruleIs("run 1 if " + "[not ".repeat(5) + "1=1" + "]".repeat(5), 0);
        String ten = "[".repeat(10) + "1=1" + "]".repeat(10);
        ruleIs("run 1 if " + ten + " and " + ten + " or " + ten + ";run 1 if " + ten, 0);
        String nots = "not ".repeat(10) + "1=1";
        ruleIs("run 1 if " + nots + " and " + nots + " or " + nots + ";run 1 if " + nots, 0);
        String both = "not [".repeat(5) + "1=1" + "]".repeat(5);
        ruleIs("run 1 if " + both + " and " + both + " or " + both, 0);
        ruleIs("run 1 if [" + "not ".repeat(9) + "1=1 and " + "not ".repeat(9) + "1=1]", 0);
        ruleIs("run 1 if " + "not ".repeat(9) + "[1=1 and 1=1] and " + "not ".repeat(9) + "[1=1 or 1=1]", 0);
    }

    void promise05Deeper() {
        says("2 too deep (at the sign that opens, or the word not);");
        ruleFault("run 1 if " + "[".repeat(11) + "1=1" + "]".repeat(11), 19, DEEP);
        ruleFault("run 1 if " + "not ".repeat(11) + "1=1", 49, DEEP);
        ruleFault("run 1 if " + "not [".repeat(5) + "not 1=1", 34, DEEP);
        ruleFault("run 1 if " + "not [".repeat(5) + "  [1=1", 36, DEEP);
        ruleFault("run 1 if " + "[not ".repeat(5) + "  [1=1", 36, DEEP);
        ruleFault("run 1 if [" + "not ".repeat(9) + "1=1 and " + "not ".repeat(9) + "[1=1]]", 90, DEEP);
        ruleFault("run 1 if " + "[".repeat(10) + "1=1]and[ not 1=1", 28, DEEP);
        ruleFault("run 1 if " + "[".repeat(10) + "1=1 or not 1=1", 26, DEEP);
    }

    void promise05SixtyParts() {
        says("at most 60 VALUES (of SUMS) and FACTS made of a SIGN, together.");
        ruleIs("run 1" + "+1".repeat(59), 0);
        ruleIs("run 1" + "*far".repeat(59), 0);
        ruleIs("run 1" + "+1".repeat(56) + " if 1=1", 0);
        ruleIs("run 1 if 1=1" + "+1".repeat(56), 0);
        ruleIs("run 1 if 1" + "+1".repeat(56) + "=1", 0);
        ruleIs("run 1+1+1 if 1=1" + " and 1=1".repeat(18), 0);
        ruleIs("run 1+1+1 if not[1=1" + " or[1=1]".repeat(18) + "]", 0);
        ruleIs("run 1;".repeat(11) + "run 1" + "+1".repeat(48), 0);
    }

    void promise05OnePartTooMany() {
        says("3 one VALUE or FACT too many (at its first byte; of a FACT at its SIGN);");
        ruleFault("run 1" + "+1".repeat(60), 124, PART);
        ruleFault("run 1" + "+1".repeat(59) + "+  worth", 126, PART);
        ruleFault("run 1" + "+1".repeat(59) + " if 1=1", 127, PART);
        ruleFault("run 1" + "+1".repeat(58) + " if 1 <=1", 127, PART);
        ruleFault("run 1" + "+1".repeat(57) + " if 1>= far", 127, PART);
        ruleFault("run 1" + "+1".repeat(57) + " if 1=1 and 1=1", 125, PART);
        ruleFault("run 1+1+1 if 1=1" + " and 1=1".repeat(18) + " or 1=1", 16 + 144 + 4, PART);
        ruleFault("run 1;".repeat(11) + "run 1" + "+1".repeat(49), 66 + 5 + 97, PART);
        ruleFault("run 1" + "+1".repeat(59) + ";run 7", 128, PART);
    }

    void promise05FaultsFirstAlongTheText() {
        says("FAULTS, the first along the text, 1 + 8 * its place and:");
        hillFault("hill 0;runner 0 41;x", 5, NUMBER);
        hillFault("hill 1;runner 0 41;x", 14, NUMBER);
        hillFault("hill 1;runner 1 41;x", 16, NUMBER);
        hillFault("hill 1;runner 1 40;x", 19, UNFIT);
        hillFault("hill x;hill 1", 5, UNFIT);
        ruleFault("run 100000 x", 4, NUMBER);
        ruleFault("run x 100000", 4, UNFIT);
        ruleFault("run 1 if " + "[".repeat(11) + "100000", 19, DEEP);
        ruleFault("run 1 if 100000=" + "[".repeat(11), 9, NUMBER);
        ruleFault("x" + " ".repeat(399), 0, UNFIT);
    }

    void promise05WhatCannotStand() {
        says("0 a byte or WORD that can't stand there, or the end (behind the last byte);");
        hillFault("hill", 4, UNFIT);
        hillFault("hill   ", 7, UNFIT);
        hillFault("hill 1;runner 1 ", 16, UNFIT);
        hillFault("hill 1;runner 1 ;", 16, UNFIT);
        hillFault("hill 1;ware 1 1", 15, UNFIT);
        hillFault("hill one", 5, UNFIT);
        hillFault("hills 1", 0, UNFIT);
        hillFault("Hill 1", 0, UNFIT);
        hillFault("run 1", 0, UNFIT);
        ruleFault("run 1 +  ", 9, UNFIT);
        ruleFault("run 1 if [1=1  ", 15, UNFIT);
        ruleFault("run 1 ifs 1=1", 6, UNFIT);
        ruleFault("hill 1", 0, UNFIT);
    }

    void promise05WrongNumbers() {
        says("1 a NUMBER of more digits, or not as told;");
        hillFault("hill 000001", 5, NUMBER);
        hillFault("hill  61", 6, NUMBER);
        hillFault("hill 1;ware 1 1  0", 17, NUMBER);
        ruleFault("run  123456", 5, NUMBER);
        ruleFault("run 1 if 1 = 999999", 13, NUMBER);
    }

    void promise05TooManyClauses() {
        says("4 one CLAUSE too many, a second hill, another CLAUSE ahead of it, a sixth RUNNER, a seventh WARE (at"
                + " its first byte).");
        ruleFault("run 1;".repeat(12) + "  run 1", 74, CLAUSE);
        hillFault("hill 1;  hill", 9, CLAUSE);
        hillFault("  runner", 2, CLAUSE);
        hillFault("ware", 0, CLAUSE);
        hillFault("hill 1" + FIVE_RUNNERS + ";  runner", 6 + FIVE_RUNNERS.length() + 3, CLAUSE);
        hillFault("hill 1" + SIX_WARES + ";  ware", 6 + SIX_WARES.length() + 3, CLAUSE);
        hillFault("hill 1" + FIVE_RUNNERS + SIX_WARES + ";runner 1 1", 7 + FIVE_RUNNERS.length() + SIX_WARES.length(),
                CLAUSE);
    }

    void promise05OfOnePlaceTheLeast() {
        says("Of one place the least.");
        String sixty = "run 1" + "+1".repeat(59);
        ruleFault(sixty + "+123456", 124, NUMBER);
        ruleFault(sixty + "+worths", 124, UNFIT);
        ruleFault(sixty + "+", 124, UNFIT);
        ruleFault("run 1" + "+1".repeat(58) + " if 1!1", 126, UNFIT);
        ruleFault("run 1;".repeat(12) + "runs", 72, UNFIT);
        ruleFault("run 1;".repeat(12) + "1", 72, UNFIT);
        ruleFault("run 1;".repeat(12), 72, UNFIT);
        hillFault("hill 1" + FIVE_RUNNERS + ";runners", 7 + FIVE_RUNNERS.length(), UNFIT);
        hillFault("hill 1" + FIVE_RUNNERS + SIX_WARES + ";", 7 + FIVE_RUNNERS.length() + SIX_WARES.length(), UNFIT);
        hillFault("hill 1;hills", 7, UNFIT);
        hillFault("wares 1 1 1", 0, UNFIT);
    }

    void promise06Force() {
        says("A RULE is IN FORCE (NONE: none): which was;");
        HeadHill x = Checks.at(Scenes.TOWN, "run 1", "run 2", "run 3", "run 4", "run 5", "run 6");
        due("none was", x.force(5), -1);
        due("the last was", x.force(0), 5);
        due("the first was", x.force(0), 0);
        due("in force", x.count(4), 0);
        due("none", x.force(-1), 0);
        due("none was then", x.force(-1), -1);
        due("no rule is in force", x.count(4), -1);
    }

    void promise06NoneSuch() {
        says("-2, and nothing happens, if there is none such.");
        for (int rule : new int[] {2, 3, 5, 6, MAX, -2, -3, MIN}) {
            refused("force " + rule, Scenes::rich, x -> x.force(rule), -2);
        }
        refused("force 6 of six", Scenes::ruled, x -> x.force(6), -2);
        refused("force 0 of none", HeadHill::new, x -> x.force(0), -2);
    }
}
