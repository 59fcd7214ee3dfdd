/** Edges of what WORDS, signs and CLAUSES of a RULE are worth on a DAY: promise 9, and 6 for the RULE IN FORCE. */
final class WordEdges extends Edges {
    /** 2 to the 63rd, one more than the greatest number there is. */
    private static final String ROUND = "65536*65536*65536*32768";

    WordEdges(Checks checks, Document document) {
        super(checks, document);
    }

    /** Whether a RUNNER runs for a WARE and GETS it, if by this FACT alone they run at all. */
    private static boolean isSo(HeadHill x, int runner, int ware, String fact) {
        by(x, "run 1 if runner=" + runner + " and ware=" + ware + " and [" + fact + "]");
        return x.count(4) >= 0 && x.ahead(ware, 1, 2) == runner;
    }

    private void so(Maker maker, int runner, int ware, String fact) {
        holds("'" + fact + "' of " + runner + " and " + ware, isSo(maker.make(), runner, ware, fact));
        holds("not '" + fact + "' of " + runner + " and " + ware,
                !isSo(maker.make(), runner, ware, "not [" + fact + "]"));
    }

    private static Maker after(int days, String hill, int from, int to, int seconds) {
        return () -> {
            HeadHill x = Checks.at(hill);
            lendAll(x, from, to, seconds);
            return after(days, x);
        };
    }

    private static Maker at(String hill) {
        return () -> Checks.at(hill);
    }

    void promise09RunnerAndWare() {
        says("runner, ware, speed,");
        String town = "hill 9;runner 1 0;runner 20 0;runner 7 0;runner 7 0;runner 19 0"
                + ";ware 1 1 1;ware 2 2 1;ware 1 1 1;ware 1 1 1;ware 1 1 1;ware 99 50 1";
        so(at(town), 0, 0, "runner=0 and ware=0 and speed=1");
        so(at(town), 1, 1, "runner=1 and ware=1 and speed=20");
        so(at(town), 4, 5, "runner=4 and ware=5 and speed=19");
        Maker trained = () -> {
            HeadHill x = Checks.at(town);
            x.train(0, 20);
            return x;
        };
        so(trained, 0, 0, "speed=20");
    }

    void promise09PurseBelowZero() {
        says("purse (below 0, too), far, worth,");
        so(at("hill 9;runner 1 40;ware 1 1 1"), 0, 0, "purse=40 and far=1 and worth=1");
        so(at("hill 9;runner 1 0;ware 99 50 1"), 0, 0, "purse=0 and far=99 and worth=50");
        so(after(0, "hill 9;runner 1 0;runner 1 0;ware 1 1 1", 0, 1, 1), 0, 0, "purse=0-1 and purse<0");
        so(after(0, "hill 9;runner 1 0;runner 1 0;ware 1 1 1", 0, 1, 99), 0, 0, "purse=0-99");
        so(after(0, "hill 9;runner 1 0;runner 1 0;ware 1 1 1", 0, 1, 99), 1, 0, "purse=99");
        Maker moved = () -> {
            HeadHill x = Checks.at("hill 9;runner 1 0;ware 50 1 1");
            x.shift(0, 99);
            return x;
        };
        so(moved, 0, 0, "far=99");
    }

    void promise09RivalsOfLessNumbers() {
        says("rivals (how many RUNNERS of less numbers run for it on this DAY)");
        String town = "hill 9;runner 1 0;runner 1 0;runner 1 0;runner 1 0;runner 1 0;ware 9 1 1;ware 9 2 1";
        // Each runs for WARE 0 only if as many as its number do so ahead of it: all five.
        HeadHill x = by(Checks.at(town), "run 1 if ware=0 and rivals=runner");
        due("ware 0 alone", x.day(), 1);
        purses("five ran", x, -4, 1, 1, 1, 1);
        // Who is of a greater number does not count: 0 sees none, whoever else runs.
        HeadHill y = by(Checks.at(town), "run 1 if runner>0 and ware=0;run 1 if runner=0 and ware=0 and rivals=0");
        due("0 runs too", y.day(), 1);
        due("and is first", y.ware(0, 4), 0);
        // Who runs for another WARE does not count.
        HeadHill z = by(Checks.at(town), "run 1 if runner<4 and ware=1;run 1 if runner=4 and ware=0 and rivals=0");
        due("both", z.day(), 3);
        due("4 sees none at ware 0", z.ware(0, 4), 4);
        // Each DAY begins with none.
        HeadHill again = by(Checks.at(town), "run 1 if ware=0 and rivals=runner");
        again.day();
        again.day();
        due("as much on the next day", again.count(6), 2);
    }

    void promise09Time() {
        says("time (FAR / SPEED)");
        so(at("hill 9;runner 20 0;ware 19 1 1"), 0, 0, "time=0");
        so(at("hill 9;runner 20 0;ware 20 1 1"), 0, 0, "time=1");
        so(at("hill 9;runner 20 40;ware 39 1 1"), 0, 0, "time=1");
        so(at("hill 9;runner 1 40;ware 99 1 1"), 0, 0, "time=99");
        so(at("hill 9;runner 20 40;ware 1 1 1"), 0, 0, "time=0");
    }

    void promise09Lead() {
        says("lead (PURSE less the most of any other RUNNER; 0 without others)");
        so(at("hill 9;runner 1 40;ware 1 1 1"), 0, 0, "lead=0");
        so(at("hill 9;runner 1 40;runner 1 0;ware 1 1 1"), 0, 0, "lead=40");
        so(at("hill 9;runner 1 40;runner 1 0;ware 1 1 1"), 1, 0, "lead=0-40");
        so(at("hill 9;runner 1 7;runner 1 7;runner 1 3;ware 1 1 1"), 0, 0, "lead=0");
        so(at("hill 9;runner 1 7;runner 1 7;runner 1 3;ware 1 1 1"), 2, 0, "lead=0-4");
        // -99 and 99: as far apart as can be; and all others below 0.
        String two = "hill 9;runner 1 0;runner 1 0;ware 1 1 1";
        so(after(0, two, 0, 1, 99), 0, 0, "lead=0-198");
        so(after(0, two, 0, 1, 99), 1, 0, "lead=198");
        Maker below = () -> {
            HeadHill x = Checks.at("hill 9;runner 1 0;runner 1 0;runner 1 0;ware 1 1 1");
            x.lend(1, 0, 3);
            x.lend(2, 0, 4);
            return x;
        };
        so(below, 0, 0, "purse=7 and lead=10");
        so(below, 1, 0, "purse=0-3 and lead=0-10");
    }

    void promise09Wealth() {
        says("lead (PURSE less the most of any other RUNNER; 0 without others), wealth,");
        String town = "hill 9;runner 1 0;ware 1 50 1";
        so(at(town), 0, 0, "wealth=0");
        so(after(1, town, 0, 0, 0), 0, 0, "wealth=50");
        so(after(199, town, 0, 0, 0), 0, 0, "wealth=9950");
        so(after(200, town, 0, 0, 0), 0, 0, "wealth=9999");
    }

    void promise09DaysTillTheFeast() {
        says("feast (how many DAYS till the next FEAST: 0 on it), day.");
        for (int day : new int[] {0, 1, 59, 60, 61}) {
            so(after(day, "hill 1;runner 1 0;ware 1 1 1", 0, 0, 0), 0, 0, "feast=0 and day=" + day);
        }
        int[][] ofSixty = {{0, 59}, {1, 58}, {58, 1}, {59, 0}, {60, 59}, {119, 0}, {120, 59}};
        for (int[] pair : ofSixty) {
            so(after(pair[0], "hill 60;runner 1 0;ware 1 1 1", 0, 0, 0), 0, 0,
                    "feast=" + pair[1] + " and day=" + pair[0]);
        }
        int[] ofThree = {2, 1, 0, 2, 1, 0, 2};
        for (int day = 0; day < ofThree.length; day++) {
            so(after(day, "hill 3;runner 1 0;ware 1 1 1", 0, 0, 0), 0, 0, "feast=" + ofThree[day]);
        }
    }

    void promise09TowardsZero() {
        says("/ is towards 0, % its rest,");
        Maker below = after(0, "hill 9;runner 1 0;runner 1 0;ware 1 1 1", 0, 1, 7);
        so(below, 0, 0, "purse/2=0-3 and purse%2=0-1");
        so(below, 0, 0, "purse/3=0-2 and purse%3=0-1");
        so(below, 0, 0, "20/purse=0-2 and 20%purse=6");
        so(below, 0, 0, "purse/purse=1 and purse%purse=0");
        so(below, 0, 0, "purse/7=0-1 and purse%7=0 and purse/8=0 and purse%8=0-7");
        so(below, 0, 0, "6/purse=0 and 6%purse=6 and 7/purse=0-1 and 7%purse=0");
        so(at("hill 9;runner 1 0;ware 1 1 1"), 0, 0, "7/2=3 and 7%2=1 and 6/7=0 and 7/7=1 and 99999/1=99999");
    }

    void promise09ByZero() {
        says("both 0 by 0;");
        Maker below = after(0, "hill 9;runner 1 0;runner 1 0;ware 1 1 1", 0, 1, 7);
        so(below, 0, 0, "7/0=0 and 7%0=0 and 0/0=0 and 0%0=0 and purse/0=0 and purse%0=0");
        so(below, 0, 0, "7/runner=0 and 7%ware=0 and 5+7/0*3=5 and 5-7%0=5");
    }

    void promise09RoundIn64Bits() {
        says("all goes round in 64 bits.");
        Maker one = at("hill 9;runner 1 0;ware 1 1 1");
        so(one, 0, 0, ROUND + "<0");
        so(one, 0, 0, ROUND + "-1>0");
        so(one, 0, 0, "0-1+" + ROUND + ">0");
        so(one, 0, 0, ROUND + "-1+1<0");
        so(one, 0, 0, ROUND + "+" + ROUND + "=0");
        so(one, 0, 0, ROUND + "*2=0");
        so(one, 0, 0, "65536*65536*65536*65536+5=5");
        so(one, 0, 0, "0-" + ROUND + "=" + ROUND);
        so(one, 0, 0, ROUND + "/32768/65536/65536=0-65536");
        so(one, 0, 0, "65536*65536*65536*16384>0");
        so(one, 0, 0, "65536*32768*2>65536*65535");
    }

    /** A VALUE is below 0 only as a WORD: the least number by -1 goes round, its rest is 0. */
    void promise09RoundByMinusOne() {
        says("/ is towards 0, % its rest, both 0 by 0; all goes round in 64 bits.");
        Maker minusOne = after(0, "hill 9;runner 1 0;runner 1 0;ware 1 1 1", 0, 1, 1);
        so(minusOne, 0, 0, "purse=0-1 and " + ROUND + "/purse=" + ROUND + " and " + ROUND + "%purse=0");
        so(minusOne, 0, 0, ROUND + "*purse=" + ROUND);
    }

    void promise09SignsHold() {
        says("SUM SIGN SUM, SIGN one of < <= = >= >.");
        Maker one = at("hill 9;runner 1 0;ware 1 1 1");
        so(one, 0, 0, "1<2 and not 2<2 and not 3<2");
        so(one, 0, 0, "1<=2 and 2<=2 and not 3<=2");
        so(one, 0, 0, "not 1=2 and 2=2 and not 3=2");
        so(one, 0, 0, "not 1>=2 and 2>=2 and 3>=2");
        so(one, 0, 0, "not 1>2 and not 2>2 and 3>2");
        so(one, 0, 0, "0-1<0 and 0-1<=0 and 0>=0-1 and 0>0-1");
        so(one, 0, 0, "2+3*4=14 and 2*3+4=10 and 2+3*4-5=9");
        so(one, 0, 0, "20-5-3=12 and 100/5/2=10 and 17%10%4=3 and 100/7*7=98 and 7*100/7=100");
    }

    void promise09AndOrNot() {
        says("TEST: PART { or PART }. PART: FACT { and FACT }. FACT: not FACT | [ TEST ]");
        Maker one = at("hill 9;runner 1 0;ware 1 1 1");
        for (int bits = 0; bits < 8; bits++) {
            boolean a = (bits & 1) != 0;
            boolean b = (bits & 2) != 0;
            boolean c = (bits & 4) != 0;
            String x = a ? "1=1" : "1=2";
            String y = b ? "2>1" : "1>2";
            String z = c ? "1<2" : "2<1";
            is(one, x + " or " + y + " and " + z, a || b && c);
            is(one, x + " and " + y + " or " + z, a && b || c);
            is(one, "[" + x + " or " + y + "] and " + z, (a || b) && c);
            is(one, x + " and [" + y + " or " + z + "]", a && (b || c));
            is(one, "not " + x + " and " + y + " or " + z, !a && b || c);
            is(one, "not " + x + " or " + y + " and not " + z, !a || b && !c);
            is(one, "not [" + x + " or " + y + "] and " + z, !(a || b) && c);
            is(one, "not not " + x + " and not [not " + y + " or " + z + "]", a && !(!b || c));
            is(one, x + " or " + y + " or " + z, a || b || c);
            is(one, x + " and " + y + " and " + z, a && b && c);
        }
        // As much as can wait at once: nine times an or, an and, and a bracket, then a SIGN, a + and a *; 60 in all.
        String deep = "1=2 or 1=1 and [".repeat(9) + "[1=%d+1*1]" + "]".repeat(9);
        HeadHill so = by(one.make(), "run 1 if " + String.format(deep, 0));
        due("all of it", so.day(), 1);
        HeadHill not = by(one.make(), "run 1 if " + String.format(deep, 1));
        due("none of it", not.day(), 0);
        due("both were told", so.count(3) + not.count(3), 2);
    }

    private void is(Maker maker, String test, boolean want) {
        HeadHill x = by(maker.make(), "run 1 if " + test);
        due("'" + test + "'", x.count(3) == 1 ? x.day() : -9, want ? 1 : 0);
    }

    void promise09WareIsThere() {
        says("A WARE is there, if the rest of DAY by EVERY is 0.");
        HeadHill x = Checks.at("hill 60;ware 1 1 1;ware 1 1 2;ware 1 1 8;ware 1 1 9");
        int[] every = {1, 2, 8, 9};
        for (int day = 0; day <= 73; day++) {
            int bits = 0;
            for (int w = 0; w < 4; w++) {
                int is = day % every[w] == 0 ? 1 : 0;
                due("ware " + w + " on day " + day, x.ware(w, 3), is);
                bits += is << w;
            }
            due("all on day " + day, x.count(7), bits);
            x.day();
        }
    }

    void promise09Exactly() {
        says("A RUNNER comes to FAR at FAR / SPEED less PURSE seconds, exactly (below 0, too);");
        // 1/19 and 1/20 of a second; then 99/19 and 99/20, one second less; then below 0.
        due("by a 380th of a second", firstTo("hill 9;runner 19 0;runner 20 0;ware 1 1 1"), 1);
        due("5.21 - 1 and 4.95", firstTo("hill 9;runner 20 0;runner 19 1;ware 99 1 1"), 1);
        due("-39 and -39.95", firstTo("hill 9;runner 1 40;runner 20 40;ware 1 1 1"), 1);
        due("-39.95 and -39.947", firstTo("hill 9;runner 20 40;runner 19 40;ware 1 1 1"), 0);
        due("-1 and 0.05", firstTo("hill 9;runner 20 0;runner 1 2;ware 1 1 1"), 1);
        due("0 and 0.05", firstTo("hill 9;runner 20 0;runner 1 1;ware 1 1 1"), 1);
        HeadHill x = Checks.at("hill 9;runner 1 0;runner 20 0;ware 99 1 1");
        lendAll(x, 1, 0, 99);
        x.day();
        due("99 - 99 and 4.95 + 99", x.ware(0, 4), 0);
    }

    private static int firstTo(String hill) {
        HeadHill x = Checks.at(hill);
        x.day();
        return x.ware(0, 4);
    }

    void promise09OfThoseAlikeTheLeast() {
        says("of several that is FIRST who comes at least, of those alike the least.");
        due("all alike", firstTo("hill 9;runner 7 3;runner 7 3;runner 7 3;runner 7 3;runner 7 3;ware 9 1 1"), 0);
        due("5/2 - 2 and 5/10", firstTo("hill 9;runner 2 2;runner 10 0;ware 5 1 1"), 0);
        due("5/10 and 5/2 - 2", firstTo("hill 9;runner 10 0;runner 2 2;ware 5 1 1"), 0);
        due("5, 5/2 - 2 and 5/10", firstTo("hill 9;runner 1 0;runner 2 2;runner 10 0;ware 5 1 1"), 1);
        due("6/3 - 1 and 6/6", firstTo("hill 9;runner 1 1;runner 3 1;runner 6 0;ware 6 1 1"), 1);
        due("6/6 and 6/3 - 1", firstTo("hill 9;runner 1 1;runner 6 0;runner 3 1;ware 6 1 1"), 1);
        due("the last alone", firstTo("hill 9;runner 7 3;runner 7 3;runner 7 3;runner 7 4;ware 9 1 1"), 3);
    }

    void promise09FirstClause() {
        says("A DAY: (1) RUNNERS by numbers, each runs for that WARE, of those that are there, for which the SUM"
                + " of the RULE IN FORCE's first CLAUSE without a TEST, or whose TEST holds (0 without), is"
                + " greatest,");
        String town = "hill 9;runner 1 0;ware 1 5 1;ware 1 7 1;ware 1 9 2";
        due("the first without a test", gotBy(town, 0, "run worth;run 100 if ware=0"), 4);
        due("the first whose test holds", gotBy(town, 0, "run 9 if ware=7;run worth if ware<2;run 1;run 99"), 2);
        due("a clause that holds by 0 keeps the next off", gotBy(town, 0, "run 0 if ware<2;run 1"), 4);
        due("none holds", gotBy(town, 0, "run 9 if ware=7;run 9 if worth=0"), 0);
        due("the twelfth", gotBy(town, 0, "run 9 if 1=2;".repeat(11) + "run 3-ware"), 1);
        due("the most is not there on day 1", gotBy(town, 1, "run worth"), 2);
        due("there again on day 2", gotBy(town, 2, "run worth"), 4);
    }

    private static int gotBy(String town, int days, String rule) {
        return by(after(days, town), rule).day();
    }

    void promise09AboveZero() {
        says("if it is above 0, of several the least (none, if none is such);");
        String town = "hill 9;runner 1 0;ware 1 5 1;ware 1 7 1;ware 1 9 2";
        due("1", gotBy(town, 0, "run 1"), 1);
        due("0", gotBy(town, 0, "run 0"), 0);
        due("-1", gotBy(town, 0, "run 0-1"), 0);
        due("1 of the last alone", gotBy(town, 0, "run ware-1"), 4);
        due("the last two alike", gotBy(town, 0, "run 1 if ware>0"), 2);
        due("the greatest there is", gotBy(town, 0, "run 1 if ware=0;run " + ROUND + "-1"), 2);
        due("one more is below 0", gotBy(town, 0, "run " + ROUND), 0);
        due("beyond 32 bits", gotBy(town, 0, "run 65536*65536 if ware=1;run 65535*65535"), 2);
    }

    void promise09WithoutARule() {
        says("without a RULE for the one most WORTH, of several the least.");
        due("most", gotWithout("hill 9;runner 1 0;ware 1 49 1;ware 99 50 1;ware 1 1 1", 0), 2);
        due("alike", gotWithout("hill 9;runner 1 0;ware 99 7 1;ware 1 7 1", 0), 1);
        due("worth 1", gotWithout("hill 9;runner 1 0;ware 99 1 1", 0), 1);
        due("of those there", gotWithout("hill 9;runner 1 0;ware 1 50 2;ware 1 1 1", 1), 2);
        due("none there", gotWithout("hill 9;runner 1 0;ware 1 50 2", 1), 0);
        due("no wares", gotWithout("hill 9;runner 1 0", 0), 0);
        due("no runners", gotWithout("hill 9;ware 1 1 1", 0), 0);
        due("nothing", gotWithout("hill 9", 0), 0);
        HeadHill x = by(Checks.at("hill 9;runner 1 0;ware 1 2 1;ware 1 1 1"), "run ware");
        due("by the rule", x.day(), 2);
        x.force(-1);
        due("none in force again", x.day(), 1);
    }

    private static int gotWithout(String town, int days) {
        return after(days, town).day();
    }
}
