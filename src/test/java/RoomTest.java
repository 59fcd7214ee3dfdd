import java.lang.management.ManagementFactory;
import java.util.Random;

/**
 * All calls of one run live in one room that is never cleared: what is asked makes no objects at all, and what is
 * told makes few. Wrong arguments of every size are among the calls: none may throw.
 */
public final class RoomTest {
    private static final int[] ANY = {Integer.MIN_VALUE, -1001, -1000, -3, -2, -1, 0, 1, 2, 3, 4, 5, 6, 7, 20, 60, 61,
        99, 100, 400, 9999, Integer.MAX_VALUE};
    private static final String TOWN = "hill 7;runner 3 5;runner 4 12;runner 2 5;runner 9 0;runner 20 40"
            + ";ware 20 9 1;ware 7 4 2;ware 99 50 9;ware 1 1 1;ware 30 30 3;ware 40 40 4";
    private static final String RULE = "run worth-rivals*3-time if lead>=0 and [far<90 or not purse>3];run far";

    public static void main(String[] args) {
        Checks checks = new Checks();
        asksMakeNothing(checks);
        tellsMakeLittle(checks);
        checks.finish("RoomTest");
    }

    private static long made() {
        var bean = (com.sun.management.ThreadMXBean) ManagementFactory.getThreadMXBean();
        return bean.getThreadAllocatedBytes(Thread.currentThread().getId());
    }

    private static void asksMakeNothing(Checks checks) {
        HeadHill x = Checks.at(TOWN, RULE, "run 1", "run worth");
        x.force(0);
        Random random = new Random(5);
        ask(x, random, 2000);
        made();
        long before = made();
        ask(x, random, 2000);
        long bytes = made() - before;
        checks.holds("2000 asks made " + bytes + " bytes", bytes < 2000);
    }

    private static int any(Random random) {
        return ANY[random.nextInt(ANY.length)];
    }

    private static int ask(HeadHill x, Random random, int times) {
        int sum = 0;
        for (int i = 0; i < times; i++) {
            int a = any(random);
            int b = any(random);
            int c = any(random);
            int d = any(random);
            sum += x.runner(a, b) + x.ware(a, b) + x.ahead(a, b, c) + x.gets(a, b) + x.rank(a, b) + x.need(a, b, c)
                    + x.lender(a, b, c) + x.row(a, b, c) + x.settle() + x.rings(a) + x.had(a, b, c, d)
                    + x.rests(a, b, c) + x.pence(a, b) + x.note(a, b, c) + x.ruled(a) + x.look(a, b) + x.seed(a)
                    + x.falls(a, b, c, d) + x.count(a) + x.force(-1 + (i & 3)) + x.end(a);
            if (i % 10 == 0) {
                x.note(-1, 0, 0);
            }
        }
        return sum;
    }

    private static void tellsMakeLittle(Checks checks) {
        HeadHill x = new HeadHill();
        Random random = new Random(6);
        made();
        long before = made();
        for (int i = 0; i < 512; i++) {
            tellOne(x, random, i);
        }
        long bytes = made() - before;
        checks.holds("512 calls that tell made " + bytes + " bytes", bytes < 500000);
    }

    private static void tellOne(HeadHill x, Random random, int i) {
        if (i % 16 == 0) {
            Checks.hill(x, TOWN);
        } else if (i % 16 == 1) {
            Checks.rule(x, RULE);
        } else if (i % 16 == 2) {
            Checks.rule(x, RULE + "]");
        } else if (i % 16 == 3) {
            x.image(random.nextInt(4));
        } else if (i % 16 == 4) {
            x.back(random.nextInt(4));
        } else {
            x.day();
        }
    }
}
