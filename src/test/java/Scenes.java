import java.util.ArrayList;
import java.util.List;

/** Objects in a state that has something of everything, and all that can be seen of an object. */
final class Scenes {
    static final String TOWN = "hill 5;runner 2 5;runner 4 0;runner 1 9;ware 12 10 1;ware 6 8 2";

    private Scenes() {
    }

    /** Two RULES, one IN FORCE, NOTES, two IMAGES, six ACTS, and a RULE that waits on the TAPE. */
    static HeadHill rich() {
        HeadHill x = Checks.at(TOWN, "run worth", "run far+ware*9-rivals*7");
        x.force(1);
        x.seed(77);
        x.note(0, 0, 0);
        x.image(0);
        x.day();
        x.lend(0, 1, 2);
        x.note(1, 1, -1);
        x.image(2);
        x.day();
        x.shift(0, 50);
        x.train(1, 9);
        x.fall(2);
        Checks.tell(x, "run far*7+purse");
        return x;
    }

    /** As rich, but with all six RULES. */
    static HeadHill ruled() {
        HeadHill x = rich();
        x.rule();
        for (int n = 3; n < 6; n++) {
            Checks.rule(x, "run worth+" + n);
        }
        Checks.tell(x, "run day+speed");
        return x;
    }

    /** All that can be seen of an object, which is used up by it. */
    static List<String> seen(HeadHill x) {
        List<String> seen = new ArrayList<>();
        seen.add("tape: " + x.count(11));
        town(x, seen);
        tape(x, seen);
        undone(x, seen);
        for (int k = 0; k < 4; k++) {
            int day = x.back(k);
            seen.add("image " + k + ": " + day);
            if (day >= 0) {
                town(x, seen);
                undone(x, seen);
            }
        }
        return seen;
    }

    private static void town(HeadHill x, List<String> seen) {
        for (int what = 0; what < 11; what++) {
            seen.add("count(" + what + "): " + x.count(what));
        }
        moment(x, seen);
        for (int what = 0; what < 2; what++) {
            seen.add("ruled(" + what + "): " + x.ruled(what));
            seen.add("falls(2, 3, 50, " + what + "): " + x.falls(2, 3, 50, what));
        }
    }

    private static void moment(HeadHill x, List<String> seen) {
        for (int r = 0; r < x.count(1); r++) {
            for (int what = 0; what < 3; what++) {
                seen.add("runner(" + r + ", " + what + "): " + x.runner(r, what));
            }
        }
        for (int w = 0; w < x.count(2); w++) {
            for (int what = 0; what < 5; what++) {
                seen.add("ware(" + w + ", " + what + "): " + x.ware(w, what));
            }
        }
    }

    /** What stands on the TAPE shows as a RULE, or by its FAULT. */
    private static void tape(HeadHill x, List<String> seen) {
        int told = x.rule();
        seen.add("rule of the tape: " + told);
        if (told >= 0) {
            int was = x.force(told);
            for (int r = 0; r < x.count(1); r++) {
                seen.add("by the rule of the tape: " + x.ahead(r, 3, 0) + " " + x.ahead(r, 3, 1));
            }
            x.force(was);
        } else {
            seen.add("hill of the tape: " + x.hill());
        }
    }

    private static void undone(HeadHill x, List<String> seen) {
        for (int left = x.undo(); left >= 0; left = x.undo()) {
            seen.add("undone: " + left + " on day " + x.count(5));
            moment(x, seen);
        }
    }
}
