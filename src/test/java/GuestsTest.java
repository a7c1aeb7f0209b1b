/** Promises 18 to 25. */
public final class GuestsTest {
    private static final Check CHECK = new Check("GuestsTest");
    private static final int BAD = OddLetsIn.BAD;
    private static final int NO = OddLetsIn.NO;
    private static final int FULL = OddLetsIn.FULL;
    private static final int NONE = OddLetsIn.NONE;

    public static void main(String[] args) {
        path();
        guests();
        guestsByCopies();
        guestsAsGatesStand();
        odds();
        oddsBad();
        day();
        dayDraws();
        keepAndBack();
        count();
        CHECK.end();
    }

    private static void path() {
        OddLetsIn x = new OddLetsIn();
        CHECK.due("noPath() of nothing", x.noPath(), 0);
        int[] none = {-1, 2, Integer.MIN_VALUE, Integer.MAX_VALUE};
        for (int g : none) {
            CHECK.due("path: gate", x.path(g), BAD);
        }
        for (int i = 1; i <= 8; i++) {
            CHECK.due("path", x.path(i % 2), i);
        }
        CHECK.due("path, one more", x.path(0), FULL);
        CHECK.due("BAD before FULL", x.path(2), BAD);
        CHECK.due("count(5)", x.count(5), 8);
        CHECK.due("noPath()", x.noPath(), 8);
        CHECK.due("count(5) behind it", x.count(5), 0);
        CHECK.due("guests without a path", x.guests(3, 0), 60);
        CHECK.due("path behind it", x.path(1), 1);
        x.noPath();
        x.path(0);
        x.path(1);
        dueGuests(x, 0, 60, 1);
        x.noPath();
        x.path(0);
        dueGuests(x, 2, 60, 1);
    }

    private static void dueGuests(OddLetsIn x, int set, int many, int lowest) {
        CHECK.due("guests(" + set + ", 0)", x.guests(set, 0), many);
        CHECK.due("guests(" + set + ", 1)", x.guests(set, 1), lowest);
    }

    private static void guests() {
        OddLetsIn x = Check.laid("g0,1,0,0;g1,2,1,0;g1,0,0,0;");
        x.path(0);
        x.path(2);
        dueGuests(x, 0, 60, 1);
        dueGuests(x, 5, 0, NONE);
        x.noPath();
        x.path(1);
        dueGuests(x, 5, 60, 1);
        dueGuests(x, 0, 0, NONE);
        CHECK.due("nothing changes", x.gate(0, 3), 0);
        int[] sets = {-1, 8, Integer.MIN_VALUE, Integer.MAX_VALUE};
        for (int set : sets) {
            CHECK.due("guests: set", x.guests(set, 0), BAD);
        }
        int[] whats = {-1, 2, Integer.MIN_VALUE, Integer.MAX_VALUE};
        for (int what : whats) {
            CHECK.due("guests: what", x.guests(0, what), BAD);
        }
    }

    /** Each guest goes on through the first open gate that the one before him has left. */
    private static void guestsByCopies() {
        OddLetsIn x = Check.laid("g1,2,0,0;g0,1,3,0;g2,3,1,1;g1,0,3,0;");
        x.path(1);
        x.path(0);
        dueGuests(x, 12, 60, 1);
        x.noPath();
        x.path(1);
        x.path(1);
        x.path(1);
        x.path(0);
        x.path(2);
        dueGuests(x, 0, 60, 1);
        x.noPath();
        x.path(1);
        x.path(2);
        dueGuests(x, 15, 60, 1);
        OddLetsIn away = Check.laid("g0,1,3,0;g0,1,0,0;");
        CHECK.due("a copy cannot be the first", away.count(0), 2);
    }

    private static void guestsAsGatesStand() {
        OddLetsIn x = Check.laid("g0,1,0,1;g0,2,2,0;n2;");
        x.path(0);
        dueGuests(x, 2, 60, 1);
        x.noPath();
        x.path(1);
        dueGuests(x, 0, 60, 1);
        x.pass(1, 1);
        dueGuests(x, 0, 60, 1);
        x.undo();
        x.noPath();
        x.path(1);
        x.path(0);
        dueGuests(x, 0, 60, 1);
        dueGuests(x, 1, 0, NONE);
        CHECK.due("guests are no persons", x.where(0) + x.where(1), 0);
        OddLetsIn later = Check.laid("g0,1,4,0;g1,2,1,1;g0,1,0,0;g1,2,3,0;");
        later.path(0);
        later.path(1);
        dueGuests(later, 12, 60, 1);
    }

    private static void dueOdds(OddLetsIn x, int g, int n, int q, int above, int below) {
        String call = "odds(" + g + ", " + n + ", " + q + ", ";
        CHECK.due(call + "0)", x.odds(g, n, q, 0), above);
        CHECK.due(call + "1)", x.odds(g, n, q, 1), below);
    }

    private static void odds() {
        OddLetsIn x = Check.laid("g0,1,0,0;g2,3,3,0;g3,4,1,0;g0,1,2,3;g4,2,4,2;");
        dueOdds(x, 0, 1, 5, 1, 2);
        dueOdds(x, 0, 3, 1, 729, 1000);
        dueOdds(x, 0, 8, 3, 5764801, 100000000);
        dueOdds(x, 0, 8, 5, 1, 256);
        dueOdds(x, 0, 8, 0, 1, 1);
        dueOdds(x, 0, 8, 10, 0, 1);
        dueOdds(x, 0, 2, 2, 16, 25);
        dueOdds(x, 1, 8, 10, 1, 1);
        dueOdds(x, 2, 8, 7, 0, 1);
        dueOdds(x, 3, 2, 9, 1, 100);
        dueOdds(x, 4, 4, 4, 81, 625);
        CHECK.due("nothing changes", x.gate(0, 3), 0);
        x.pass(0, 0);
        dueOdds(x, 0, 2, 2, 0, 1);
        dueOdds(x, 1, 2, 2, 0, 1);
    }

    private static void oddsBad() {
        OddLetsIn x = new OddLetsIn();
        int[] extremes = {-1, Integer.MIN_VALUE, Integer.MAX_VALUE};
        for (int i : extremes) {
            CHECK.due("odds: gate", x.odds(i, 1, 5, 0), BAD);
            CHECK.due("odds: n", x.odds(0, i, 5, 0), BAD);
            CHECK.due("odds: q", x.odds(0, 1, i, 0), BAD);
            CHECK.due("odds: part", x.odds(0, 1, 5, i), BAD);
        }
        CHECK.due("odds: gate 2", x.odds(2, 1, 5, 0), BAD);
        CHECK.due("odds: n 0", x.odds(0, 0, 5, 0), BAD);
        CHECK.due("odds: n 9", x.odds(0, 9, 5, 0), BAD);
        CHECK.due("odds: q 11", x.odds(0, 1, 11, 0), BAD);
        CHECK.due("odds: part 2", x.odds(0, 1, 5, 2), BAD);
    }

    private static void day() {
        OddLetsIn x = new OddLetsIn();
        CHECK.due("day(9999, 99, -1) is told", x.day(9999, 99, -1) == BAD ? 0 : 1, 1);
        OddLetsIn least = Check.laid("g0,4,0,0;n1;");
        CHECK.due("one person, one gate: passes", least.day(5, 99, -1), 1);
        CHECK.due("one person, one gate: where", least.day(5, 99, 0), 4);
        CHECK.due("day(-1, 1, -1)", x.day(-1, 1, -1), BAD);
        CHECK.due("day(10000, 1, -1)", x.day(10000, 1, -1), BAD);
        CHECK.due("day(0, 0, -1)", x.day(0, 0, -1), BAD);
        CHECK.due("day(0, 100, -1)", x.day(0, 100, -1), BAD);
        CHECK.due("day(0, 1, -2)", x.day(0, 1, -2), BAD);
        CHECK.due("day(0, 1, 2)", x.day(0, 1, 2), BAD);
        int[] extremes = {Integer.MIN_VALUE, Integer.MAX_VALUE};
        for (int i : extremes) {
            CHECK.due("day: z", x.day(i, 1, -1), BAD);
            CHECK.due("day: n", x.day(0, i, -1), BAD);
            CHECK.due("day: p", x.day(0, 1, i), BAD);
        }
        CHECK.due("nothing changes", x.where(1) + x.gate(0, 3) + x.count(6), 0);
    }

    /** All gates can be passed always, so each draw is seen: by BigInteger, as told. */
    private static void dayDraws() {
        int[] days = {0, 1, 7, 4242, 5999, 9998, 9999};
        for (int z : days) {
            OddLetsIn x = Check.laid("g2,3,0,0;g0,1,3,0;g1,2,3,0;g0,2,3,0;g0,1,3,0;n3;");
            int[] court = new int[3];
            int[][] ends = {{2, 3}, {0, 1}, {1, 2}, {0, 2}, {0, 1}};
            boolean shut = false;
            int passes = 0;
            for (int t = 0; t < 99; t++) {
                long sum = 7919L * z + 6151L * t + 1;
                java.math.BigInteger square = java.math.BigInteger.valueOf(sum).pow(2);
                int draw = square.mod(java.math.BigInteger.valueOf(65521)).intValue();
                int p = draw % 3;
                int g = draw / 8 % 5;
                boolean beside = court[p] == ends[g][0] || court[p] == ends[g][1];
                if (beside && !shut) {
                    court[p] = ends[g][0] + ends[g][1] - court[p];
                    passes++;
                    shut = g == 0;
                }
                CHECK.due("day(" + z + ", " + (t + 1) + ", -1)", x.day(z, t + 1, -1), passes);
            }
            for (int p = 0; p < 3; p++) {
                CHECK.due("day(" + z + ", 99, " + p + ")", x.day(z, 99, p), court[p]);
            }
        }
    }

    private static void keepAndBack() {
        OddLetsIn x = new OddLetsIn();
        CHECK.due("back() at first", x.back(), NO);
        x.linger(0, 0);
        CHECK.due("keep()", x.keep(), 1);
        CHECK.due("keep() lets undo be", x.undo(), 0);
        x.pass(1, 0);
        x.seen(1, true);
        x.path(1);
        CHECK.due("keep() again", x.keep(), 2);
        CHECK.due("keep() a third", x.keep(), FULL);
        CHECK.due("count(7)", x.count(7), 2);
        x.pass(1, 1);
        Check.write(x, "n1;");
        CHECK.due("back()", x.back(), 1);
        CHECK.due("where(1)", x.where(1), 1);
        CHECK.due("gone by 1", x.gate(1, 3), 1);
        CHECK.due("fines", x.count(2), 0);
        CHECK.due("nothing can be undone", x.undo(), NO);
        CHECK.due("seen stays", x.count(4), 1);
        CHECK.due("the path stays", x.count(5), 1);
        CHECK.due("the text stays", x.count(8), 3);
        CHECK.due("back() again", x.back(), 0);
        CHECK.due("where(1) at first", x.where(1), 0);
        CHECK.due("gone by 0", x.gate(0, 3), 1);
        CHECK.due("fines then", x.count(2), 1);
        CHECK.due("back() of nothing", x.back(), NO);
        CHECK.due("NO changes nothing", x.count(2), 1);
        CHECK.due("keep() once more", x.keep(), 1);
    }

    private static void count() {
        OddLetsIn x = Check.laid("g0,1,0,0;g0,1,1,0;g0,1,2,0;n3;");
        x.linger(0, 0);
        x.linger(0, 2);
        x.seen(0, true);
        x.seen(1, true);
        x.seen(2, true);
        x.path(0);
        x.path(1);
        x.path(2);
        x.path(2);
        x.keep();
        int[] counts = {3, 3, 2, 0, 3, 4, 2, 1, 30};
        for (int what = 0; what < counts.length; what++) {
            CHECK.due("count(" + what + ")", x.count(what), counts[what]);
        }
        int[] whats = {-1, 9, Integer.MIN_VALUE, Integer.MAX_VALUE};
        for (int what : whats) {
            CHECK.due("count(" + what + ")", x.count(what), BAD);
        }
        OddLetsIn open = Check.laid("g1,0,4,0;g1,0,3,0;g0,1,1,0;n1;");
        CHECK.due("open from A", open.count(3), 2);
    }
}
