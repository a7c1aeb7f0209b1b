/** Promises 12 to 14. */
public final class WaysTest {
    private static final Check CHECK = new Check("WaysTest");
    private static final int BAD = OddLetsIn.BAD;
    private static final int NONE = OddLetsIn.NONE;

    public static void main(String[] args) {
        wayOfOne();
        wayOfAll();
        lowestFirst();
        othersHelp();
        wayFromHere();
        smallest();
        mend();
        mendAlone();
        longWay();
        otherGatesLaid();
        badOnes();
        CHECK.end();
    }

    private static void dueWay(OddLetsIn x, int c, boolean all, int fewest, int first) {
        CHECK.due("way(" + c + ", " + all + ", 0)", x.way(c, all, 0), fewest);
        CHECK.due("way(" + c + ", " + all + ", 1)", x.way(c, all, 1), first);
    }

    private static void wayOfOne() {
        OddLetsIn x = Check.laid("g0,1,0,0;g1,2,0,0;g2,3,0,0;g0,3,1,0;n2;");
        dueWay(x, 0, false, 0, NONE);
        dueWay(x, 1, false, 1, 0);
        dueWay(x, 2, false, 2, 0);
        dueWay(x, 3, false, 3, 0);
        dueWay(x, 4, false, NONE, NONE);
        CHECK.due("nothing changes", x.count(6) * 10 + x.where(0), 0);
    }

    private static void wayOfAll() {
        OddLetsIn x = Check.laid("g1,2,0,0;g0,1,3,0;n3;");
        dueWay(x, 0, true, 0, NONE);
        dueWay(x, 1, true, 3, 1);
        dueWay(x, 2, true, NONE, NONE);
        dueWay(x, 2, false, 2, 1);
        OddLetsIn two = Check.laid("g0,1,0,0;g0,1,2,3;n2;");
        dueWay(two, 1, true, 2, 0);
        dueWay(two, 1, false, 1, 0);
        OddLetsIn three = Check.laid("g0,1,0,0;g0,1,2,3;n3;");
        dueWay(three, 1, true, NONE, NONE);
    }

    private static void lowestFirst() {
        OddLetsIn x = Check.laid("g0,2,1,0;g0,1,4,0;g0,1,0,0;n2;");
        dueWay(x, 1, false, 1, 1);
        x.pass(0, 1);
        dueWay(x, 1, false, 0, NONE);
        dueWay(x, 1, true, 1, 12);
        OddLetsIn parted = Check.laid("g0,1,0,0;g2,3,0,0;g1,2,0,0;g0,2,0,0;n1;");
        dueWay(parted, 3, false, 2, 3);
        OddLetsIn equal = Check.laid("g2,3,0,0;g0,2,0,0;g0,1,0,0;g1,3,0,0;n1;");
        dueWay(equal, 3, false, 2, 1);
    }

    /** A copy in front of the way is shut by who goes through the copied gate too early. */
    private static void othersHelp() {
        OddLetsIn x = Check.laid("g0,1,4,0;g0,2,3,0;g2,3,0,0;g1,3,0,0;n2;");
        dueWay(x, 3, true, 4, 1);
        OddLetsIn order = Check.laid("g0,1,0,0;g1,2,0,0;g0,1,0,0;g0,2,4,0;n2;");
        dueWay(order, 2, true, 3, 0);
        OddLetsIn late = Check.laid("g0,1,0,0;g1,2,3,0;g0,1,0,0;n2;");
        dueWay(late, 2, true, NONE, NONE);
        dueWay(late, 2, false, 2, 2);
    }

    private static void wayFromHere() {
        OddLetsIn x = Check.laid("g0,1,0,0;g1,2,0,0;g2,1,2,0;n2;");
        dueWay(x, 2, false, 2, 0);
        x.pass(1, 0);
        dueWay(x, 2, false, 1, 11);
        dueWay(x, 2, true, NONE, NONE);
        dueWay(x, 0, false, 0, NONE);
        dueWay(x, 0, true, NONE, NONE);
        x.linger(1, 1);
        dueWay(x, 2, false, 1, 12);
        x.undo();
        x.undo();
        dueWay(x, 2, false, 2, 0);
    }

    private static void smallest() {
        OddLetsIn x = Check.laid("g0,1,0,0;g1,2,0,0;g3,4,0,0;n1;");
        CHECK.due("smallest(0)", x.smallest(0), 1);
        CHECK.due("smallest(2)", x.smallest(2), 1);
        CHECK.due("smallest(3)", x.smallest(3), NONE);
        x.pass(0, 0);
        CHECK.due("smallest(1), whoever is there", x.smallest(1), NONE);
        CHECK.due("smallest(0), whoever is where", x.smallest(0), 1);
        CHECK.due("nothing changes: persons", x.count(1), 1);
        CHECK.due("nothing changes: where", x.where(0), 1);
    }

    private static void mend() {
        OddLetsIn x = Check.laid("g0,1,0,0;g1,0,2,0;g1,2,3,0;g2,0,4,1;n3;");
        CHECK.due("mend as it is", x.mend(7, 0), 0);
        CHECK.due("mend as it is, first", x.mend(7, 1), NONE);
        CHECK.due("mend(6, 0)", x.mend(6, 0), 1);
        CHECK.due("mend(6, 1)", x.mend(6, 1), 0);
        CHECK.due("mend(1, 0)", x.mend(1, 0), 1);
        CHECK.due("mend(1, 1)", x.mend(1, 1), 1);
        CHECK.due("mend(0, 0)", x.mend(0, 0), 2);
        CHECK.due("mend(0, 1)", x.mend(0, 1), 0);
        CHECK.due("mend(15, 0)", x.mend(15, 0), NONE);
        CHECK.due("mend(15, 1)", x.mend(15, 1), NONE);
        x.pass(2, 0);
        CHECK.due("the gardener is in court 0", x.mend(0, 0), 1);
        CHECK.due("the gardener is alone", x.mend(0, 1), 1);
        CHECK.due("as it is now", x.mend(6, 0), 0);
        CHECK.due("nothing changes", x.where(2) * 10 + x.gate(0, 3), 11);
    }

    private static void mendAlone() {
        OddLetsIn x = Check.laid("g0,1,0,0;g0,2,0,0;n3;");
        CHECK.due("one alone cannot shut both", x.mend(0, 0), NONE);
        CHECK.due("one alone cannot shut both, first", x.mend(0, 1), NONE);
        CHECK.due("one alone can shut the second", x.mend(1, 1), 1);
        OddLetsIn one = Check.laid("g0,1,0,0;g1,2,3,0;g0,1,2,0;n1;");
        CHECK.due("nobody else walks", one.way(2, false, 0), 2);
        CHECK.due("nobody else walks, first", one.way(2, false, 1), 2);
        CHECK.due("nobody else is there", one.way(0, true, 0), 0);
    }

    private static void longWay() {
        OddLetsIn x = Check.laid("g0,4,0,0;g0,1,3,0;g1,2,3,0;g2,3,3,0;g3,4,3,0;n3;");
        dueWay(x, 3, true, 9, 1);
        dueWay(x, 4, true, 9, 1);
        dueWay(x, 4, false, 1, 0);
        OddLetsIn corridor = Check.laid("g0,1,0,0;g0,1,3,0;g1,2,3,0;g2,3,3,0;g3,4,3,0;n3;");
        dueWay(corridor, 4, true, 12, 1);
        CHECK.due("mend by the copies' end", corridor.mend(0, 0), 1);
    }

    private static void otherGatesLaid() {
        OddLetsIn x = Check.laid("g0,1,0,0;g1,2,3,0;g2,3,3,0;");
        dueWay(x, 3, false, NONE, NONE);
        x.wipe();
        Check.write(x, "g0,1,0,0;g1,2,0,0;g2,3,0,0;");
        x.lay();
        dueWay(x, 3, false, 3, 0);
        CHECK.due("mend", x.mend(4, 0), 2);
    }

    private static void badOnes() {
        OddLetsIn x = new OddLetsIn();
        int[] courts = {-1, 5, Integer.MIN_VALUE, Integer.MAX_VALUE};
        for (int c : courts) {
            CHECK.due("way: court", x.way(c, true, 0), BAD);
            CHECK.due("way: court", x.way(c, false, 1), BAD);
            CHECK.due("smallest: court", x.smallest(c), BAD);
        }
        int[] whats = {-1, 2, Integer.MIN_VALUE, Integer.MAX_VALUE};
        for (int what : whats) {
            CHECK.due("way: what, where it would be NONE", x.way(4, true, what), BAD);
            CHECK.due("mend: what, where it would be NONE", x.mend(1, what), BAD);
        }
        int[] sets = {-1, 4, 32, Integer.MIN_VALUE, Integer.MAX_VALUE};
        for (int set : sets) {
            CHECK.due("mend: set", x.mend(set, 0), BAD);
        }
        OddLetsIn five = Check.laid("g0,1,0,0;g0,1,0,0;g0,1,0,0;g0,1,0,0;g0,1,0,0;");
        CHECK.due("mend: the set of all five", five.mend(31, 0), 0);
        CHECK.due("mend: one more", five.mend(32, 0), BAD);
    }
}
