/**
 * The edges that part 3 of the document and promises 12 to 17 name: a test for each sentence, which
 * stands above it.
 */
public final class WayEdgesTest {
    private static final Check CHECK = new Check("WayEdgesTest");
    private static final int BAD = OddLetsIn.BAD;
    private static final int FULL = OddLetsIn.FULL;
    private static final int NONE = OddLetsIn.NONE;
    private static final int[] FAR = {-1, -2, 5, 6, 100, Integer.MIN_VALUE, Integer.MAX_VALUE};

    public static void main(String[] args) {
        wayAsGatesStandNow();
        wayOfAllOrAny();
        wayIfNoneHasToBe();
        wayNone();
        wayFirstIsTheLowest();
        wayFirstOfTheShortestAlone();
        wayOfTheLastPersonAndGate();
        wayBad();
        wayBadAheadOfNone();
        wayChangesNothing();
        smallestWhoeverIsWhere();
        smallestNone();
        smallestBad();
        mendOneAloneInCourtZero();
        mendJustTheGatesOfTheSet();
        mendNoGateAndAll();
        mendIfNoneHasToBe();
        mendNone();
        mendFirstIsTheLowest();
        mendBad();
        seenTenAtMost();
        seenBad();
        seenBadAheadOfFull();
        forgetNothingAndTen();
        wrongOfNothingSeen();
        wrongOneAlone();
        wrongThanIsToldNow();
        wrongOfWhatCannotBe();
        CHECK.end();
    }

    private static void dueWay(OddLetsIn x, int c, boolean all, int fewest, int first) {
        CHECK.due("way(" + c + ", " + all + ", 0)", x.way(c, all, 0), fewest);
        CHECK.due("way(" + c + ", " + all + ", 1)", x.way(c, all, 1), first);
    }

    private static void dueMend(OddLetsIn x, int set, int fewest, int first) {
        CHECK.due("mend(" + set + ", 0)", x.mend(set, 0), fewest);
        CHECK.due("mend(" + set + ", 1)", x.mend(set, 1), first);
    }

    /** "as GATES stand now" */
    private static void wayAsGatesStandNow() {
        OddLetsIn x = Check.laid("g0,1,0,0;g1,2,2,0;n2;");
        dueWay(x, 2, false, 2, 0);
        x.linger(0, 0);
        dueWay(x, 2, false, NONE, NONE);
        x.undo();
        dueWay(x, 2, false, 2, 0);
        x.pass(1, 0);
        dueWay(x, 2, false, 1, 11);
        x.linger(1, 1);
        dueWay(x, 2, false, NONE, NONE);
    }

    /** "of all PERSONS (all are there then) or of one (any of them is)" */
    private static void wayOfAllOrAny() {
        OddLetsIn x = Check.laid("g3,4,0,0;g0,1,3,0;g1,2,3,0;n3;");
        dueWay(x, 1, false, 1, 1);
        dueWay(x, 1, true, 3, 1);
        dueWay(x, 2, true, 6, 1);
        x.pass(1, 1);
        dueWay(x, 1, false, 0, NONE);
        dueWay(x, 1, true, 2, 1);
        x.pass(0, 1);
        dueWay(x, 1, true, 1, 21);
        dueWay(x, 0, true, 2, 1);
        x.pass(2, 1);
        dueWay(x, 1, true, 0, NONE);
        OddLetsIn one = Check.laid("g0,1,0,0;n1;");
        dueWay(one, 1, true, 1, 0);
        dueWay(one, 1, false, 1, 0);
    }

    /** Promise 12: "the first (1; NONE, if none has to be)": the fewest are 0 then. */
    private static void wayIfNoneHasToBe() {
        for (int many = 1; many <= 3; many++) {
            OddLetsIn x = Check.laid("g0,1,0,0;n" + many + ";");
            dueWay(x, 0, true, 0, NONE);
            dueWay(x, 0, false, 0, NONE);
            x.pass(many - 1, 0);
            dueWay(x, 1, false, 0, NONE);
            dueWay(x, 0, false, many == 1 ? NONE : 0, NONE);
            dueWay(x, 0, true, NONE, NONE);
        }
    }

    /** Promise 12: "NONE" */
    private static void wayNone() {
        OddLetsIn shut = Check.laid("g0,1,1,0;g1,2,0,0;n3;");
        for (int c = 1; c <= 4; c++) {
            dueWay(shut, c, true, NONE, NONE);
            dueWay(shut, c, false, NONE, NONE);
        }
        OddLetsIn against = Check.laid("g1,0,4,0;n1;");
        dueWay(against, 1, false, NONE, NONE);
        OddLetsIn onlyOne = Check.laid("g0,1,0,0;n2;");
        dueWay(onlyOne, 1, false, 1, 0);
        dueWay(onlyOne, 1, true, NONE, NONE);
        OddLetsIn parted = Check.laid("g0,1,0,0;g0,2,0,0;n2;");
        parted.pass(0, 0);
        parted.pass(1, 1);
        for (int c = 0; c <= 4; c++) {
            dueWay(parted, c, true, NONE, NONE);
        }
    }

    /** "(of all ways so short the lowest)": by the person first, by the gate then. */
    private static void wayFirstIsTheLowest() {
        OddLetsIn x = Check.laid("g2,3,0,0;g0,1,0,0;g0,1,0,0;g0,1,0,0;g0,1,0,0;n3;");
        dueWay(x, 1, false, 1, 1);
        dueWay(x, 1, true, 3, 1);
        x.pass(0, 1);
        dueWay(x, 1, true, 2, 12);
        x.pass(2, 2);
        dueWay(x, 1, true, 1, 13);
        OddLetsIn apart = Check.laid("g1,2,0,0;g0,1,0,0;g3,4,0,0;g3,4,0,0;g0,2,0,0;n2;");
        apart.pass(1, 1);
        dueWay(apart, 2, false, 1, 4);
        dueWay(apart, 2, true, 2, 4);
        OddLetsIn late = Check.laid("g0,2,0,0;g0,1,0,0;g1,3,0,0;g2,3,0,0;n1;");
        dueWay(late, 3, false, 2, 0);
        OddLetsIn swapped = Check.laid("g0,1,0,0;g0,2,0,0;g2,3,0,0;g1,3,0,0;n1;");
        dueWay(swapped, 3, false, 2, 0);
    }

    /** "of all ways so short": a lower first of a longer way does not count. */
    private static void wayFirstOfTheShortestAlone() {
        OddLetsIn x = Check.laid("g0,1,0,0;g1,2,0,0;g2,3,0,0;g0,4,0,0;g4,3,0,0;n2;");
        dueWay(x, 3, false, 2, 3);
        dueWay(x, 2, false, 2, 0);
        OddLetsIn second = Check.laid("g0,1,0,0;g1,2,0,0;g0,3,0,0;n3;");
        second.pass(1, 0);
        dueWay(second, 2, false, 1, 11);
        dueWay(second, 3, false, 1, 2);
    }

    /** "10 times the PERSON and the GATE": 24 at most. */
    private static void wayOfTheLastPersonAndGate() {
        OddLetsIn x = Check.laid("g3,2,0,0;g0,3,3,0;g2,1,0,0;g1,2,1,0;g0,4,0,0;n3;");
        x.pass(0, 1);
        x.pass(1, 1);
        dueWay(x, 4, false, 1, 24);
        dueWay(x, 3, true, 1, 21);
        dueWay(x, 0, true, 2, 1);
    }

    /** Promise 12: "BAD" */
    private static void wayBad() {
        OddLetsIn x = Check.laid("g0,1,0,0;g1,4,0,0;");
        for (int c : FAR) {
            CHECK.due("way to " + c, x.way(c, true, 0), BAD);
            CHECK.due("way to " + c, x.way(c, false, 1), BAD);
        }
        for (int what : FAR) {
            CHECK.due("way, what " + what, x.way(1, true, what), BAD);
            CHECK.due("way, what " + what, x.way(1, false, what), BAD);
        }
        CHECK.due("way, what 2", x.way(1, false, 2), BAD);
        dueWay(x, 0, true, 0, NONE);
        dueWay(x, 4, false, 2, 0);
    }

    /** "Of several the first in this order": BAD, where it would be NONE, too. */
    private static void wayBadAheadOfNone() {
        OddLetsIn x = Check.laid("g0,1,1,0;n1;");
        CHECK.due("way, what 2, where there is none", x.way(4, true, 2), BAD);
        CHECK.due("way, what -1, where none has to be", x.way(0, true, -1), BAD);
        CHECK.due("mend, what 2, where there is none", x.mend(1, 2), BAD);
        CHECK.due("mend, what -1, where none has to be", x.mend(0, -1), BAD);
        CHECK.due("way", x.way(4, true, 1), NONE);
        CHECK.due("mend", x.mend(1, 1), NONE);
    }

    private static void wayChangesNothing() {
        OddLetsIn x = Check.laid("g0,1,0,0;g1,2,2,3;g2,0,4,0;n3;");
        x.pass(1, 0);
        for (int c = 0; c < 5; c++) {
            x.way(c, true, 0);
            x.way(c, false, 1);
            x.smallest(c);
            x.mend(c, 0);
        }
        CHECK.due("where", x.where(0) + 10 * x.where(1) + 100 * x.where(2), 10);
        CHECK.due("gone", x.gate(0, 3) + 10 * x.gate(1, 3) + 100 * x.gate(2, 3), 31);
        CHECK.due("persons", x.count(1), 3);
        CHECK.due("undo()", x.undo(), 0);
    }

    /** "of m PERSONS, all in COURT 0, one could come there, whoever is where now" */
    private static void smallestWhoeverIsWhere() {
        OddLetsIn x = Check.laid("g0,1,0,0;g1,2,0,0;g3,0,4,0;n2;");
        CHECK.due("smallest(0)", x.smallest(0), 1);
        CHECK.due("smallest(2)", x.smallest(2), 1);
        x.pass(0, 0);
        CHECK.due("0 is in court 1 now", x.smallest(1), NONE);
        CHECK.due("0 is beside court 2 now", x.smallest(2), NONE);
        x.pass(0, 1);
        CHECK.due("0 is in court 2 now", x.smallest(2), NONE);
        OddLetsIn away = Check.laid("g0,1,4,0;g0,2,0,0;n1;");
        away.pass(0, 0);
        CHECK.due("nobody is in court 0", away.smallest(0), 1);
        CHECK.due("nobody is in court 0, away to 2", away.smallest(2), 1);
    }

    /** Promise 13: "NONE" */
    private static void smallestNone() {
        OddLetsIn x = Check.laid("g1,0,4,0;g0,2,1,0;g0,3,2,1;n3;");
        CHECK.due("smallest(0)", x.smallest(0), 1);
        for (int c = 1; c <= 4; c++) {
            CHECK.due("smallest(" + c + ")", x.smallest(c), NONE);
        }
    }

    /** Promise 13: "BAD" */
    private static void smallestBad() {
        OddLetsIn x = new OddLetsIn();
        for (int c : FAR) {
            CHECK.due("smallest(" + c + ")", x.smallest(c), BAD);
        }
        CHECK.due("smallest(4)", x.smallest(4), NONE);
    }

    /** "one alone, in COURT 0, walks" */
    private static void mendOneAloneInCourtZero() {
        OddLetsIn x = Check.laid("g1,2,0,0;g0,1,3,0;g0,3,0,0;n3;");
        x.pass(0, 1);
        x.pass(1, 1);
        x.pass(2, 1);
        dueMend(x, 4, 2, 1);
        dueMend(x, 3, 1, 2);
        OddLetsIn apart = Check.laid("g0,1,0,0;g0,2,0,0;n3;");
        dueMend(apart, 1, 1, 1);
        dueMend(apart, 2, 1, 0);
        dueMend(apart, 0, NONE, NONE);
    }

    /** "just the GATES of a set (bits) are OPEN from A": these, no more; how they are from B is free. */
    private static void mendJustTheGatesOfTheSet() {
        OddLetsIn x = Check.laid("g0,1,0,0;g1,0,0,0;g0,1,0,1;g2,3,4,0;n1;");
        dueMend(x, 11, 0, NONE);
        dueMend(x, 10, 1, 0);
        dueMend(x, 9, 1, 1);
        dueMend(x, 8, 2, 0);
        dueMend(x, 15, NONE, NONE);
        dueMend(x, 3, NONE, NONE);
        dueMend(x, 0, NONE, NONE);
    }

    /** "(.. sets of GATES of these, 0, too)" */
    private static void mendNoGateAndAll() {
        StringBuilder text = new StringBuilder();
        for (int gates = 1; gates <= 5; gates++) {
            text.append(gates == 1 ? "g0,1,0,0;" : "g0,1,3,0;");
            OddLetsIn x = Check.laid(text.toString());
            int all = (1 << gates) - 1;
            dueMend(x, all, 0, NONE);
            dueMend(x, 0, 1, 0);
            CHECK.due("a set with a gate more", x.mend(all + 1, 0), BAD);
            CHECK.due("a set with a gate more", x.mend(all + 1, 1), BAD);
            CHECK.due("a set below 0", x.mend(-1, 0), BAD);
        }
    }

    /** "none (.. the first, if none has to be)" */
    private static void mendIfNoneHasToBe() {
        OddLetsIn x = new OddLetsIn();
        dueMend(x, 3, 0, NONE);
        x.pass(0, 0);
        dueMend(x, 2, 0, NONE);
        x.pass(0, 1);
        dueMend(x, 0, 0, NONE);
    }

    /** "none (there is no way ..)" */
    private static void mendNone() {
        OddLetsIn x = new OddLetsIn();
        dueMend(x, 1, NONE, NONE);
        x.pass(0, 0);
        dueMend(x, 3, NONE, NONE);
        dueMend(x, 0, NONE, NONE);
        dueMend(x, 1, NONE, NONE);
    }

    /** "the first GATE (the lowest of all ways so short)" */
    private static void mendFirstIsTheLowest() {
        OddLetsIn x = Check.laid("g0,1,0,0;g0,1,0,0;g0,1,0,0;g0,1,0,0;g0,1,0,0;n3;");
        for (int set = 0; set < 32; set++) {
            int shut = 31 & ~set;
            int lowest = shut == 0 ? NONE : Integer.numberOfTrailingZeros(shut);
            dueMend(x, set, Integer.bitCount(shut), lowest);
        }
        OddLetsIn round = Check.laid("g1,2,0,0;g2,0,0,0;g0,1,0,0;n1;");
        dueMend(round, 0, 3, 1);
        dueMend(round, 1, NONE, NONE);
        dueMend(round, 2, 2, 2);
    }

    /** Promise 14: "BAD" */
    private static void mendBad() {
        OddLetsIn x = new OddLetsIn();
        int[] sets = {-1, -4, 4, 5, 8, 32, Integer.MIN_VALUE, Integer.MAX_VALUE};
        for (int set : sets) {
            CHECK.due("mend(" + set + ", 0)", x.mend(set, 0), BAD);
            CHECK.due("mend(" + set + ", 1)", x.mend(set, 1), BAD);
        }
        for (int what : FAR) {
            CHECK.due("mend(3, " + what + ")", x.mend(3, what), BAD);
        }
        CHECK.due("mend(3, 2)", x.mend(3, 2), BAD);
    }

    /** "SEEN (10 at most)"; promise 15: "FULL" */
    private static void seenTenAtMost() {
        OddLetsIn x = new OddLetsIn();
        for (int i = 1; i <= 10; i++) {
            CHECK.due("seen", x.seen(i % 2, true), i);
        }
        CHECK.due("wrong()", x.wrong(), 32);
        CHECK.due("an eleventh", x.seen(0, false), FULL);
        CHECK.due("the same once more", x.seen(0, true), FULL);
        CHECK.due("SEEN", x.count(4), 10);
        CHECK.due("FULL changes nothing", x.wrong(), 32);
        OddLetsIn last = new OddLetsIn();
        for (int i = 1; i <= 9; i++) {
            last.seen(0, true);
        }
        CHECK.due("wrong() by nine", last.wrong(), 32 + 2);
        CHECK.due("the tenth", last.seen(1, false), 10);
        CHECK.due("wrong() by the tenth, too", last.wrong(), 2);
    }

    /** Promise 15: "BAD" */
    private static void seenBad() {
        OddLetsIn x = new OddLetsIn();
        for (int g : FAR) {
            CHECK.due("seen(" + g + ", true)", x.seen(g, true), BAD);
            CHECK.due("seen(" + g + ", false)", x.seen(g, false), BAD);
        }
        CHECK.due("seen(2, true)", x.seen(2, true), BAD);
        CHECK.due("SEEN", x.count(4), 0);
        CHECK.due("seen(1, true)", x.seen(1, true), 1);
        OddLetsIn five = Check.laid("g0,1,0,0;g0,1,0,0;g0,1,0,0;g0,1,0,0;g0,1,0,0;");
        CHECK.due("seen(4, false)", five.seen(4, false), 1);
        CHECK.due("wrong()", five.wrong(), 16);
        CHECK.due("seen(5, false)", five.seen(5, false), BAD);
    }

    /** "Of several the first in this order": BAD, where it would be FULL, too. */
    private static void seenBadAheadOfFull() {
        OddLetsIn x = new OddLetsIn();
        for (int i = 1; i <= 10; i++) {
            x.seen(0, true);
        }
        CHECK.due("FULL", x.seen(1, true), FULL);
        for (int g : FAR) {
            CHECK.due("seen(" + g + ", true)", x.seen(g, true), BAD);
        }
        CHECK.due("seen(2, true)", x.seen(2, true), BAD);
    }

    /** Promise 16: "Nothing is SEEN: how many were." */
    private static void forgetNothingAndTen() {
        OddLetsIn x = new OddLetsIn();
        CHECK.due("forget() of nothing", x.forget(), 0);
        for (int i = 1; i <= 10; i++) {
            x.seen(0, false);
        }
        CHECK.due("forget() of ten", x.forget(), 10);
        CHECK.due("SEEN", x.count(4), 0);
        CHECK.due("forget() again", x.forget(), 0);
        CHECK.due("wrong() of nothing", x.wrong(), 32 + 3);
        CHECK.due("seen behind it", x.seen(1, false), 1);
        CHECK.due("wrong()", x.wrong(), 2);
    }

    /** Nothing SEEN: all is as SEEN, and would be by each gate. */
    private static void wrongOfNothingSeen() {
        StringBuilder text = new StringBuilder();
        for (int gates = 1; gates <= 5; gates++) {
            text.append("g0,1,").append(gates == 3 ? 4 : gates % 3).append(",").append(gates)
                    .append(";");
            OddLetsIn x = Check.laid(text.toString());
            CHECK.due("wrong() of " + gates, x.wrong(), 32 + (1 << gates) - 1);
        }
    }

    /** "if one more had gone through that one alone than is told now" */
    private static void wrongOneAlone() {
        OddLetsIn x = Check.laid("g0,1,0,0;g0,1,3,0;g0,1,0,0;n1;");
        x.seen(0, false);
        CHECK.due("the even one is shut", x.wrong(), 1);
        x.seen(1, false);
        CHECK.due("its copy, too", x.wrong(), 1);
        x.seen(2, false);
        CHECK.due("two of them at once", x.wrong(), 0);
        x.forget();
        x.seen(1, false);
        CHECK.due("the copy alone", x.wrong(), 1);
        x.forget();
        x.seen(1, true);
        CHECK.due("one more through a copy opens and shuts nothing", x.wrong(), 32 + 4 + 2);
        OddLetsIn threes = Check.laid("g0,1,2,1;g0,1,2,2;n1;");
        threes.seen(0, true);
        CHECK.due("one more, not two", threes.wrong(), 0);
        threes.forget();
        threes.seen(1, true);
        CHECK.due("one more", threes.wrong(), 2);
    }

    /** "than is told now": the count as it stands, and SEEN as it was told, passes or none. */
    private static void wrongThanIsToldNow() {
        OddLetsIn x = Check.laid("g0,1,0,0;g0,1,2,2;n2;");
        x.seen(0, true);
        CHECK.due("wrong()", x.wrong(), 32 + 2);
        x.pass(0, 0);
        CHECK.due("wrong() behind a pass", x.wrong(), 1);
        x.undo();
        CHECK.due("wrong() behind undo()", x.wrong(), 32 + 2);
        CHECK.due("wrong() changes nothing", x.gate(0, 3) + 10 * x.gate(1, 3), 20);
    }

    /** A gate SEEN open and shut at once: no gate explains it. */
    private static void wrongOfWhatCannotBe() {
        OddLetsIn x = new OddLetsIn();
        x.seen(0, true);
        x.seen(0, false);
        CHECK.due("wrong()", x.wrong(), 0);
        OddLetsIn oneWay = Check.laid("g1,0,4,0;n1;");
        oneWay.seen(0, true);
        CHECK.due("open from A, shut from B", oneWay.wrong(), 32);
    }
}
