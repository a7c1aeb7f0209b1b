/**
 * The edges that part 2 of the document and promises 8 to 11 name: a test for each sentence, which
 * stands above it.
 */
public final class PassEdgesTest {
    private static final Check CHECK = new Check("PassEdgesTest");
    private static final int BAD = OddLetsIn.BAD;
    private static final int NO = OddLetsIn.NO;
    /** A copy that is open for good, if nobody goes through the gate that it copies. */
    private static final String TO_AND_FRO = "g2,3,0,0;g0,1,3,0;g0,4,0,0;g1,0,4,0;";
    private static final int[] FAR = {-1, -2, 5, 100, Integer.MIN_VALUE, Integer.MAX_VALUE};

    public static void main(String[] args) {
        evenOfNone();
        oddOfNone();
        threesOfNone();
        oneWayFromAlone();
        copyOfItsOwnSides();
        copyOfCopies();
        countsGoOnBehindNinetyNine();
        passFromEitherSide();
        lingerStays();
        canBad();
        canIsOneOrZero();
        passBad();
        passNo();
        lingerBad();
        lingerNo();
        badAheadOfNo();
        undoNo();
        undoTheLastEight();
        undoTheLatest();
        undoLeavesTheRest();
        undoOfWhatChangesNoGate();
        refusedIsNoneToUndo();
        CHECK.end();
    }

    private static void dueOpen(OddLetsIn x, int g, int fromA, int fromB) {
        CHECK.due("gate " + g + " open from A", x.gate(g, 4), fromA);
        CHECK.due("gate " + g + " open from B", x.gate(g, 5), fromB);
    }

    /** "EVEN, if the number of who have gone is even": 0 is. */
    private static void evenOfNone() {
        OddLetsIn x = Check.laid("g0,1,0,0;g0,1,0,1;g0,1,0,98;g0,1,0,99;");
        dueOpen(x, 0, 1, 1);
        dueOpen(x, 1, 0, 0);
        dueOpen(x, 2, 1, 1);
        dueOpen(x, 3, 0, 0);
    }

    /** "ODD, if it is odd": 0 is not. */
    private static void oddOfNone() {
        OddLetsIn x = Check.laid("g0,1,1,0;g0,1,1,1;g0,1,1,98;g0,1,1,99;");
        dueOpen(x, 0, 0, 0);
        dueOpen(x, 1, 1, 1);
        dueOpen(x, 2, 0, 0);
        dueOpen(x, 3, 1, 1);
    }

    /** "THREES, if 3 parts it": 3 parts 0. */
    private static void threesOfNone() {
        OddLetsIn x = Check.laid("g0,1,2,0;g0,1,2,1;g0,1,2,2;g0,1,2,3;g0,1,2,99;");
        dueOpen(x, 0, 1, 1);
        dueOpen(x, 1, 0, 0);
        dueOpen(x, 2, 0, 0);
        dueOpen(x, 3, 1, 1);
        dueOpen(x, 4, 1, 1);
    }

    /** "ONE WAY as EVEN, from A alone" */
    private static void oneWayFromAlone() {
        OddLetsIn x = Check.laid("g0,1,4,0;g0,1,4,1;g1,0,4,0;g1,0,4,1;n1;");
        dueOpen(x, 0, 1, 0);
        dueOpen(x, 1, 0, 0);
        dueOpen(x, 2, 1, 0);
        dueOpen(x, 3, 0, 0);
        CHECK.due("from A", x.can(0, 0), 1);
        CHECK.due("from B", x.can(0, 2), 0);
        CHECK.due("from B, odd", x.can(0, 3), 0);
    }

    /** "a COPY, if the GATE of the number one lower is OPEN from that side of its own (A as A ..)" */
    private static void copyOfItsOwnSides() {
        OddLetsIn x = Check.laid("g3,4,4,0;g0,1,3,1;g1,2,0,0;g1,0,3,0;n1;");
        dueOpen(x, 1, 1, 0);
        CHECK.due("from A as from A", x.can(0, 1), 1);
        CHECK.due("the gate copied is elsewhere", x.can(0, 0), 0);
        x.pass(0, 1);
        dueOpen(x, 1, 1, 0);
        CHECK.due("from B as from B", x.can(0, 1), 0);
        CHECK.due("the copy of 2 is open", x.can(0, 3), 1);
        x.pass(0, 2);
        dueOpen(x, 3, 0, 0);
    }

    /** A COPY of a COPY: as the one below it, down to the first that is none. */
    private static void copyOfCopies() {
        for (int kind = 0; kind <= 4; kind++) {
            for (int gone = 0; gone < 6; gone++) {
                OddLetsIn x = Check.laid("g0,1," + kind + "," + gone
                        + ";g1,2,3,1;g3,2,3,2;g2,4,3,3;g0,4,3,4;");
                for (int g = 1; g < 5 && kind != 3; g++) {
                    dueOpen(x, g, x.gate(0, 4), x.gate(0, 5));
                }
            }
        }
        OddLetsIn parted = Check.laid("g0,1,0,1;g0,1,3,0;g0,1,2,0;g0,1,3,0;");
        dueOpen(parted, 1, 0, 0);
        dueOpen(parted, 3, 1, 1);
    }

    /** "through which I (0 to 99) have gone" is of the text alone: more can go. */
    private static void countsGoOnBehindNinetyNine() {
        OddLetsIn x = Check.laid("g2,3,0,0;g0,1,3,99;n1;");
        for (int gone = 100; gone <= 300; gone++) {
            x.linger(0, 1);
            CHECK.due("gone", x.gate(1, 3), gone);
        }
        CHECK.due("fines", x.count(2), 201);
        OddLetsIn threes = Check.laid("g0,1,2,99;n2;");
        CHECK.due("pass with 99", threes.pass(0, 0), 1);
        CHECK.due("gone", threes.gate(0, 3), 100);
        CHECK.due("pass with 100", threes.pass(1, 0), NO);
        OddLetsIn odd = Check.laid("g0,1,1,99;n2;");
        CHECK.due("pass with 99", odd.pass(0, 0), 1);
        dueOpen(odd, 0, 0, 0);
    }

    /** "A PERSON who is in A or B of a GATE that is OPEN from there can PASS: .. on the other side" */
    private static void passFromEitherSide() {
        OddLetsIn x = Check.laid("g2,3,0,0;g4,0,3,0;g1,4,3,0;n2;");
        CHECK.due("from B to A", x.pass(1, 1), 4);
        CHECK.due("from B to A again", x.pass(1, 2), 1);
        CHECK.due("from A to B", x.pass(1, 2), 4);
        CHECK.due("from A to B again", x.pass(1, 1), 0);
        CHECK.due("one more each time", x.gate(1, 3) * 10 + x.gate(2, 3), 22);
        CHECK.due("the other one stays", x.where(0), 0);
        CHECK.due("no fines", x.count(2), 0);
    }

    /** "or LINGER: one more has gone, he stays, and pays a fine" */
    private static void lingerStays() {
        OddLetsIn x = Check.laid(TO_AND_FRO);
        for (int i = 1; i <= 20; i++) {
            CHECK.due("fines in all", x.linger(i % 2, 1), i);
            CHECK.due("one more has gone", x.gate(1, 3), i);
            CHECK.due("he stays", x.where(0) + x.where(1), 0);
        }
        CHECK.due("linger where it is even", x.linger(1, 2), 21);
        CHECK.due("it is shut for him, too", x.can(1, 2), 0);
    }

    /** Promise 8: "BAD" */
    private static void canBad() {
        OddLetsIn x = Check.laid(TO_AND_FRO);
        for (int i : FAR) {
            CHECK.due("can: person " + i, x.can(i, 1), BAD);
            CHECK.due("can: gate " + i, x.can(1, i), BAD);
            CHECK.due("can: both " + i, x.can(i, i), BAD);
        }
        CHECK.due("can: person 2 of 2", x.can(2, 1), BAD);
        CHECK.due("can: gate 4 of 4", x.can(0, 4), BAD);
        CHECK.due("can: the last ones", x.can(1, 3), 0);
    }

    /** Promise 8: "Whether a PERSON can PASS a GATE now: 1, 0": as pass answers. */
    private static void canIsOneOrZero() {
        String[] kinds = {"0,0", "0,1", "1,0", "1,1", "2,0", "2,1", "2,2", "4,0", "4,1"};
        for (String kind : kinds) {
            for (int a = 0; a < 5; a++) {
                OddLetsIn x = Check.laid("g" + a + "," + (a + 4) % 5 + "," + kind + ";n1;");
                int b = (a + 4) % 5;
                int can = a == 0 ? x.gate(0, 4) : b == 0 ? x.gate(0, 5) : 0;
                CHECK.due("can(0, 0)", x.can(0, 0), can);
                CHECK.due("pass(0, 0)", x.pass(0, 0), can == 0 ? NO : a + b);
            }
        }
    }

    /** Promise 9: "BAD" */
    private static void passBad() {
        OddLetsIn x = Check.laid(TO_AND_FRO);
        for (int i : FAR) {
            CHECK.due("pass: person " + i, x.pass(i, 1), BAD);
            CHECK.due("pass: gate " + i, x.pass(1, i), BAD);
            CHECK.due("pass: both " + i, x.pass(i, i), BAD);
        }
        CHECK.due("pass: person 2 of 2", x.pass(2, 1), BAD);
        CHECK.due("pass: gate 4 of 4", x.pass(0, 4), BAD);
        CHECK.due("nothing changes", x.gate(1, 3) + x.count(6), 0);
    }

    /** Promise 9: "NO": the gate is shut, shut from his side, or not beside him. */
    private static void passNo() {
        OddLetsIn x = Check.laid("g0,1,0,1;g0,1,3,0;g1,0,4,0;g1,2,0,0;n1;");
        for (int g = 0; g < 4; g++) {
            CHECK.due("pass(0, " + g + ")", x.pass(0, g), NO);
        }
        CHECK.due("where(0)", x.where(0), 0);
        CHECK.due("gone", x.gate(0, 3) + x.gate(1, 3) + x.gate(2, 3) + x.gate(3, 3), 1);
        CHECK.due("nothing to undo", x.count(6), 0);
    }

    /** Promise 10: "BAD" */
    private static void lingerBad() {
        OddLetsIn x = Check.laid(TO_AND_FRO);
        for (int i : FAR) {
            CHECK.due("linger: person " + i, x.linger(i, 1), BAD);
            CHECK.due("linger: gate " + i, x.linger(1, i), BAD);
            CHECK.due("linger: both " + i, x.linger(i, i), BAD);
        }
        CHECK.due("linger: person 2 of 2", x.linger(2, 1), BAD);
        CHECK.due("linger: gate 4 of 4", x.linger(0, 4), BAD);
        CHECK.due("nothing changes", x.gate(1, 3) + x.count(6) + x.count(2), 0);
    }

    /** Promise 10: "NO": the gate is shut, shut from his side, or not beside him. */
    private static void lingerNo() {
        OddLetsIn x = Check.laid("g0,1,0,1;g0,1,3,0;g1,0,4,0;g1,2,0,0;n1;");
        for (int g = 0; g < 4; g++) {
            CHECK.due("linger(0, " + g + ")", x.linger(0, g), NO);
        }
        CHECK.due("fines", x.count(2), 0);
        CHECK.due("gone", x.gate(0, 3) + x.gate(1, 3) + x.gate(2, 3) + x.gate(3, 3), 1);
        CHECK.due("nothing to undo", x.count(6), 0);
    }

    /** "Of several the first in this order": BAD, where it would be NO, too. */
    private static void badAheadOfNo() {
        OddLetsIn x = Check.laid("g0,1,0,1;n1;");
        for (int i : FAR) {
            CHECK.due("pass by nobody, shut", x.pass(i, 0), BAD);
            CHECK.due("linger by nobody, shut", x.linger(i, 0), BAD);
            CHECK.due("can by nobody, shut", x.can(i, 0), BAD);
        }
        CHECK.due("pass by nobody, shut", x.pass(1, 0), BAD);
        CHECK.due("linger by nobody, shut", x.linger(1, 0), BAD);
        CHECK.due("pass, shut", x.pass(0, 0), NO);
    }

    /** Promise 11: "NO" */
    private static void undoNo() {
        OddLetsIn x = Check.laid(TO_AND_FRO);
        CHECK.due("undo() when laid", x.undo(), NO);
        x.pass(0, 1);
        CHECK.due("undo()", x.undo(), 0);
        CHECK.due("undo() again", x.undo(), NO);
        CHECK.due("NO changes nothing", x.where(0) + x.gate(1, 3) + x.count(6), 0);
        x.pass(0, 1);
        x.lay();
        CHECK.due("undo() when laid again", x.undo(), NO);
        x.keep();
        x.pass(0, 1);
        x.back();
        CHECK.due("undo() behind back()", x.undo(), NO);
        CHECK.due("new: undo()", new OddLetsIn().undo(), NO);
    }

    /** "the last 8 can be": of 8 each, of 9 all but the first. */
    private static void undoTheLastEight() {
        for (int many = 1; many <= 20; many++) {
            OddLetsIn x = Check.laid(TO_AND_FRO);
            for (int i = 1; i <= many; i++) {
                CHECK.due("pass", x.pass(0, 1), i % 2);
                CHECK.due("that can be UNDONE", x.count(6), Math.min(i, 8));
            }
            for (int left = Math.min(many, 8) - 1; left >= 0; left--) {
                CHECK.due("undo()", x.undo(), left);
                CHECK.due("that can be UNDONE", x.count(6), left);
            }
            CHECK.due("undo() of one more", x.undo(), NO);
            CHECK.due("those that stay", x.gate(1, 3), Math.max(0, many - 8));
            CHECK.due("where(0)", x.where(0), Math.max(0, many - 8) % 2);
        }
    }

    /** "UNDONE is the latest of these": and what is done behind it is the latest then. */
    private static void undoTheLatest() {
        OddLetsIn x = Check.laid(TO_AND_FRO);
        x.pass(0, 1);
        x.linger(1, 1);
        CHECK.due("undo() the lingering", x.undo(), 1);
        CHECK.due("fines", x.count(2), 0);
        CHECK.due("where(0)", x.where(0), 1);
        x.pass(1, 2);
        CHECK.due("undo() the pass of 1", x.undo(), 1);
        CHECK.due("where(1)", x.where(1), 0);
        CHECK.due("gate 2 is open again", x.can(1, 2), 1);
        CHECK.due("undo() the pass of 0", x.undo(), 0);
        CHECK.due("where(0)", x.where(0), 0);
        CHECK.due("gone", x.gate(1, 3) + x.gate(2, 3), 0);
    }

    /** UNDONE is one alone: a pass takes no fine back, a lingering moves nobody. */
    private static void undoLeavesTheRest() {
        OddLetsIn x = Check.laid(TO_AND_FRO);
        x.linger(0, 1);
        x.pass(1, 1);
        x.pass(0, 2);
        x.linger(1, 1);
        x.smallest(4);
        CHECK.due("undo() the lingering", x.undo(), 3);
        CHECK.due("fines", x.count(2), 1);
        CHECK.due("where(1)", x.where(1), 1);
        CHECK.due("undo() the pass of 0", x.undo(), 2);
        CHECK.due("fines", x.count(2), 1);
        CHECK.due("where", x.where(0) + 10 * x.where(1), 10);
        CHECK.due("undo() the pass of 1", x.undo(), 1);
        CHECK.due("fines", x.count(2), 1);
        CHECK.due("undo() the first lingering", x.undo(), 0);
        CHECK.due("fines", x.count(2), 0);
        CHECK.due("gone", x.gate(1, 3) + x.gate(2, 3), 0);
    }

    /** "(such by which nothing becomes another, too ..)" */
    private static void undoOfWhatChangesNoGate() {
        OddLetsIn x = Check.laid(TO_AND_FRO);
        int open = x.count(3);
        x.linger(0, 1);
        x.linger(0, 1);
        CHECK.due("the gates are open as before", x.count(3), open);
        CHECK.due("where(0)", x.where(0), 0);
        CHECK.due("that can be UNDONE", x.count(6), 2);
        CHECK.due("undo()", x.undo(), 1);
        CHECK.due("fines", x.count(2), 1);
        CHECK.due("undo()", x.undo(), 0);
        CHECK.due("gone", x.gate(1, 3), 0);
    }

    /** "nothing changes then": a call that was refused, or that only asks, is none to be UNDONE. */
    private static void refusedIsNoneToUndo() {
        OddLetsIn x = Check.laid(TO_AND_FRO);
        x.pass(0, 2);
        CHECK.due("refused", x.pass(1, 2), NO);
        CHECK.due("refused", x.linger(1, 2), NO);
        CHECK.due("refused", x.pass(1, 9), BAD);
        x.can(0, 2);
        x.way(1, true, 0);
        x.day(0, 99, -1);
        CHECK.due("that can be UNDONE", x.count(6), 1);
        CHECK.due("undo()", x.undo(), 0);
        CHECK.due("where(0)", x.where(0), 0);
    }
}
