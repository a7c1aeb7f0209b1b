/** Promises 8 to 11. */
public final class PassesTest {
    private static final Check CHECK = new Check("PassesTest");
    private static final int BAD = OddLetsIn.BAD;
    private static final int NO = OddLetsIn.NO;

    public static void main(String[] args) {
        can();
        pass();
        linger();
        undo();
        undoEight();
        undoEachAsItWas();
        badOnes();
        CHECK.end();
    }

    private static void can() {
        OddLetsIn x = Check.laid("g0,1,4,0;g1,2,3,0;g1,0,1,0;g0,1,2,3;n3;");
        CHECK.due("one way from A", x.can(0, 0), 1);
        CHECK.due("not beside", x.can(0, 1), 0);
        CHECK.due("odd with 0", x.can(0, 2), 0);
        CHECK.due("threes with 3", x.can(2, 3), 1);
        x.pass(1, 3);
        CHECK.due("one way from B", x.can(1, 0), 0);
        CHECK.due("copy of one way from its A", x.can(1, 1), 1);
        CHECK.due("threes with 4 from B", x.can(1, 3), 0);
        x.pass(1, 1);
        CHECK.due("copy of one way from its B", x.can(1, 1), 0);
        x.pass(2, 0);
        CHECK.due("copy of a shut gate", x.can(2, 1), 0);
    }

    private static void pass() {
        OddLetsIn x = Check.laid("g3,0,0,8;g3,1,3,0;n2;");
        CHECK.due("pass(0, 0) from B", x.pass(0, 0), 3);
        CHECK.due("one more has gone", x.gate(0, 3), 9);
        CHECK.due("shut now", x.pass(1, 0), NO);
        CHECK.due("its copy, too", x.pass(0, 1), NO);
        CHECK.due("nothing changes by NO", x.gate(1, 3), 0);
        CHECK.due("where(0)", x.where(0), 3);
        CHECK.due("where(1)", x.where(1), 0);
        CHECK.due("no fine for a pass", x.count(2), 0);
        CHECK.due("not beside", x.pass(1, 1), NO);
        OddLetsIn copy = Check.laid("g1,2,0,0;g0,1,3,0;n1;");
        for (int i = 1; i <= 9; i++) {
            CHECK.due("to and fro by a copy", copy.pass(0, 1), i % 2);
            CHECK.due("gone by the copy", copy.gate(1, 3), i);
        }
        CHECK.due("the copied one was not gone through", copy.gate(0, 3), 0);
    }

    private static void linger() {
        OddLetsIn x = Check.laid("g0,1,0,0;g0,1,2,3;g0,2,3,5;n2;");
        CHECK.due("linger(0, 0)", x.linger(0, 0), 1);
        CHECK.due("he stays", x.where(0), 0);
        CHECK.due("one more has gone", x.gate(0, 3), 1);
        CHECK.due("it is shut", x.linger(1, 0), NO);
        CHECK.due("nothing changes by NO", x.gate(0, 3), 1);
        CHECK.due("copy", x.linger(1, 2), 2);
        CHECK.due("copy again", x.linger(0, 2), 3);
        CHECK.due("gone by the copy", x.gate(2, 3), 7);
        CHECK.due("threes", x.linger(1, 1), 4);
        CHECK.due("threes with 4", x.linger(1, 1), NO);
        CHECK.due("fines", x.count(2), 4);
        x.keep();
        OddLetsIn beside = Check.laid("g1,2,0,0;g2,0,4,0;n1;");
        CHECK.due("not beside", beside.linger(0, 0), NO);
        CHECK.due("one way from B", beside.linger(0, 1), NO);
    }

    private static void undo() {
        OddLetsIn x = new OddLetsIn();
        CHECK.due("undo() at first", x.undo(), NO);
        x.pass(1, 0);
        x.linger(1, 1);
        CHECK.due("a NO is none", x.pass(0, 0), NO);
        CHECK.due("a BAD is none", x.pass(9, 0), BAD);
        CHECK.due("two can be", x.count(6), 2);
        CHECK.due("undo() a lingering", x.undo(), 1);
        CHECK.due("fines", x.count(2), 0);
        CHECK.due("gone", x.gate(1, 3), 1);
        CHECK.due("where(1)", x.where(1), 1);
        CHECK.due("undo() a pass", x.undo(), 0);
        CHECK.due("where(1)", x.where(1), 0);
        CHECK.due("gone", x.gate(0, 3), 0);
        CHECK.due("undo() of nothing", x.undo(), NO);
        x.pass(0, 0);
        x.keep();
        x.seen(0, true);
        x.path(0);
        CHECK.due("undo() behind keep, seen, path", x.undo(), 0);
        CHECK.due("these stay", x.count(4) * 100 + x.count(5) * 10 + x.count(7), 111);
        x.back();
        CHECK.due("undo() behind back", x.undo(), NO);
    }

    private static void undoEight() {
        OddLetsIn x = Check.laid("g1,2,0,0;g0,1,3,0;g0,3,3,0;n2;");
        for (int i = 1; i <= 11; i++) {
            if (i % 3 == 0) {
                x.linger(1, 2);
            } else {
                x.pass(0, 1);
            }
            CHECK.due("count(6)", x.count(6), Math.min(8, i));
        }
        CHECK.due("where(0) behind 8 passes", x.where(0), 0);
        for (int left = 7; left >= 0; left--) {
            CHECK.due("undo()", x.undo(), left);
        }
        CHECK.due("undo() of a ninth", x.undo(), NO);
        CHECK.due("where(0) behind 2 passes", x.where(0), 0);
        CHECK.due("passes that stay", x.gate(1, 3), 2);
        CHECK.due("lingerings that stay", x.gate(2, 3), 1);
        CHECK.due("fines that stay", x.count(2), 1);
    }

    /** Deeds of no plain pattern, so that each that is undone must be the very one. */
    private static void undoEachAsItWas() {
        OddLetsIn x = Check.laid("g3,4,0,0;g0,1,3,0;g1,2,3,0;g2,0,3,0;g0,4,3,0;n3;");
        int[][] deeds = {{0, 1, 0}, {1, 3, 1}, {0, 2, 0}, {2, 4, 0}, {1, 3, 0}, {0, 2, 1}, {2, 4, 1},
            {1, 2, 0}, {1, 1, 0}, {0, 3, 0}, {2, 4, 0}, {0, 1, 1}, {2, 3, 1}, {1, 4, 0}};
        StringBuilder[] stood = new StringBuilder[deeds.length + 1];
        for (int i = 0; i < deeds.length; i++) {
            stood[i] = standing(x);
            int[] deed = deeds[i];
            int done = deed[2] == 1 ? x.linger(deed[0], deed[1]) : x.pass(deed[0], deed[1]);
            CHECK.due("deed " + i, done >= 0 ? 1 : 0, 1);
        }
        for (int i = deeds.length - 1; i >= deeds.length - 8; i--) {
            x.undo();
            CHECK.due("as behind " + i + " deeds", standing(x).compareTo(stood[i]), 0);
        }
        CHECK.due("undo() of a ninth", x.undo(), NO);
    }

    private static StringBuilder standing(OddLetsIn x) {
        StringBuilder all = new StringBuilder();
        for (int p = 0; p < x.count(1); p++) {
            all.append(x.where(p)).append(' ');
        }
        for (int g = 0; g < x.count(0); g++) {
            all.append(x.gate(g, 3)).append(' ');
        }
        return all.append(x.count(2));
    }

    private static void badOnes() {
        OddLetsIn x = new OddLetsIn();
        int[] none = {-1, 2, 5, Integer.MIN_VALUE, Integer.MAX_VALUE};
        for (int i : none) {
            CHECK.due("can: gate", x.can(0, i), BAD);
            CHECK.due("can: person", x.can(i, 0), BAD);
            CHECK.due("pass: gate", x.pass(0, i), BAD);
            CHECK.due("pass: person", x.pass(i, 0), BAD);
            CHECK.due("pass: person, where it would be NO", x.pass(i, 1), BAD);
            CHECK.due("linger: gate", x.linger(0, i), BAD);
            CHECK.due("linger: person", x.linger(i, 0), BAD);
        }
        CHECK.due("nothing changes", x.count(6) + x.count(2) + x.gate(0, 3), 0);
    }
}
