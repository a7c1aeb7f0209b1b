import java.util.ArrayList;
import java.util.List;

/**
 * "Of several the first in this order; nothing changes then": each call that is refused, and each
 * that only asks, leaves all that an object can be asked about as it stands without that call.
 */
public final class RefusedTest {
    private static final Check CHECK = new Check("RefusedTest");
    private static final int BAD = OddLetsIn.BAD;
    private static final int NO = OddLetsIn.NO;
    private static final int FULL = OddLetsIn.FULL;
    private static final int NONE = OddLetsIn.NONE;
    private static final int ANY = Integer.MIN_VALUE;
    private static final int[] FAR = {-1, -3, 10, 32, 10000, Integer.MIN_VALUE, Integer.MAX_VALUE};

    private interface Call {
        int on(OddLetsIn x);
    }

    private interface Start {
        OddLetsIn make();
    }

    private final String name;
    private final Start start;
    private final String untouched;

    private RefusedTest(String name, Start start) {
        this.name = name;
        this.start = start;
        untouched = standing(start.make());
    }

    public static void main(String[] args) {
        RefusedTest fresh = new RefusedTest("new", OddLetsIn::new);
        RefusedTest midway = new RefusedTest("midway", RefusedTest::midway);
        RefusedTest full = new RefusedTest("full", RefusedTest::full);
        for (RefusedTest each : List.of(fresh, midway, full)) {
            each.badNumbers();
            each.badNumbersOfRanges();
            each.badAheadOfAll();
            each.asking();
        }
        fresh.refusedWhenNew();
        midway.refusedMidway();
        full.refusedWhenFull();
        CHECK.end();
    }

    /** Somebody is in each of three courts; one more can be kept; the text has a fault. */
    private static OddLetsIn midway() {
        OddLetsIn x = Check.laid("g0,1,0,0;g0,1,3,7;g1,2,2,3;g0,4,4,98;n3;");
        x.linger(0, 1);
        x.pass(1, 1);
        x.keep();
        x.pass(1, 2);
        x.pass(2, 3);
        x.linger(0, 1);
        x.seen(1, true);
        x.seen(3, false);
        x.path(1);
        x.path(0);
        x.path(2);
        Check.write(x, "g1,1,1,1;");
        return x;
    }

    /** All that can be full is: the text, what is seen, the path, what can be undone, what is kept. */
    private static OddLetsIn full() {
        OddLetsIn x = Check.laid("g1,2,0,0;g0,1,3,0;g1,3,4,10;g2,4,3,99;g0,3,2,0;"
                + "n3;".repeat(49) + "n1;");
        Check.write(x, "n9;");
        for (int i = 0; i < 9; i++) {
            x.pass(0, 1);
        }
        x.linger(0, 0);
        x.keep();
        x.undo();
        x.linger(0, 1);
        x.keep();
        x.pass(0, 2);
        for (int i = 0; i < 10; i++) {
            x.seen(i % 2, true);
        }
        for (int i = 0; i < 8; i++) {
            x.path(1);
        }
        return x;
    }

    /** All that can be asked, and then told by going back: the object is spent by it. */
    private static String standing(OddLetsIn x) {
        StringBuilder all = new StringBuilder();
        for (int what = 0; what <= 8; what++) {
            all.append(x.count(what)).append(' ');
        }
        for (int g = 0; g < 5; g++) {
            for (int what = 0; what < 6; what++) {
                all.append(x.gate(g, what)).append(' ');
            }
        }
        all.append(x.fault()).append(' ').append(x.wrong());
        for (int set = 0; set < 32; set++) {
            all.append(' ').append(x.guests(set, 1));
        }
        places(x, all);
        for (int i = 0; i < 9; i++) {
            all.append(" undo ").append(x.undo());
            places(x, all);
        }
        for (int i = 0; i < 3; i++) {
            all.append(" back ").append(x.back());
            places(x, all);
        }
        all.append(" forget ").append(x.forget()).append(" noPath ").append(x.noPath());
        all.append(" lay ").append(x.lay());
        places(x, all);
        all.append(" wipe ").append(x.wipe());
        return all.toString();
    }

    private static void places(OddLetsIn x, StringBuilder all) {
        for (int i = 0; i < 5; i++) {
            all.append(' ').append(x.gate(i, 3)).append(' ').append(x.where(i));
        }
        all.append(' ').append(x.count(2));
    }

    private void due(String call, int want, Call refused) {
        OddLetsIn x = start.make();
        int got = refused.on(x);
        if (want != ANY) {
            CHECK.due(name + ": " + call, got, want);
        }
        boolean same = standing(x).equals(untouched);
        CHECK.due(name + ": " + call + " changes nothing", same ? 1 : 0, 1);
    }

    private void badNumbers() {
        for (int i : FAR) {
            due("write " + i, BAD, x -> x.write(i, -1));
            due("gate " + i, BAD, x -> x.gate(i, 0));
            due("gate, what " + i, BAD, x -> x.gate(0, i));
            due("where " + i, BAD, x -> x.where(i));
            due("can, person " + i, BAD, x -> x.can(i, 0));
            due("can, gate " + i, BAD, x -> x.can(0, i));
            due("pass, person " + i, BAD, x -> x.pass(i, 0));
            due("pass, gate " + i, BAD, x -> x.pass(0, i));
            due("linger, person " + i, BAD, x -> x.linger(i, 0));
            due("linger, gate " + i, BAD, x -> x.linger(0, i));
            due("way " + i, BAD, x -> x.way(i, true, 0));
            due("way, what " + i, BAD, x -> x.way(0, false, i));
            due("smallest " + i, BAD, x -> x.smallest(i));
            due("mend, what " + i, BAD, x -> x.mend(0, i));
            due("seen " + i, BAD, x -> x.seen(i, true));
            due("path " + i, BAD, x -> x.path(i));
            due("guests, what " + i, BAD, x -> x.guests(0, i));
            due("odds, gate " + i, BAD, x -> x.odds(i, 1, 1, 0));
            due("odds, n " + i, BAD, x -> x.odds(0, i, 1, 0));
            due("odds, part " + i, BAD, x -> x.odds(0, 1, 1, i));
            due("day, p " + (i - 1), BAD, x -> x.day(0, 1, i == ANY ? i : i - 1));
            due("count " + i, BAD, x -> x.count(i));
        }
    }

    /** The numbers just beside those that are told. */
    private void badNumbersOfRanges() {
        int gates = start.make().count(0);
        int persons = start.make().count(1);
        due("write 0", BAD, x -> x.write(0, -1));
        due("write 9", BAD, x -> x.write(9, -1));
        due("gate, one more", BAD, x -> x.gate(gates, 0));
        due("gate, what 6", BAD, x -> x.gate(0, 6));
        due("where, one more", BAD, x -> x.where(persons));
        due("can, one more", BAD, x -> x.can(persons, gates));
        due("pass, one more", BAD, x -> x.pass(persons, gates));
        due("linger, one more", BAD, x -> x.linger(persons, gates));
        due("way 5", BAD, x -> x.way(5, false, 1));
        due("smallest 5", BAD, x -> x.smallest(5));
        due("mend, one more", BAD, x -> x.mend(1 << gates, 0));
        due("seen, one more", BAD, x -> x.seen(gates, false));
        due("path, one more", BAD, x -> x.path(gates));
        due("guests, one more", BAD, x -> x.guests(1 << gates, 0));
        due("odds, one more", BAD, x -> x.odds(gates, 1, 1, 0));
        due("odds, q 11", BAD, x -> x.odds(0, 1, 11, 0));
        due("day, one more", BAD, x -> x.day(0, 1, persons));
        due("day, n 100", BAD, x -> x.day(0, 100, 0));
        due("day, z 10000", BAD, x -> x.day(10000, 1, 0));
        due("count 9", BAD, x -> x.count(9));
    }

    /** One number that is none that is told, beside others that are none: BAD all the same. */
    private void badAheadOfAll() {
        due("all of write", BAD, x -> x.write(-5, 0));
        due("all of gate", BAD, x -> x.gate(-1, -1));
        due("all of way", BAD, x -> x.way(-1, true, 7));
        due("all of mend", BAD, x -> x.mend(-1, 7));
        due("all of guests", BAD, x -> x.guests(-1, 7));
        due("all of odds", BAD, x -> x.odds(9, 9, 99, 9));
        due("all of day", BAD, x -> x.day(-1, 0, -2));
    }

    private void asking() {
        due("fault", ANY, OddLetsIn::fault);
        due("wrong", ANY, OddLetsIn::wrong);
        for (int i = 0; i < 5; i++) {
            int c = i;
            due("gate", ANY, x -> x.gate(c % 2, c));
            due("where", ANY, x -> x.where(c));
            due("can", ANY, x -> x.can(c % 3, c));
            due("way of all", ANY, x -> x.way(c, true, c % 2));
            due("way of one", ANY, x -> x.way(c, false, c % 2));
            due("smallest", ANY, x -> x.smallest(c));
            due("mend", ANY, x -> x.mend(c, c % 2));
            due("guests", ANY, x -> x.guests(c, c % 2));
            due("odds", ANY, x -> x.odds(c, 8 - c, 10 - c, c % 2));
            due("day", ANY, x -> x.day(9999 - c, 99 - c, c - 1));
            due("count", ANY, x -> x.count(c));
        }
    }

    private void refusedWhenNew() {
        due("lay() of an empty text", NO, OddLetsIn::lay);
        due("undo()", NO, OddLetsIn::undo);
        due("back()", NO, OddLetsIn::back);
        due("pass not beside", NO, x -> x.pass(0, 1));
        due("linger not beside", NO, x -> x.linger(1, 1));
        due("way to 4", NONE, x -> x.way(4, false, 0));
        due("smallest for 4", NONE, x -> x.smallest(4));
        due("mend", NONE, x -> x.mend(1, 0));
        due("guests", NONE, x -> x.guests(1, 1));
        due("wipe() of nothing", 0, OddLetsIn::wipe);
        due("forget() of nothing", 0, OddLetsIn::forget);
        due("noPath() of nothing", 0, OddLetsIn::noPath);
    }

    private void refusedMidway() {
        due("lay() with a fault", NO, OddLetsIn::lay);
        due("pass not beside", NO, x -> x.pass(0, 2));
        due("pass, shut from B", NO, x -> x.pass(2, 3));
        due("pass, shut", NO, x -> x.pass(1, 2));
        due("linger not beside", NO, x -> x.linger(0, 2));
        due("linger, shut", NO, x -> x.linger(0, 3));
        due("way of all", NONE, x -> x.way(1, true, 1));
        due("smallest", NONE, x -> x.smallest(4));
        due("mend", NONE, x -> x.mend(15, 1));
    }

    private void refusedWhenFull() {
        for (int n = 1; n <= 8; n++) {
            int many = n;
            due("write " + n, FULL, x -> x.write(many, 0x3B3B3B3B3B3B3B3BL));
        }
        for (int g = 0; g < 5; g++) {
            int gate = g;
            due("seen(" + g + ", false)", FULL, x -> x.seen(gate, false));
            due("path(" + g + ")", FULL, x -> x.path(gate));
        }
        due("keep()", FULL, OddLetsIn::keep);
        due("lay() with a fault", NO, OddLetsIn::lay);
        due("pass not beside", NO, x -> x.pass(0, 0));
        due("linger, shut from B", NO, x -> x.linger(0, 2));
    }
}
