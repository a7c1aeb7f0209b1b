/**
 * The edges that part 4 of the document and promises 18 to 25 name: a test for each sentence, which
 * stands above it.
 */
public final class GuestEdgesTest {
    private static final Check CHECK = new Check("GuestEdgesTest");
    private static final int BAD = OddLetsIn.BAD;
    private static final int NO = OddLetsIn.NO;
    private static final int FULL = OddLetsIn.FULL;
    private static final int NONE = OddLetsIn.NONE;
    private static final String FIVE = "g0,1,0,0;g1,2,2,3;g2,3,4,6;g3,4,0,0;g4,0,3,0;";
    private static final int[] FAR = {-1, -2, 5, 11, 100, 10000, Integer.MIN_VALUE,
        Integer.MAX_VALUE};

    public static void main(String[] args) {
        pathOfEightGates();
        pathBad();
        pathBadAheadOfFull();
        noPathOfNothingAndEight();
        guestComesToCourtZero();
        guestGoesTillOneIsShut();
        guestGoesTillOneIsNotBesideHim();
        guestsFromOneToSixty();
        guestsNone();
        guestsWithoutAPath();
        guestsNoGateAndAll();
        guestsBad();
        guestsChangeNothing();
        oddsOfOneToEight();
        oddsOfChanceZeroAndTen();
        oddsInLowestTerms();
        oddsOfAShutGate();
        oddsOfACopy();
        oddsFromSideA();
        oddsBad();
        dayOfOneStep();
        dayNumbersDoNotWrap();
        dayFromNowOn();
        dayChangesNothing();
        dayBad();
        keepTwoAtMost();
        backNo();
        backAsKeptLast();
        backUndoesNothing();
        backLeavesTheRest();
        countBad();
        CHECK.end();
    }

    private static void dueGuests(OddLetsIn x, int set, int many, int lowest) {
        CHECK.due("guests(" + set + ", 0)", x.guests(set, 0), many);
        CHECK.due("guests(" + set + ", 1)", x.guests(set, 1), lowest);
    }

    private static void dueOdds(OddLetsIn x, int g, int n, int q, int above, int below) {
        String call = "odds(" + g + ", " + n + ", " + q + ", ";
        CHECK.due(call + "0)", x.odds(g, n, q, 0), above);
        CHECK.due(call + "1)", x.odds(g, n, q, 1), below);
    }

    private static OddLetsIn withPath(String text, int... gates) {
        OddLetsIn x = Check.laid(text);
        for (int g : gates) {
            x.path(g);
        }
        return x;
    }

    /** "THE PATH is a row of GATES (8 at most)"; promise 18: "FULL" */
    private static void pathOfEightGates() {
        OddLetsIn x = Check.laid("g1,2,0,0;g0,1,3,0;g1,0,3,0;g0,2,0,0;");
        for (int i = 1; i <= 7; i++) {
            CHECK.due("path", x.path(i % 2 == 0 ? 2 : 1), i);
        }
        dueGuests(x, 15, 60, 1);
        CHECK.due("path of an eighth", x.path(0), 8);
        dueGuests(x, 8, 60, 1);
        CHECK.due("path of a ninth", x.path(3), FULL);
        CHECK.due("path of a ninth again", x.path(0), FULL);
        CHECK.due("GATES of THE PATH", x.count(5), 8);
        dueGuests(x, 8, 60, 1);
    }

    /** Promise 18: "BAD" */
    private static void pathBad() {
        OddLetsIn x = new OddLetsIn();
        for (int g : FAR) {
            CHECK.due("path(" + g + ")", x.path(g), BAD);
        }
        CHECK.due("path(2) of 2 gates", x.path(2), BAD);
        CHECK.due("GATES of THE PATH", x.count(5), 0);
        CHECK.due("path(1) of 2 gates", x.path(1), 1);
        OddLetsIn five = Check.laid(FIVE);
        CHECK.due("path(4) of 5 gates", five.path(4), 1);
        CHECK.due("path(5) of 5 gates", five.path(5), BAD);
    }

    /** "Of several the first in this order": BAD, where it would be FULL, too. */
    private static void pathBadAheadOfFull() {
        OddLetsIn x = withPath("g0,1,0,0;g0,1,0,0;", 0, 0, 0, 0, 0, 0, 0, 0);
        CHECK.due("path(0)", x.path(0), FULL);
        for (int g : FAR) {
            CHECK.due("path(" + g + ")", x.path(g), BAD);
        }
        CHECK.due("path(2)", x.path(2), BAD);
    }

    /** Promise 19: "No PATH: how many it had." */
    private static void noPathOfNothingAndEight() {
        OddLetsIn x = new OddLetsIn();
        CHECK.due("noPath() of nothing", x.noPath(), 0);
        for (int i = 1; i <= 8; i++) {
            x.path(0);
        }
        CHECK.due("noPath() of eight", x.noPath(), 8);
        CHECK.due("GATES of THE PATH", x.count(5), 0);
        CHECK.due("noPath() again", x.noPath(), 0);
        dueGuests(x, 3, 60, 1);
        CHECK.due("path behind it", x.path(1), 1);
    }

    /** "A GUEST comes to COURT 0", wherever persons are. */
    private static void guestComesToCourtZero() {
        OddLetsIn x = withPath("g4,0,0,0;g4,1,0,0;g0,4,2,0;n1;", 1);
        dueGuests(x, 7, 60, 1);
        x.pass(0, 2);
        dueGuests(x, 3, 60, 1);
        x.noPath();
        x.path(0);
        dueGuests(x, 2, 60, 1);
    }

    /** "GATE by GATE, till one comes that is not OPEN from where he is": those behind are not tried. */
    private static void guestGoesTillOneIsShut() {
        OddLetsIn x = withPath("g0,1,0,0;g1,2,1,0;g1,3,0,0;", 0, 1, 2);
        dueGuests(x, 4, 60, 1);
        OddLetsIn oneWay = withPath("g0,1,0,0;g2,1,4,0;g1,3,0,0;", 0, 1, 2);
        dueGuests(oneWay, 6, 60, 1);
        OddLetsIn first = withPath("g0,1,0,1;g0,1,0,0;", 0, 1);
        dueGuests(first, 2, 60, 1);
        OddLetsIn copy = withPath("g0,1,0,0;g1,2,3,0;g1,3,0,0;", 0, 1, 2);
        dueGuests(copy, 4, 60, 1);
        OddLetsIn twice = withPath("g0,1,0,0;g0,2,0,0;", 0, 0, 1);
        dueGuests(twice, 2, 60, 1);
    }

    /** "or is not beside him; then he is away": those behind are not tried. */
    private static void guestGoesTillOneIsNotBesideHim() {
        OddLetsIn x = withPath("g0,1,0,0;g2,3,0,0;g1,2,0,0;", 0, 1, 2);
        dueGuests(x, 6, 60, 1);
        OddLetsIn first = withPath("g1,2,0,0;g0,1,0,0;", 0, 1);
        dueGuests(first, 3, 60, 1);
        OddLetsIn round = withPath("g0,1,0,0;g1,2,0,0;g2,0,0,0;g0,3,0,0;", 0, 1, 2, 3);
        dueGuests(round, 0, 60, 1);
    }

    /** "of x from 1 to 60 how many there are": behind one guest, not behind none. */
    private static void guestsFromOneToSixty() {
        OddLetsIn x = withPath("g0,1,0,0;n1;", 0);
        dueGuests(x, 0, 60, 1);
        dueGuests(x, 1, 0, NONE);
        OddLetsIn shut = withPath("g0,1,0,1;n1;", 0);
        dueGuests(shut, 0, 60, 1);
        dueGuests(shut, 1, 0, NONE);
    }

    /** Promise 20: "the lowest (1; NONE)"; how many there are is 0 then. */
    private static void guestsNone() {
        OddLetsIn x = withPath(FIVE, 0, 1, 2, 3, 4);
        for (int set = 1; set < 32; set++) {
            dueGuests(x, set, 0, NONE);
        }
        dueGuests(x, 0, 60, 1);
    }

    /** A PATH of no GATES: all is as it is. */
    private static void guestsWithoutAPath() {
        OddLetsIn x = Check.laid(FIVE);
        for (int set = 0; set < 32; set++) {
            dueGuests(x, set, set == 31 ? 60 : 0, set == 31 ? 1 : NONE);
        }
    }

    /** "(.. sets of GATES of these, 0, too)" */
    private static void guestsNoGateAndAll() {
        StringBuilder text = new StringBuilder();
        for (int gates = 1; gates <= 5; gates++) {
            text.append(gates == 1 ? "g0,1,0,0;" : "g0,1,3,0;");
            OddLetsIn x = Check.laid(text.toString());
            int all = (1 << gates) - 1;
            dueGuests(x, all, 60, 1);
            dueGuests(x, 0, 0, NONE);
            CHECK.due("a set with a gate more", x.guests(all + 1, 0), BAD);
            CHECK.due("a set below 0", x.guests(-1, 1), BAD);
            x.path(0);
            dueGuests(x, 0, 60, 1);
        }
    }

    /** Promise 20: "BAD" */
    private static void guestsBad() {
        OddLetsIn x = new OddLetsIn();
        for (int i : FAR) {
            CHECK.due("guests(" + i + ", 0)", x.guests(i, 0), BAD);
            CHECK.due("guests(" + i + ", 1)", x.guests(i, 1), BAD);
            CHECK.due("guests(3, " + i + ")", x.guests(3, i), BAD);
            CHECK.due("guests(0, " + i + ")", x.guests(0, i), BAD);
        }
        CHECK.due("guests(4, 0)", x.guests(4, 0), BAD);
        CHECK.due("guests(3, 2)", x.guests(3, 2), BAD);
    }

    private static void guestsChangeNothing() {
        OddLetsIn x = withPath("g1,0,0,0;g0,1,3,0;g1,2,1,1;n1;", 1, 2);
        dueGuests(x, 3, 60, 1);
        dueGuests(x, 3, 60, 1);
        CHECK.due("gone", x.gate(0, 3) + x.gate(1, 3) + 10 * x.gate(2, 3), 10);
        CHECK.due("that can be UNDONE", x.count(6), 0);
        CHECK.due("fines", x.count(2), 0);
        CHECK.due("where(0)", x.where(0), 0);
    }

    /** "n (1 to 8)" */
    private static void oddsOfOneToEight() {
        OddLetsIn x = new OddLetsIn();
        int below = 1;
        int above = 1;
        for (int n = 1; n <= 8; n++) {
            below *= 10;
            above *= 3;
            dueOdds(x, 0, n, 7, above, below);
        }
        CHECK.due("odds of 0", x.odds(0, 0, 7, 0), BAD);
        CHECK.due("odds of 0", x.odds(0, 0, 7, 1), BAD);
        CHECK.due("odds of 9", x.odds(0, 9, 7, 0), BAD);
        CHECK.due("odds of 9", x.odds(0, 9, 7, 1), BAD);
    }

    /** "q (0 to 10)": nobody tries it; each tries it. */
    private static void oddsOfChanceZeroAndTen() {
        OddLetsIn x = Check.laid("g0,1,0,0;g0,1,1,1;g0,1,2,3;g0,1,4,0;g0,1,0,1;");
        for (int n = 1; n <= 8; n++) {
            for (int g = 0; g < 4; g++) {
                dueOdds(x, g, n, 0, 1, 1);
                dueOdds(x, g, n, 10, 0, 1);
            }
            dueOdds(x, 4, n, 0, 0, 1);
            dueOdds(x, 4, n, 10, 0, 1);
        }
        CHECK.due("q -1", x.odds(0, 1, -1, 0), BAD);
        CHECK.due("q 11", x.odds(0, 1, 11, 0), BAD);
    }

    /** "in lowest terms": 0 is 0 of 1, all is 1 of 1. */
    private static void oddsInLowestTerms() {
        OddLetsIn x = new OddLetsIn();
        int[] above = {1, 9, 4, 7, 3, 1, 2, 3, 1, 1, 0};
        int[] below = {1, 10, 5, 10, 5, 2, 5, 10, 5, 10, 1};
        for (int q = 0; q <= 10; q++) {
            dueOdds(x, 0, 1, q, above[q], below[q]);
            dueOdds(x, 0, 2, q, above[q] * above[q], below[q] * below[q]);
        }
        dueOdds(x, 0, 8, 1, 43046721, 100000000);
        dueOdds(x, 0, 8, 9, 1, 100000000);
        dueOdds(x, 0, 8, 8, 1, 390625);
        dueOdds(x, 0, 8, 2, 65536, 390625);
    }

    /** "goes through, if it is OPEN from A": a shut one stays as it is. */
    private static void oddsOfAShutGate() {
        OddLetsIn x = Check.laid("g0,1,0,1;g0,1,1,2;g0,1,2,1;g0,1,2,2;g0,1,4,1;");
        for (int g = 0; g < 5; g++) {
            for (int q = 0; q <= 10; q += 5) {
                dueOdds(x, g, 1, q, 0, 1);
                dueOdds(x, g, 8, q, 0, 1);
            }
        }
    }

    /** A COPY is as the gate that it copies, through which nobody goes. */
    private static void oddsOfACopy() {
        OddLetsIn x = Check.laid("g0,1,0,0;g0,1,3,0;g0,1,3,0;g0,1,2,1;g0,1,3,0;");
        for (int q = 0; q <= 10; q++) {
            dueOdds(x, 1, 8, q, 1, 1);
            dueOdds(x, 2, 1, q, 1, 1);
            dueOdds(x, 4, 8, q, 0, 1);
        }
    }

    /** "n come to its side A": of ONE WAY, too; wherever that court is. */
    private static void oddsFromSideA() {
        OddLetsIn x = Check.laid("g4,3,4,0;g2,0,0,0;g3,4,3,0;n1;");
        dueOdds(x, 0, 2, 5, 1, 4);
        dueOdds(x, 1, 2, 5, 1, 4);
        dueOdds(x, 2, 2, 5, 1, 1);
    }

    /** Promise 21: "BAD" */
    private static void oddsBad() {
        OddLetsIn x = new OddLetsIn();
        for (int i : FAR) {
            CHECK.due("odds: gate " + i, x.odds(i, 1, 5, 0), BAD);
            CHECK.due("odds: part " + i, x.odds(0, 1, 5, i), BAD);
            boolean isMany = i == 5;
            CHECK.due("odds: n " + i, x.odds(0, i, 10, 0), isMany ? 0 : BAD);
            CHECK.due("odds: q " + i, x.odds(0, 1, i, 0), isMany ? 1 : BAD);
        }
        CHECK.due("odds: gate 2", x.odds(2, 1, 5, 0), BAD);
        CHECK.due("odds: part 2", x.odds(0, 1, 5, 2), BAD);
    }

    /** "of n (1 to 99) steps .. at step t (0 first)": the first DRAW of day 0 is 1. */
    private static void dayOfOneStep() {
        OddLetsIn x = Check.laid("g0,1,0,0;g0,2,0,0;n2;");
        CHECK.due("passes", x.day(0, 1, -1), 1);
        CHECK.due("person 0 stays", x.day(0, 1, 0), 0);
        CHECK.due("person 1 passes gate 0", x.day(0, 1, 1), 1);
    }

    /** "(x times x) modulo 65521 .. (numbers that do not wrap)" */
    private static void dayNumbersDoNotWrap() {
        int[] far = {0, 1, 5, 6, 7, 100, 5000, 9998, 9999};
        for (int z : far) {
            OddLetsIn x = Check.laid("g2,3,0,0;g0,1,3,0;g1,2,3,0;g2,0,3,0;n1;");
            int court = 0;
            int passes = 0;
            boolean shut = false;
            for (int t = 0; t < 99; t++) {
                long rest = (7919L * z + 6151L * t + 1) % 65521;
                int g = (int) (rest * rest % 65521) / 8 % 4;
                int[] next = {court ^ 1, court == 2 ? 2 : 1 - court, 3 - court, 2 - court};
                boolean[] beside = {court >= 2, court <= 1, court == 1 || court == 2,
                    court == 0 || court == 2};
                if (beside[g] && !shut) {
                    court = next[g];
                    passes++;
                    shut = g == 0;
                }
                CHECK.due("passes of day " + z + ", " + (t + 1), x.day(z, t + 1, -1), passes);
                CHECK.due("where at day " + z + ", " + (t + 1), x.day(z, t + 1, 0), court);
            }
        }
    }

    /** "from now on" */
    private static void dayFromNowOn() {
        OddLetsIn x = Check.laid("g0,1,0,0;n1;");
        CHECK.due("passes", x.day(0, 99, -1), 1);
        CHECK.due("where", x.day(0, 99, 0), 1);
        x.pass(0, 0);
        CHECK.due("passes", x.day(0, 99, -1), 0);
        CHECK.due("where", x.day(0, 99, 0), 1);
        x.undo();
        x.linger(0, 0);
        CHECK.due("passes", x.day(0, 99, -1), 0);
        CHECK.due("where", x.day(0, 99, 0), 0);
    }

    /** "(nothing changes by it)" */
    private static void dayChangesNothing() {
        OddLetsIn x = Check.laid(FIVE + "n3;");
        int passes = x.day(17, 99, -1);
        CHECK.due("somebody passes", passes > 0 ? 1 : 0, 1);
        CHECK.due("as many once more", x.day(17, 99, -1), passes);
        CHECK.due("where", x.where(0) + x.where(1) + x.where(2), 0);
        CHECK.due("gone", x.gate(0, 3) + x.gate(1, 3) + x.gate(2, 3) + x.gate(3, 3), 9);
        CHECK.due("that can be UNDONE", x.count(6), 0);
    }

    /** Promise 22: "BAD"; "z (0 to 9999)", "n (1 to 99)", "(p = -1)" */
    private static void dayBad() {
        for (int many = 1; many <= 3; many++) {
            OddLetsIn x = Check.laid("g0,1,0,1;n" + many + ";");
            for (int p = -4; p <= 5; p++) {
                CHECK.due("day(0, 1, " + p + ")", x.day(0, 1, p), p < -1 || p >= many ? BAD : 0);
            }
            for (int n = -2; n <= 102; n++) {
                CHECK.due("day(0, " + n + ", -1)", x.day(0, n, -1), n < 1 || n > 99 ? BAD : 0);
            }
            int[] days = {-2, -1, 0, 1, 9998, 9999, 10000, 10001};
            for (int z : days) {
                CHECK.due("day(" + z + ", 1, 0)", x.day(z, 1, 0), z < 0 || z > 9999 ? BAD : 0);
            }
            int[] far = {Integer.MIN_VALUE, Integer.MAX_VALUE};
            for (int i : far) {
                CHECK.due("day(" + i + ", 1, -1)", x.day(i, 1, -1), BAD);
                CHECK.due("day(0, " + i + ", -1)", x.day(0, i, -1), BAD);
                CHECK.due("day(0, 1, " + i + ")", x.day(0, 1, i), BAD);
            }
        }
    }

    /** "KEPT .. 2 at most"; promise 23: "FULL" */
    private static void keepTwoAtMost() {
        OddLetsIn x = Check.laid("g2,3,0,0;g0,1,3,0;n1;");
        CHECK.due("keep()", x.keep(), 1);
        x.linger(0, 1);
        CHECK.due("keep()", x.keep(), 2);
        x.linger(0, 1);
        CHECK.due("keep() of a third", x.keep(), FULL);
        CHECK.due("KEPT", x.count(7), 2);
        CHECK.due("FULL: back()", x.back(), 1);
        CHECK.due("FULL: fines as kept last", x.count(2), 1);
        CHECK.due("keep() where there is room again", x.keep(), 2);
        CHECK.due("keep() of a third", x.keep(), FULL);
        CHECK.due("back()", x.back(), 1);
        CHECK.due("back()", x.back(), 0);
        CHECK.due("fines as kept first", x.count(2), 0);
    }

    /** Promise 24: "NO" */
    private static void backNo() {
        OddLetsIn x = Check.laid("g0,1,0,0;n1;");
        x.pass(0, 0);
        CHECK.due("back() of nothing", x.back(), NO);
        CHECK.due("NO: where(0)", x.where(0), 1);
        CHECK.due("NO: that can be UNDONE", x.count(6), 1);
        x.keep();
        CHECK.due("back()", x.back(), 0);
        CHECK.due("back() again", x.back(), NO);
        x.keep();
        x.lay();
        CHECK.due("back() when laid", x.back(), NO);
        CHECK.due("new: back()", new OddLetsIn().back(), NO);
    }

    /** Promise 24: "As KEPT last (it is KEPT no more then): how many are left" */
    private static void backAsKeptLast() {
        OddLetsIn x = Check.laid("g2,3,0,0;g0,1,3,0;g0,2,0,0;n3;");
        x.pass(0, 1);
        x.keep();
        x.linger(1, 1);
        x.pass(2, 2);
        x.keep();
        x.pass(0, 1);
        x.linger(1, 1);
        CHECK.due("back()", x.back(), 1);
        CHECK.due("where", x.where(0) + 10 * x.where(1) + 100 * x.where(2), 201);
        CHECK.due("gone", x.gate(1, 3) + 10 * x.gate(2, 3), 12);
        CHECK.due("fines", x.count(2), 1);
        x.pass(1, 1);
        CHECK.due("back()", x.back(), 0);
        CHECK.due("where", x.where(0) + 10 * x.where(1) + 100 * x.where(2), 1);
        CHECK.due("gone", x.gate(1, 3) + 10 * x.gate(2, 3), 1);
        CHECK.due("fines", x.count(2), 0);
        CHECK.due("gate 2 is open again", x.can(2, 2), 1);
        CHECK.due("KEPT", x.count(7), 0);
    }

    /** Promise 24: "nothing is UNDONE then" */
    private static void backUndoesNothing() {
        OddLetsIn x = Check.laid("g2,3,0,0;g0,1,3,0;n1;");
        x.pass(0, 1);
        CHECK.due("keep() leaves what can be UNDONE", x.keep() + 10 * x.count(6), 11);
        x.pass(0, 1);
        CHECK.due("that can be UNDONE", x.count(6), 2);
        x.back();
        CHECK.due("that can be UNDONE", x.count(6), 0);
        CHECK.due("undo()", x.undo(), NO);
        CHECK.due("where(0)", x.where(0), 1);
        x.pass(0, 1);
        CHECK.due("undo() of what is done behind it", x.undo(), 0);
        CHECK.due("where(0)", x.where(0), 1);
    }

    /** "KEPT are GATES as they stand, where PERSONS are, fines": nothing else is. */
    private static void backLeavesTheRest() {
        OddLetsIn x = new OddLetsIn();
        x.seen(0, true);
        x.path(0);
        x.keep();
        x.seen(1, true);
        x.path(1);
        x.path(1);
        Check.write(x, "n1;");
        x.back();
        int[] counts = {2, 2, 0, 2, 2, 3, 0, 0, 3};
        for (int what = 0; what < counts.length; what++) {
            CHECK.due("count(" + what + ")", x.count(what), counts[what]);
        }
        x.keep();
        x.forget();
        x.noPath();
        x.wipe();
        x.back();
        CHECK.due("SEEN", x.count(4), 0);
        CHECK.due("GATES of THE PATH", x.count(5), 0);
        CHECK.due("bytes of THE TEXT", x.count(8), 0);
    }

    /** Promise 25: "BAD" */
    private static void countBad() {
        OddLetsIn x = new OddLetsIn();
        for (int what = -3; what <= 12; what++) {
            boolean good = what >= 0 && what <= 8;
            CHECK.due("count(" + what + ") BAD", x.count(what) == BAD ? 1 : 0, good ? 0 : 1);
        }
        CHECK.due("count(MIN)", x.count(Integer.MIN_VALUE), BAD);
        CHECK.due("count(MAX)", x.count(Integer.MAX_VALUE), BAD);
    }
}
