/**
 * The edges that part 1 of the document and promises 1 to 7 name: a test for each sentence, which
 * stands above it.
 */
public final class TextEdgesTest {
    private static final Check CHECK = new Check("TextEdgesTest");
    private static final int BAD = OddLetsIn.BAD;
    private static final int NO = OddLetsIn.NO;
    private static final int FULL = OddLetsIn.FULL;
    private static final int NONE = OddLetsIn.NONE;
    private static final int LONGEST = 200;
    private static final String GATE = "g0,1,0,0;";
    private static final String FIVE = "g0,1,0,0;g1,2,1,1;g2,3,2,3;g3,4,3,4;g4,0,4,5;";

    public static void main(String[] args) {
        textHoldsTwoHundredBytes();
        itemIsALetter();
        numberHasOneOrTwoFigures();
        numbersAreParted();
        semicolonStandsBehindTheLastOne();
        noByteOfAGateCanBeAnother();
        noByteOfPersonsCanBeAnother();
        courtsAreZeroToFourUnlike();
        kindIsZeroToFour();
        firstGateIsNoCopy();
        ninetyNineHaveGoneAtMost();
        fiveGatesAtMost();
        oneToThreePersons();
        twoPersonsWithout();
        lastPersonsCount();
        faultIsOfTheFirstItem();
        faultIsTheFirstByteOfItsItem();
        faultFromPlaceZeroToTheLast();
        newObjectIsAsTold();
        writeOneToEightBytes();
        writeTakesTheLowestBytes();
        writeBadOrFull();
        wipeEmptyAndFull();
        wipeLeavesNoByte();
        faultNone();
        faultLaysNothing();
        layNoWithFaultOrWithoutGate();
        layNoChangesNothing();
        layForgetsWhatWas();
        layLeavesTheText();
        gateBad();
        gateOfThoseLaidAlone();
        whereBad();
        CHECK.end();
    }

    private static void dueFault(String text, int want) {
        OddLetsIn x = new OddLetsIn();
        Check.write(x, text);
        CHECK.due("fault() of " + text, x.fault(), want);
    }

    /** "A TEXT is bytes (200 at most)" */
    private static void textHoldsTwoHundredBytes() {
        OddLetsIn x = new OddLetsIn();
        for (int length = 1; length <= LONGEST; length++) {
            CHECK.due("write one more", x.write(1, 'n'), length);
        }
        CHECK.due("byte 201", x.write(1, 'n'), FULL);
        CHECK.due("bytes of THE TEXT", x.count(8), LONGEST);
    }

    /** "ITEMS one behind the other, each a letter, ..": g or n, and no other byte. */
    private static void itemIsALetter() {
        for (char sign = 0; sign < 256; sign++) {
            dueFault(sign + "0,1,0,0;", sign == 'g' ? NONE : 0);
            dueFault(sign + "1;", sign == 'n' ? NONE : 0);
            dueFault(GATE + sign, GATE.length());
        }
    }

    /** "numbers (one or two figures)" */
    private static void numberHasOneOrTwoFigures() {
        String[] figures = {"", "2", "02", "002", "0000000002"};
        for (String number : figures) {
            int want = number.length() == 1 || number.length() == 2 ? NONE : 0;
            dueFault("g" + number + ",1,0,0;", want);
            dueFault("g1," + number + ",0,0;", want);
            dueFault("g0,1," + number + ",0;", want);
            dueFault("g0,1,0," + number + ";", want);
            dueFault("n" + number + ";", want);
        }
    }

    /** "numbers .. parted by ,": four in a gate, one of persons. */
    private static void numbersAreParted() {
        String[] faulty = {"g;", "g0;", "g0,1;", "g0,1,0;", "g0,1,0,0,0;", "g,;", "g0,1,0,;",
            "g,0,1,0,0;", "g0,,1,0,0;", "g0,1,0,0,;", "g0;1;0;0;", "g0 1 0 0;", "g0.1.0.0;",
            "g 0,1,0,0;", "g0,1,0,0 ;", "g+0,1,0,0;", "g0,1,0,-0;", "n,;", "n1,;", "n1,1;", "n,1;",
            "n 1;", "n1 ;", "n+1;", "n-1;", "n0x1;"};
        for (String text : faulty) {
            dueFault(text, 0);
            dueFault("n1;" + text, 3);
        }
    }

    /** "; (behind the last one, too)" */
    private static void semicolonStandsBehindTheLastOne() {
        dueFault("g0,1,0,0", 0);
        dueFault("n1", 0);
        dueFault(GATE + "n1", 9);
        dueFault("n1;" + "g0,1,0,0", 3);
        dueFault("g0,1,0,0" + GATE, 0);
        dueFault("n1n1;", 0);
        dueFault(";" + GATE, 0);
        dueFault(GATE + ";", 9);
        dueFault(GATE + ";n1;", 9);
    }

    private static void noByteOfAGateCanBeAnother() {
        String[] allowed = {"g", "0234", ",", "1234", ",", "0124", ",", "0123456789", ";"};
        dueBytes(GATE, allowed);
    }

    private static void noByteOfPersonsCanBeAnother() {
        dueBytes("n2;", new String[] {"n", "123", ";"});
    }

    /** Each byte of 256 at each place: a fault, unless it is one of those that are allowed there. */
    private static void dueBytes(String text, String[] allowed) {
        for (int place = 0; place < text.length(); place++) {
            for (char sign = 0; sign < 256; sign++) {
                String other = text.substring(0, place) + sign + text.substring(place + 1);
                dueFault(other, allowed[place].indexOf(sign) >= 0 ? NONE : 0);
            }
        }
    }

    /** "COURTS A and B (0 to 4, unlike)" */
    private static void courtsAreZeroToFourUnlike() {
        for (int a = 0; a < 100; a++) {
            for (int b = 0; b < 100; b++) {
                boolean good = a <= 4 && b <= 4 && a != b;
                dueFault("g" + a + "," + b + ",0,0;", good ? NONE : 0);
            }
        }
    }

    /** "KIND K (0 EVEN, 1 ODD, 2 THREES, 3 COPY, 4 ONE WAY ..)" */
    private static void kindIsZeroToFour() {
        for (int kind = 0; kind < 100; kind++) {
            dueFault(GATE + "g0,1," + kind + ",0;", kind <= 4 ? NONE : 9);
        }
    }

    /** "the first one is no COPY" */
    private static void firstGateIsNoCopy() {
        dueFault("g0,1,3,0;", 0);
        dueFault("g0,1,03,0;", 0);
        dueFault("n1;g0,1,3,0;", 3);
        dueFault("g0,1,3,0;" + GATE, 0);
        for (int kind = 0; kind <= 4; kind++) {
            dueFault("g0,1," + kind + ",0;g1,2,3,0;", kind == 3 ? 0 : NONE);
        }
        dueFault(GATE + "g0,1,3,0;g0,1,3,0;g0,1,3,0;g0,1,3,0;", NONE);
        dueFault(GATE + "n1;g0,1,3,0;", NONE);
    }

    /** "through which I (0 to 99) have gone" */
    private static void ninetyNineHaveGoneAtMost() {
        for (int gone = 0; gone <= 110; gone++) {
            dueFault("g0,1,0," + gone + ";", gone <= 99 ? NONE : 0);
            OddLetsIn x = Check.laid("g0,1,0," + gone + ";");
            CHECK.due("gone through it", x.gate(0, 3), gone <= 99 ? gone : 0);
        }
        dueFault("g0,1,0,-1;", 0);
    }

    /** "5 at most, 0, 1, .." */
    private static void fiveGatesAtMost() {
        dueFault(FIVE, NONE);
        dueFault(FIVE + GATE, 45);
        dueFault("n1;" + FIVE + "n1;" + GATE, 51);
        dueFault(FIVE + GATE + "x", 45);
        StringBuilder text = new StringBuilder();
        for (int gates = 1; gates <= 5; gates++) {
            text.append("g").append(gates % 5).append(",").append((gates + 2) % 5).append(",0,1")
                    .append(gates).append(";");
            OddLetsIn x = Check.laid(text.toString());
            CHECK.due("gates", x.count(0), gates);
            for (int g = 0; g < gates; g++) {
                CHECK.due("A of gate " + g, x.gate(g, 0), (g + 1) % 5);
                CHECK.due("B of gate " + g, x.gate(g, 1), (g + 3) % 5);
                CHECK.due("gone through gate " + g, x.gate(g, 3), 11 + g);
            }
            CHECK.due("a gate more", x.gate(gates, 0), BAD);
        }
    }

    /** "nN there are N PERSONS (1 to 3 ..), 0, 1, .., in COURT 0" */
    private static void oneToThreePersons() {
        for (int many = 0; many < 100; many++) {
            boolean good = many >= 1 && many <= 3;
            dueFault("n" + many + ";", good ? NONE : 0);
            OddLetsIn x = Check.laid(GATE + "n" + many + ";");
            CHECK.due("persons", x.count(1), good ? many : 2);
            for (int p = 0; p < x.count(1); p++) {
                CHECK.due("where(" + p + ")", x.where(p), 0);
            }
            CHECK.due("a person more", x.where(x.count(1)), BAD);
        }
    }

    /** "(.. 2 without ..)" */
    private static void twoPersonsWithout() {
        OddLetsIn x = Check.laid(GATE + "n3;");
        CHECK.due("persons told", x.count(1), 3);
        x.wipe();
        Check.write(x, GATE);
        x.lay();
        CHECK.due("persons untold", x.count(1), 2);
    }

    /** "(.. of several the last one counts)" */
    private static void lastPersonsCount() {
        CHECK.due("n1;n3;", Check.laid("n1;" + GATE + "n3;").count(1), 3);
        CHECK.due("n3;n1;", Check.laid("n3;" + GATE + "n1;").count(1), 1);
        CHECK.due("n3;n1;n2;", Check.laid(GATE + "n3;n1;n2;").count(1), 2);
        dueFault("n1;n4;n2;", 3);
    }

    /** "of the first ITEM that is not so": one that would be so but for those ahead counts, too. */
    private static void faultIsOfTheFirstItem() {
        dueFault("n0;n4;", 0);
        dueFault("n1;n0;g0,0,0,0;", 3);
        dueFault(GATE + "g0,0,0,0;n0;", 9);
        dueFault(FIVE + GATE + "n0;", 45);
        dueFault(FIVE + "n0;" + GATE, 45);
        dueFault("g0,1,3,0;g0,1,3,0;", 0);
        dueFault("g0,5,0,0;n1;", 0);
    }

    /** "the place (from 0 on) of the first byte": of the item, not the byte that is wrong. */
    private static void faultIsTheFirstByteOfItsItem() {
        String text = "n3;g0,1,0,10;g1,2,3,5;n1;";
        int[] starts = {0, 3, 13, 22, 25};
        for (int length = 0; length <= text.length(); length++) {
            int start = 0;
            for (int i : starts) {
                start = i <= length ? i : start;
            }
            dueFault(text.substring(0, length), start == length ? NONE : start);
        }
        dueFault(text + "g0,1,0,100;", 25);
    }

    /** FAULT from place 0 on to the last one. */
    private static void faultFromPlaceZeroToTheLast() {
        dueFault("x" + FIVE, 0);
        String text = "g0,1,0,10;" + "n1;".repeat(63);
        dueFault(text + "n", 199);
        dueFault(text + "x", 199);
        dueFault(text, NONE);
        dueFault("g0,1,0,10;g0,1,0,10;" + "n1;".repeat(60), NONE);
        dueFault("g0,1,0,10;g0,1,0,10;" + "n1;".repeat(59) + "n1,", 197);
        dueFault("x".repeat(200), 0);
    }

    /** Promise 1: "As told; THE TEXT is empty"; "at first g0,1,0,0;g1,2,1,1;" */
    private static void newObjectIsAsTold() {
        OddLetsIn x = new OddLetsIn();
        OddLetsIn told = Check.laid("g0,1,0,0;g1,2,1,1;");
        for (int what = 0; what < 8; what++) {
            CHECK.due("new: count(" + what + ")", x.count(what), told.count(what));
        }
        for (int what = 0; what < 6; what++) {
            CHECK.due("new: gate(0, " + what + ")", x.gate(0, what), told.gate(0, what));
            CHECK.due("new: gate(1, " + what + ")", x.gate(1, what), told.gate(1, what));
        }
        CHECK.due("new: bytes of THE TEXT", x.count(8), 0);
        CHECK.due("new: lay()", x.lay(), NO);
        CHECK.due("new: wipe()", x.wipe(), 0);
        CHECK.due("new: undo()", x.undo(), NO);
        CHECK.due("new: back()", x.back(), NO);
        CHECK.due("new: gate 2", x.gate(2, 0), BAD);
        CHECK.due("new: person 2", x.where(2), BAD);
    }

    /** Promise 2: "n bytes (1 to 8)", "BAD" */
    private static void writeOneToEightBytes() {
        for (int n = -9; n <= 17; n++) {
            OddLetsIn x = new OddLetsIn();
            int want = n >= 1 && n <= 8 ? n : BAD;
            CHECK.due("write(" + n + ", 0)", x.write(n, 0), want);
            CHECK.due("bytes", x.count(8), want == BAD ? 0 : n);
        }
        int[] far = {Integer.MIN_VALUE, Integer.MIN_VALUE + 1, -256, 256, 264, Integer.MAX_VALUE};
        for (int n : far) {
            CHECK.due("write(" + n + ", 0)", new OddLetsIn().write(n, 0), BAD);
        }
    }

    /** Promise 2: "The lowest n bytes of v, the highest of these first, come behind THE TEXT" */
    private static void writeTakesTheLowestBytes() {
        String text = "g0,3,2,15;g3,2,0,7;n3;n1;";
        long[] above = {0L, -1L, Long.MIN_VALUE, Long.MAX_VALUE, 0x3B3B3B3B3B3B3B3BL};
        for (int n = 1; n <= 8; n++) {
            for (long high : above) {
                OddLetsIn x = new OddLetsIn();
                for (int at = 0; at < text.length(); at += n) {
                    int many = Math.min(n, text.length() - at);
                    long v = high;
                    for (int i = 0; i < many; i++) {
                        v = v << 8 | text.charAt(at + i);
                    }
                    CHECK.due("write", x.write(many, v), at + many);
                }
                CHECK.due("lay()", x.lay(), 2);
                CHECK.due("gone through 0", x.gate(0, 3), 15);
                CHECK.due("A of 1", x.gate(1, 0), 3);
                CHECK.due("persons", x.count(1), 1);
            }
        }
    }

    /** Promise 2: "BAD; FULL": FULL, if not all n have room, and then none of them comes. */
    private static void writeBadOrFull() {
        for (int room = 0; room <= 9; room++) {
            for (int n = 1; n <= 8; n++) {
                OddLetsIn x = new OddLetsIn();
                Check.write(x, "n1;".repeat(70).substring(0, LONGEST - room));
                int want = n <= room ? LONGEST - room + n : FULL;
                int fault = x.fault();
                CHECK.due("write " + n + " where " + room + " have room", x.write(n, 0), want);
                CHECK.due("bytes", x.count(8), want == FULL ? LONGEST - room : want);
                CHECK.due("the text is as it was", want == FULL ? x.fault() : fault, fault);
                CHECK.due("BAD before FULL", x.write(0, 0), BAD);
                CHECK.due("BAD before FULL", x.write(9, 0), BAD);
            }
        }
    }

    /** Promise 3: "THE TEXT is empty: how long it was." */
    private static void wipeEmptyAndFull() {
        OddLetsIn x = new OddLetsIn();
        CHECK.due("wipe() of nothing", x.wipe(), 0);
        for (int length = 8; length <= LONGEST; length += 8) {
            x.write(8, -1);
        }
        CHECK.due("wipe() of a full one", x.wipe(), LONGEST);
        CHECK.due("bytes", x.count(8), 0);
        CHECK.due("fault() of nothing", x.fault(), NONE);
        CHECK.due("lay() of nothing", x.lay(), NO);
        CHECK.due("wipe() again", x.wipe(), 0);
        CHECK.due("write behind it", x.write(8, 0), 8);
    }

    /** Promise 3: "THE TEXT is empty": what stood there ends no item any more. */
    private static void wipeLeavesNoByte() {
        String text = "g0,1,0,1;n3;";
        for (int length = 0; length <= text.length(); length++) {
            OddLetsIn x = new OddLetsIn();
            Check.write(x, text);
            x.wipe();
            Check.write(x, text.substring(0, length));
            int want = length == 0 || length == 9 || length == 12 ? NONE : length < 9 ? 0 : 9;
            CHECK.due("fault() of " + length + " bytes behind wipe()", x.fault(), want);
            CHECK.due("lay()", x.lay(), want == NONE && length > 0 ? 1 : NO);
        }
    }

    /** Promise 4: "FAULT. NONE." */
    private static void faultNone() {
        dueFault("", NONE);
        dueFault("n1;", NONE);
        dueFault(FIVE + "n3;", NONE);
        OddLetsIn x = new OddLetsIn();
        Check.write(x, "g0,1,0,1;n1");
        CHECK.due("fault()", x.fault(), 9);
        CHECK.due("fault() again", x.fault(), 9);
        Check.write(x, ";");
        CHECK.due("no fault any more", x.fault(), NONE);
        CHECK.due("nothing is laid by it", x.gate(0, 3), 0);
        CHECK.due("nobody is away by it", x.count(1), 2);
    }

    /** A TEXT that is not LAID, with or without FAULT, is no garden: all is as what is laid. */
    private static void faultLaysNothing() {
        String[] texts = {"g0,1,0,1;n1;", "g0,1,0,1;n1;x", "n1;", ""};
        for (String text : texts) {
            OddLetsIn x = Check.laid("g1,2,0,0;g0,1,3,0;g0,2,0,0;n3;");
            x.wipe();
            Check.write(x, text);
            x.fault();
            CHECK.due("can(2, 2)", x.can(2, 2), 1);
            x.fault();
            CHECK.due("pass(2, 1)", x.pass(2, 1), 1);
            x.fault();
            CHECK.due("linger(2, 0)", x.linger(2, 0), 1);
            x.fault();
            CHECK.due("day(0, 1, 2)", x.day(0, 1, 2), 1);
            x.fault();
            CHECK.due("wrong()", x.wrong(), 32 + 7);
            x.fault();
            CHECK.due("odds of gate 2", x.odds(2, 1, 5, 1), 2);
            x.fault();
            CHECK.due("mend(4, 0)", x.mend(4, 0), 0);
            x.fault();
            CHECK.due("seen(2, true)", x.seen(2, true), 1);
            x.fault();
            CHECK.due("path(2)", x.path(2), 1);
            x.fault();
            CHECK.due("guests(0, 0)", x.guests(0, 0), 60);
            x.fault();
            CHECK.due("undo()", x.undo(), 1);
            CHECK.due("where(2)", x.where(2), 1);
        }
    }

    /** Promise 5: "NO"; "LAID is a TEXT without FAULT, of a GATE at least (NO else ..)" */
    private static void layNoWithFaultOrWithoutGate() {
        String[] texts = {"", "n1;", "n1;n2;n3;", "g0,1,3,0;", GATE + "x", GATE + "n0;", GATE + "n1",
            FIVE + GATE, "x" + GATE};
        for (String text : texts) {
            CHECK.due("lay() of " + text, written(text).lay(), NO);
        }
        CHECK.due("lay() of one gate", written(GATE).lay(), 1);
        CHECK.due("lay() of five", written(FIVE).lay(), 5);
        CHECK.due("lay() behind persons", written("n1;" + GATE).lay(), 1);
    }

    private static OddLetsIn written(String text) {
        OddLetsIn x = new OddLetsIn();
        Check.write(x, text);
        return x;
    }

    private static OddLetsIn lived() {
        OddLetsIn x = Check.laid("g0,1,0,0;g0,1,3,0;g0,2,4,0;n3;");
        x.keep();
        x.linger(0, 1);
        x.pass(1, 1);
        x.pass(2, 2);
        x.seen(1, true);
        x.path(0);
        x.wrong();
        return x;
    }

    /** Promise 5: "NO"; "nothing changes then" */
    private static void layNoChangesNothing() {
        String[] texts = {"", "n1;", GATE + "n1", GATE + "g0,1,0,1;x"};
        for (String text : texts) {
            OddLetsIn x = lived();
            x.wipe();
            Check.write(x, text);
            CHECK.due("lay() of " + text, x.lay(), NO);
            int[] counts = {3, 3, 1, 2, 1, 1, 3, 1, text.length()};
            for (int what = 0; what < counts.length; what++) {
                CHECK.due("NO: count(" + what + ")", x.count(what), counts[what]);
            }
            CHECK.due("NO: where", x.where(0) + 10 * x.where(1) + 100 * x.where(2), 210);
            CHECK.due("NO: gone", x.gate(0, 3) + 10 * x.gate(1, 3) + 100 * x.gate(2, 3), 120);
            CHECK.due("NO: undo()", x.undo(), 2);
            CHECK.due("NO: back()", x.back(), 0);
            CHECK.due("NO: gone as kept", x.gate(1, 3) + x.gate(2, 3), 0);
        }
    }

    /** Promise 5: "no fines, nothing SEEN, no PATH, nothing UNDONE, KEPT" */
    private static void layForgetsWhatWas() {
        OddLetsIn x = lived();
        CHECK.due("lay()", x.lay(), 3);
        CHECK.due("no fines", x.count(2), 0);
        CHECK.due("nothing SEEN", x.count(4), 0);
        CHECK.due("no PATH", x.count(5), 0);
        CHECK.due("nothing UNDONE", x.count(6), 0);
        CHECK.due("nothing KEPT", x.count(7), 0);
        CHECK.due("undo()", x.undo(), NO);
        CHECK.due("back()", x.back(), NO);
        CHECK.due("forget()", x.forget(), 0);
        CHECK.due("noPath()", x.noPath(), 0);
        CHECK.due("wrong()", x.wrong(), 32 + 7);
        for (int p = 0; p < 3; p++) {
            CHECK.due("persons are in court 0", x.where(p), 0);
            CHECK.due("as many have gone as told", x.gate(p, 3), 0);
        }
        CHECK.due("fines begin anew", x.linger(0, 1), 1);
        CHECK.due("keep() begins anew", x.keep(), 1);
    }

    /** Promise 5: "(THE TEXT stays)" */
    private static void layLeavesTheText() {
        OddLetsIn x = Check.laid("g0,1,0,0;n1;");
        CHECK.due("bytes", x.count(8), 12);
        Check.write(x, "g1,2,0,0;");
        CHECK.due("lay() with one more", x.lay(), 2);
        Check.write(x, "n");
        CHECK.due("lay() with a fault", x.lay(), NO);
        CHECK.due("bytes", x.count(8), 22);
        CHECK.due("wipe() leaves what is laid", x.wipe(), 22);
        CHECK.due("gates", x.count(0), 2);
    }

    /** Promise 6: "BAD" */
    private static void gateBad() {
        OddLetsIn x = Check.laid(FIVE);
        for (int g = -3; g <= 8; g++) {
            for (int what = -3; what <= 9; what++) {
                boolean good = g >= 0 && g <= 4 && what >= 0 && what <= 5;
                CHECK.due("gate(" + g + ", " + what + ") BAD", x.gate(g, what) == BAD ? 1 : 0,
                        good ? 0 : 1);
            }
        }
        int[] far = {Integer.MIN_VALUE, Integer.MAX_VALUE};
        for (int i : far) {
            CHECK.due("gate(" + i + ", 0)", x.gate(i, 0), BAD);
            CHECK.due("gate(0, " + i + ")", x.gate(0, i), BAD);
        }
    }

    /** "(GATES, PERSONS: such as there are ..)": none that were laid before. */
    private static void gateOfThoseLaidAlone() {
        OddLetsIn x = Check.laid(FIVE + "n3;");
        x.wipe();
        Check.write(x, GATE + "n1;");
        x.lay();
        CHECK.due("gate(0, 1)", x.gate(0, 1), 1);
        for (int i = 1; i < 5; i++) {
            CHECK.due("gate", x.gate(i, 0), BAD);
            CHECK.due("where", x.where(i), BAD);
            CHECK.due("can: gate", x.can(0, i), BAD);
            CHECK.due("can: person", x.can(i, 0), BAD);
            CHECK.due("pass: gate", x.pass(0, i), BAD);
            CHECK.due("linger: person", x.linger(i, 0), BAD);
            CHECK.due("seen", x.seen(i, true), BAD);
            CHECK.due("path", x.path(i), BAD);
            CHECK.due("odds", x.odds(i, 1, 1, 0), BAD);
            CHECK.due("day", x.day(0, 1, i), BAD);
            CHECK.due("mend", x.mend(1 << i, 0), BAD);
            CHECK.due("guests", x.guests(1 << i, 0), BAD);
        }
    }

    /** Promise 7: "BAD" */
    private static void whereBad() {
        for (int many = 1; many <= 3; many++) {
            OddLetsIn x = Check.laid(GATE + "n" + many + ";");
            int[] far = {-1, -2, many, many + 1, 3, 4, Integer.MIN_VALUE, Integer.MAX_VALUE};
            for (int p : far) {
                CHECK.due("where(" + p + ") of " + many, x.where(p), BAD);
            }
            for (int p = 0; p < many; p++) {
                CHECK.due("where(" + p + ") of " + many, x.where(p), 0);
            }
        }
    }
}
