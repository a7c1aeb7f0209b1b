/** Promises 1 to 7. */
public final class GardensTest {
    private static final Check CHECK = new Check("GardensTest");
    private static final int BAD = OddLetsIn.BAD;
    private static final int NO = OddLetsIn.NO;
    private static final int FULL = OddLetsIn.FULL;
    private static final int NONE = OddLetsIn.NONE;

    public static void main(String[] args) {
        constants();
        newObject();
        write();
        wipe();
        fault();
        lay();
        gate();
        openByKind();
        where();
        CHECK.end();
    }

    private static void constants() {
        CHECK.due("BAD", BAD, -1);
        CHECK.due("NO", NO, -2);
        CHECK.due("FULL", FULL, -3);
        CHECK.due("NONE", NONE, -4);
    }

    private static void newObject() {
        OddLetsIn x = new OddLetsIn();
        int[] counts = {2, 2, 0, 2, 0, 0, 0, 0, 0};
        for (int what = 0; what < counts.length; what++) {
            CHECK.due("new: count(" + what + ")", x.count(what), counts[what]);
        }
        dueGate(x, 0, 0, 1, 0, 0, 1, 1);
        dueGate(x, 1, 1, 2, 1, 1, 1, 1);
        CHECK.due("new: where(0)", x.where(0), 0);
        CHECK.due("new: where(1)", x.where(1), 0);
        CHECK.due("new: where(2)", x.where(2), BAD);
        CHECK.due("new: fault()", x.fault(), NONE);
        CHECK.due("new: lay()", x.lay(), NO);
        CHECK.due("new: wipe()", x.wipe(), 0);
    }

    private static void write() {
        OddLetsIn x = new OddLetsIn();
        CHECK.due("write(0)", x.write(0, 1), BAD);
        CHECK.due("write(9)", x.write(9, 1), BAD);
        CHECK.due("write(-1)", x.write(-1, 1), BAD);
        CHECK.due("write(MIN)", x.write(Integer.MIN_VALUE, 1), BAD);
        CHECK.due("write(MAX)", x.write(Integer.MAX_VALUE, 1), BAD);
        CHECK.due("write n2;", x.write(3, 0x6E323BL), 3);
        CHECK.due("only the lowest bytes count", x.write(3, 0xFFFFFFFF6E313BL), 6);
        CHECK.due("fault()", x.fault(), NONE);
        CHECK.due("a negative number", x.write(8, -1L), 14);
        CHECK.due("fault behind it", x.fault(), 6);
        for (int length = 22; length <= 198; length += 8) {
            CHECK.due("write to " + length, x.write(8, 0), length);
        }
        CHECK.due("write 8 at 198", x.write(8, 0), FULL);
        CHECK.due("write 3 at 198", x.write(3, 0), FULL);
        CHECK.due("BAD before FULL", x.write(9, 0), BAD);
        CHECK.due("count(8)", x.count(8), 198);
        CHECK.due("write 2 at 198", x.write(2, 0), 200);
        CHECK.due("write 1 at 200", x.write(1, 0), FULL);
        CHECK.due("count(8) full", x.count(8), 200);
    }

    private static void wipe() {
        OddLetsIn x = new OddLetsIn();
        Check.write(x, "g0,1,0,0;");
        CHECK.due("wipe()", x.wipe(), 9);
        CHECK.due("wipe() again", x.wipe(), 0);
        CHECK.due("count(8)", x.count(8), 0);
        Check.write(x, "n1;");
        CHECK.due("fault() behind wipe", x.fault(), NONE);
        CHECK.due("wipe() behind write", x.wipe(), 3);
    }

    private static void fault() {
        dueFault("", NONE);
        dueFault("g0,1,0,0;", NONE);
        dueFault("g4,0,4,99;g3,4,3,0;n3;n1;", NONE);
        dueFault("g00,01,02,03;n02;", NONE);
        dueFault("n1;n2;n3;", NONE);
        dueFault("n0;", 0);
        dueFault("n4;", 0);
        dueFault("n;", 0);
        dueFault("n1", 0);
        dueFault("n2,", 0);
        dueFault("n002;", 0);
        dueFault("n1;n1", 3);
        dueFault("n1; n1;", 3);
        dueFault(";", 0);
        dueFault("n1;;", 3);
        dueFault("N1;", 0);
        dueFault("h0,1,0,0;", 0);
        dueFault("\u00e70,1,0,0;", 0);
        dueFault("g5,1,0,0;", 0);
        dueFault("g0,5,0,0;", 0);
        dueFault("g1,1,0,0;", 0);
        dueFault("g0,1,5,0;", 0);
        dueFault("g0,1,0,100;", 0);
        dueFault("g000,1,0,0;", 0);
        dueFault("g0,1,0,-1;", 0);
        dueFault("g0,1,0;", 0);
        dueFault("g0,1,0,0,0;", 0);
        dueFault("g0;1,0,0;", 0);
        dueFault("g0,1,0,0", 0);
        dueFault("g0,1,0,", 0);
        dueFault("g", 0);
        dueFault("g,1,0,0;", 0);
        dueFault("g0,1,3,0;", 0);
        dueFault("n1;g0,1,3,0;", 3);
        dueFault("g0,1,0,0;g0,1,3,0;", NONE);
        dueFault("g0,1,0,0;g0,1,0,0;x", 18);
        String five = "g0,1,0,0;g1,2,1,1;g2,3,2,3;g3,4,3,4;g4,0,4,5;";
        dueFault(five, NONE);
        dueFault(five + "n3;", NONE);
        dueFault(five + "g0,1,0,0;", 45);
        dueFault(five + "n3;g0,1,0,0;n9;", 48);
    }

    private static void dueFault(String text, int want) {
        OddLetsIn x = new OddLetsIn();
        Check.write(x, text);
        CHECK.due("fault() of " + text, x.fault(), want);
        boolean canBeLaid = want == NONE && text.contains("g");
        CHECK.due("lay() of " + text, x.lay() == NO ? 0 : 1, canBeLaid ? 1 : 0);
        CHECK.due("wipe() of " + text, x.wipe(), text.length());
    }

    private static void lay() {
        OddLetsIn x = new OddLetsIn();
        x.pass(0, 0);
        x.linger(0, 1);
        x.seen(0, true);
        x.path(1);
        x.keep();
        x.wrong();
        Check.write(x, "n3;");
        CHECK.due("lay() without a gate", x.lay(), NO);
        CHECK.due("nothing changes: persons", x.count(1), 2);
        CHECK.due("nothing changes: fines", x.count(2), 1);
        CHECK.due("nothing changes: seen", x.count(4), 1);
        CHECK.due("nothing changes: path", x.count(5), 1);
        CHECK.due("nothing changes: undone", x.count(6), 2);
        CHECK.due("nothing changes: kept", x.count(7), 1);
        CHECK.due("nothing changes: where", x.where(0), 1);
        x.wrong();
        Check.write(x, "g0,3,2,9;g3,1,3,7;");
        CHECK.due("lay()", x.lay(), 2);
        int[] counts = {2, 3, 0, 2, 0, 0, 0, 0, 21};
        for (int what = 0; what < counts.length; what++) {
            CHECK.due("laid: count(" + what + ")", x.count(what), counts[what]);
        }
        dueGate(x, 0, 0, 3, 2, 9, 1, 1);
        dueGate(x, 1, 3, 1, 3, 7, 1, 1);
        for (int p = 0; p < 3; p++) {
            CHECK.due("laid: where(" + p + ")", x.where(p), 0);
        }
        CHECK.due("laid: undo()", x.undo(), NO);
        CHECK.due("laid: back()", x.back(), NO);
        x.pass(0, 0);
        CHECK.due("lay() again", x.lay(), 2);
        CHECK.due("laid again: where(0)", x.where(0), 0);
        CHECK.due("laid again: gone", x.gate(0, 3), 9);
        x.wipe();
        Check.write(x, "g0,1,1,0;");
        CHECK.due("lay() one gate, persons untold", x.lay(), 1);
        CHECK.due("persons untold", x.count(1), 2);
        CHECK.due("gate(1, 0) is none now", x.gate(1, 0), BAD);
        Check.write(x, "!");
        CHECK.due("lay() with a fault", x.lay(), NO);
    }

    private static void gate() {
        OddLetsIn x = Check.laid("g4,2,4,10;g2,4,3,11;g1,0,2,99;");
        dueGate(x, 0, 4, 2, 4, 10, 1, 0);
        dueGate(x, 1, 2, 4, 3, 11, 1, 0);
        dueGate(x, 2, 1, 0, 2, 99, 1, 1);
        int[] none = {-1, 3, 5, Integer.MIN_VALUE, Integer.MAX_VALUE};
        for (int g : none) {
            CHECK.due("gate(" + g + ", 0)", x.gate(g, 0), BAD);
        }
        int[] whats = {-1, 6, Integer.MIN_VALUE, Integer.MAX_VALUE};
        for (int what : whats) {
            CHECK.due("gate(0, " + what + ")", x.gate(0, what), BAD);
        }
        OddLetsIn many = Check.laid("g0,1,2,99;");
        many.pass(0, 0);
        CHECK.due("more than 99 have gone", many.gate(0, 3), 100);
    }

    private static void openByKind() {
        for (int i = 0; i < 100; i++) {
            String told = "," + i + ";";
            OddLetsIn x = Check.laid("g0,1,0" + told + "g0,1,1" + told + "g0,1,2" + told
                    + "g1,0,3,1;g0,1,4" + told);
            int even = 1 - i % 2;
            int three = i % 3 == 0 ? 1 : 0;
            dueGate(x, 0, 0, 1, 0, i, even, even);
            dueGate(x, 1, 0, 1, 1, i, 1 - even, 1 - even);
            dueGate(x, 2, 0, 1, 2, i, three, three);
            dueGate(x, 3, 1, 0, 3, 1, three, three);
            dueGate(x, 4, 0, 1, 4, i, even, 0);
            OddLetsIn copies = Check.laid("g0,1,4" + told + "g1,2,3,0;g3,2,3,1;");
            dueGate(copies, 1, 1, 2, 3, 0, even, 0);
            dueGate(copies, 2, 3, 2, 3, 1, even, 0);
        }
    }

    private static void dueGate(OddLetsIn x, int g, int... want) {
        for (int what = 0; what < 6; what++) {
            CHECK.due("gate(" + g + ", " + what + ")", x.gate(g, what), want[what]);
        }
    }

    private static void where() {
        OddLetsIn x = Check.laid("g0,4,0,0;n3;");
        CHECK.due("pass(2, 0)", x.pass(2, 0), 4);
        CHECK.due("where(2)", x.where(2), 4);
        CHECK.due("where(0)", x.where(0), 0);
        CHECK.due("where(3)", x.where(3), BAD);
        CHECK.due("where(-1)", x.where(-1), BAD);
        CHECK.due("where(MIN)", x.where(Integer.MIN_VALUE), BAD);
        CHECK.due("where(MAX)", x.where(Integer.MAX_VALUE), BAD);
        OddLetsIn one = Check.laid("g0,4,0,0;n1;");
        CHECK.due("where(1) of one person", one.where(1), BAD);
    }
}
