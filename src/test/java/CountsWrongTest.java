/** Promises 15 to 17. */
public final class CountsWrongTest {
    private static final Check CHECK = new Check("CountsWrongTest");
    private static final int BAD = OddLetsIn.BAD;
    private static final int FULL = OddLetsIn.FULL;

    public static void main(String[] args) {
        seen();
        forget();
        wrong();
        wrongByKind();
        CHECK.end();
    }

    private static void seen() {
        OddLetsIn x = new OddLetsIn();
        int[] none = {-1, 2, Integer.MIN_VALUE, Integer.MAX_VALUE};
        for (int g : none) {
            CHECK.due("seen: gate", x.seen(g, true), BAD);
        }
        for (int i = 1; i <= 10; i++) {
            CHECK.due("seen, the same ones, too", x.seen(0, true), i);
        }
        CHECK.due("seen, one more", x.seen(1, true), FULL);
        CHECK.due("BAD before FULL", x.seen(2, true), BAD);
        CHECK.due("count(4)", x.count(4), 10);
        CHECK.due("FULL changes nothing", x.wrong(), 2 + 32);
    }

    private static void forget() {
        OddLetsIn x = new OddLetsIn();
        CHECK.due("forget() of nothing", x.forget(), 0);
        x.seen(0, false);
        x.seen(1, false);
        CHECK.due("wrong()", x.wrong(), 0);
        CHECK.due("forget()", x.forget(), 2);
        CHECK.due("count(4)", x.count(4), 0);
        CHECK.due("wrong() behind it", x.wrong(), 35);
        CHECK.due("seen behind it", x.seen(1, false), 1);
        CHECK.due("wrong() by the new one", x.wrong(), 2);
    }

    private static void wrong() {
        OddLetsIn x = Check.laid("g0,1,0,0;g1,2,3,0;g0,2,1,0;n1;");
        CHECK.due("nothing seen", x.wrong(), 32 + 7);
        x.seen(1, true);
        CHECK.due("the copy open", x.wrong(), 32 + 4 + 2);
        x.seen(2, true);
        CHECK.due("the odd one, too", x.wrong(), 4);
        x.forget();
        x.seen(1, false);
        CHECK.due("the copy shut", x.wrong(), 1);
        x.pass(0, 0);
        CHECK.due("as told by now", x.wrong(), 32 + 4 + 2);
        CHECK.due("nothing changes", x.gate(0, 3), 1);
        x.seen(1, true);
        CHECK.due("shut and open at once", x.wrong(), 0);
    }

    private static void wrongByKind() {
        OddLetsIn threes = Check.laid("g0,1,2,2;g0,1,2,1;");
        threes.seen(0, false);
        threes.seen(1, false);
        CHECK.due("threes: as it is, or the second", threes.wrong(), 32 + 2);
        threes.forget();
        threes.seen(1, false);
        CHECK.due("threes: either, but each alone", threes.wrong(), 32 + 2 + 1);
        threes.forget();
        threes.seen(0, true);
        CHECK.due("threes: the first", threes.wrong(), 1);
        OddLetsIn oneWay = Check.laid("g0,1,4,1;g2,1,3,0;");
        oneWay.seen(1, true);
        CHECK.due("a copy is open from its A", oneWay.wrong(), 1);
        oneWay.forget();
        oneWay.seen(0, false);
        oneWay.seen(0, false);
        CHECK.due("one way, shut", oneWay.wrong(), 32 + 2);
        OddLetsIn alone = Check.laid("g0,1,2,1;g0,1,0,0;");
        alone.seen(0, false);
        CHECK.due("one more through one alone", alone.wrong(), 32 + 2 + 1);
    }
}
