import java.util.Random;

/** All promises: runs by a fixed seed, each call answered as the oracle answers it. */
public final class OracleTest {
    private static final Check CHECK = new Check("OracleTest");
    private static final int RUNS = 400;
    private static final int CALLS = 512;
    private static final int[] STRANGE = {-1, -2, 5, 6, 9, 32, 100, 10000, Integer.MIN_VALUE,
        Integer.MAX_VALUE};

    private final Random random;
    private final OddLetsIn x = new OddLetsIn();
    private final Oracle oracle = new Oracle();
    private int calls = 0;

    private OracleTest(long seed) {
        random = new Random(seed);
    }

    public static void main(String[] args) {
        for (int seed = 0; seed < RUNS && !CHECK.hasFailed(); seed++) {
            new OracleTest(seed).run();
        }
        CHECK.end();
    }

    private void run() {
        while (calls < CALLS) {
            int kind = random.nextInt(40);
            if (kind == 0) {
                newText();
            } else if (kind < 24) {
                act();
            } else {
                ask();
            }
        }
    }

    private int below(int bound) {
        return random.nextInt(bound);
    }

    /** Mostly a number below the bound, now and then one beside it or far from it. */
    private int about(int bound) {
        if (below(25) == 0) {
            return STRANGE[below(STRANGE.length)];
        }
        return below(40) == 0 ? bound : below(bound);
    }

    private int gateNumber() {
        return about(Math.max(1, oracle.count(0)));
    }

    private int personNumber() {
        return about(Math.max(1, oracle.count(1)));
    }

    private int anySet() {
        return about(1 << oracle.count(0));
    }

    private void due(String call, int got, int want) {
        calls++;
        CHECK.due("call " + calls + ", " + call, got, want);
    }

    private void newText() {
        if (below(5) != 0) {
            due("wipe()", x.wipe(), oracle.wipe());
        }
        StringBuilder text = new StringBuilder();
        int gates = 1 + below(5) + (below(12) == 0 ? 1 : 0);
        for (int g = 0; g < gates; g++) {
            text.append(gateItem(g));
            if (below(10) == 0) {
                text.append('n').append(about(4)).append(';');
            }
        }
        if (below(10) != 0) {
            text.append('n').append(1 + below(3)).append(';');
        }
        if (below(8) == 0) {
            text.setCharAt(below(text.length()), "gn,;0123456789 \u00ff".charAt(below(16)));
        }
        writeAll(text.toString());
        due("fault()", x.fault(), oracle.fault());
        due("lay()", x.lay(), oracle.lay());
    }

    private String gateItem(int g) {
        int a = below(5);
        int b = (a + 1 + below(4)) % 5;
        int kind = g == 0 ? new int[] {0, 1, 2, 4}[below(4)] : below(5);
        int courts = 1 + below(5);
        if (courts > 1) {
            a = below(courts);
            b = (a + 1 + below(courts - 1)) % courts;
        }
        return "g" + a + "," + b + "," + kind + "," + (below(3) == 0 ? below(100) : 0) + ";";
    }

    private void writeAll(String text) {
        for (int i = 0; i < text.length(); ) {
            int n = Math.min(1 + below(8), text.length() - i);
            long v = random.nextLong();
            for (int j = 0; j < n; j++) {
                v = v << 8 | text.charAt(i + j);
            }
            due("write(" + n + ", " + v + ")", x.write(n, v), oracle.write(n, v));
            i += n;
        }
    }

    private void act() {
        int p = personNumber();
        int g = gateNumber();
        boolean open = random.nextBoolean();
        String pg = "(" + p + ", " + g + ")";
        switch (below(20)) {
            case 0, 1, 2, 3, 4, 5, 6 -> due("pass" + pg, x.pass(p, g), oracle.pass(p, g));
            case 7, 8, 10 -> due("linger" + pg, x.linger(p, g), oracle.linger(p, g));
            case 9 -> {
                for (int many = below(3) == 0 ? 10 : 1; many > 0; many--) {
                    due("undo()", x.undo(), oracle.undo());
                }
            }
            case 11, 12 -> due("seen(" + g + ", " + open + ")", x.seen(g, open), oracle.seen(g, open));
            case 13, 14, 15 -> due("path(" + g + ")", x.path(g), oracle.path(g));
            case 16 -> due("keep()", x.keep(), oracle.keep());
            case 17 -> due("back()", x.back(), oracle.back());
            case 18 -> seldom();
            default -> due("can" + pg, x.can(p, g), oracle.can(p, g));
        }
    }

    private void seldom() {
        switch (below(6)) {
            case 0, 1 -> due("forget()", x.forget(), oracle.forget());
            case 2, 3 -> due("noPath()", x.noPath(), oracle.noPath());
            case 4 -> due("lay()", x.lay(), oracle.lay());
            default -> {
                int n = about(9);
                long v = random.nextLong();
                due("write(" + n + ", " + v + ")", x.write(n, v), oracle.write(n, v));
            }
        }
    }

    private void ask() {
        int g = gateNumber();
        int what = about(2);
        int c = about(5);
        int set = below(3) == 0 ? anySet() : below(1 << oracle.count(0));
        boolean all = random.nextBoolean();
        switch (below(11)) {
            case 0 -> {
                int of = about(6);
                due("gate(" + g + ", " + of + ")", x.gate(g, of), oracle.gate(g, of));
            }
            case 1 -> {
                int p = personNumber();
                due("where(" + p + ")", x.where(p), oracle.where(p));
            }
            case 2, 3 -> due("way(" + c + ", " + all + ", " + what + ")", x.way(c, all, what),
                    oracle.way(c, all, what));
            case 4 -> due("smallest(" + c + ")", x.smallest(c), oracle.smallest(c));
            case 5 -> due("mend(" + set + ", " + what + ")", x.mend(set, what),
                    oracle.mend(set, what));
            case 6 -> due("wrong()", x.wrong(), oracle.wrong());
            case 7 -> due("guests(" + set + ", " + what + ")", x.guests(set, what),
                    oracle.guests(set, what));
            case 8 -> {
                int n = about(9);
                int q = about(11);
                due("odds(" + g + ", " + n + ", " + q + ", " + what + ")", x.odds(g, n, q, what),
                        oracle.odds(g, n, q, what));
            }
            case 9 -> {
                int z = about(10000);
                int n = about(100);
                int p = personNumber() - below(2);
                due("day(" + z + ", " + n + ", " + p + ")", x.day(z, n, p), oracle.day(z, n, p));
            }
            default -> {
                int of = about(9);
                due("count(" + of + ")", x.count(of), oracle.count(of));
            }
        }
    }
}
