import java.math.BigInteger;
import java.util.ArrayDeque;
import java.util.ArrayList;
import java.util.Arrays;
import java.util.Deque;
import java.util.HashMap;
import java.util.List;
import java.util.Map;
import java.util.TreeSet;
import java.util.regex.Matcher;
import java.util.regex.Pattern;

/**
 * The document once more, told in another way: whole states as lists, texts by patterns, ways by
 * trying all, odds by going through who tries and who does not.
 */
final class Oracle {
    private static final int BAD = -1;
    private static final int NO = -2;
    private static final int FULL = -3;
    private static final int NONE = -4;
    private static final Pattern GATE =
            Pattern.compile("g(\\d{1,2}),(\\d{1,2}),(\\d{1,2}),(\\d{1,2});");
    private static final Pattern PERSONS = Pattern.compile("n(\\d{1,2});");

    /** A gate that never changes but for its count. */
    private record Gate(int a, int b, int kind) { }

    private record State(List<Integer> gone, List<Integer> courts, int fines) { }

    private interface Goal {
        boolean reached(State state);
    }

    private String text = "";
    private List<Gate> gates = List.of(new Gate(0, 1, 0), new Gate(1, 2, 1));
    private State now = new State(List.of(0, 1), List.of(0, 0), 0);
    private final Deque<State> before = new ArrayDeque<>();
    private final Deque<State> kept = new ArrayDeque<>();
    private final List<int[]> sights = new ArrayList<>();
    private final List<Integer> route = new ArrayList<>();

    int write(int n, long v) {
        if (n < 1 || n > 8) {
            return BAD;
        }
        if (text.length() + n > 200) {
            return FULL;
        }
        byte[] all = new byte[16];
        byte[] number = BigInteger.valueOf(v).toByteArray();
        Arrays.fill(all, (byte) (v < 0 ? 255 : 0));
        System.arraycopy(number, 0, all, 16 - number.length, number.length);
        for (byte b : Arrays.copyOfRange(all, 16 - n, 16)) {
            text += (char) (b & 255);
        }
        return text.length();
    }

    int wipe() {
        int length = text.length();
        text = "";
        return length;
    }

    int fault() {
        return read(new ArrayList<>(), new ArrayList<>(), new int[1]);
    }

    private int read(List<Gate> told, List<Integer> gone, int[] persons) {
        persons[0] = 2;
        int at = 0;
        while (at < text.length()) {
            Matcher gate = GATE.matcher(text).region(at, text.length());
            Matcher many = PERSONS.matcher(text).region(at, text.length());
            if (gate.lookingAt()) {
                int a = Integer.parseInt(gate.group(1));
                int b = Integer.parseInt(gate.group(2));
                int kind = Integer.parseInt(gate.group(3));
                boolean good = a < 5 && b < 5 && a != b && kind < 5 && told.size() < 5;
                if (!good || (kind == 3 && told.isEmpty())) {
                    return at;
                }
                told.add(new Gate(a, b, kind));
                gone.add(Integer.parseInt(gate.group(4)));
                at = gate.end();
            } else if (many.lookingAt()) {
                persons[0] = Integer.parseInt(many.group(1));
                if (persons[0] < 1 || persons[0] > 3) {
                    return at;
                }
                at = many.end();
            } else {
                return at;
            }
        }
        return NONE;
    }

    int lay() {
        List<Gate> told = new ArrayList<>();
        List<Integer> gone = new ArrayList<>();
        int[] persons = new int[1];
        if (read(told, gone, persons) != NONE || told.isEmpty()) {
            return NO;
        }
        gates = told;
        now = new State(gone, zeros(persons[0]), 0);
        before.clear();
        kept.clear();
        sights.clear();
        route.clear();
        return gates.size();
    }

    private static List<Integer> zeros(int many) {
        return new ArrayList<>(java.util.Collections.nCopies(many, 0));
    }

    private boolean noGate(int g) {
        return g < 0 || g >= gates.size();
    }

    private boolean noPerson(int p) {
        return p < 0 || p >= now.courts.size();
    }

    private boolean noSet(int set) {
        return set < 0 || set > Math.pow(2, gates.size()) - 1;
    }

    private boolean open(State s, int g, boolean fromA) {
        int gone = s.gone.get(g);
        return switch (gates.get(g).kind) {
            case 0 -> gone % 2 == 0;
            case 1 -> gone % 2 == 1;
            case 2 -> gone % 3 == 0;
            case 3 -> open(s, g - 1, fromA);
            default -> gone % 2 == 0 && fromA;
        };
    }

    private int openSet(State s) {
        int set = 0;
        for (int g = 0; g < gates.size(); g++) {
            set += open(s, g, true) ? (int) Math.pow(2, g) : 0;
        }
        return set;
    }

    int gate(int g, int what) {
        if (noGate(g) || what < 0 || what > 5) {
            return BAD;
        }
        int[] answers = {gates.get(g).a, gates.get(g).b, gates.get(g).kind, now.gone.get(g),
            open(now, g, true) ? 1 : 0, open(now, g, false) ? 1 : 0};
        return answers[what];
    }

    int where(int p) {
        return noPerson(p) ? BAD : now.courts.get(p);
    }

    private boolean canGo(State s, int court, int g) {
        Gate gate = gates.get(g);
        return (court == gate.a && open(s, g, true)) || (court == gate.b && open(s, g, false));
    }

    private int over(int court, int g) {
        return gates.get(g).a + gates.get(g).b - court;
    }

    private static List<Integer> with(List<Integer> row, int place, int value) {
        List<Integer> copy = new ArrayList<>(row);
        copy.set(place, value);
        return copy;
    }

    private State oneMore(State s, int g) {
        return new State(with(s.gone, g, s.gone.get(g) + 1), s.courts, s.fines);
    }

    private State passed(State s, int p, int g) {
        List<Integer> courts = with(s.courts, p, over(s.courts.get(p), g));
        return new State(oneMore(s, g).gone, courts, s.fines);
    }

    int can(int p, int g) {
        if (noPerson(p) || noGate(g)) {
            return BAD;
        }
        return canGo(now, now.courts.get(p), g) ? 1 : 0;
    }

    private void become(State next) {
        before.addLast(now);
        if (before.size() > 8) {
            before.removeFirst();
        }
        now = next;
    }

    int pass(int p, int g) {
        int can = can(p, g);
        if (can != 1) {
            return can == 0 ? NO : BAD;
        }
        become(passed(now, p, g));
        return now.courts.get(p);
    }

    int linger(int p, int g) {
        int can = can(p, g);
        if (can != 1) {
            return can == 0 ? NO : BAD;
        }
        become(new State(oneMore(now, g).gone, now.courts, now.fines + 1));
        return now.fines;
    }

    int undo() {
        if (before.isEmpty()) {
            return NO;
        }
        now = before.removeLast();
        return before.size();
    }

    /** The fewest passes and all first passes of ways so short, each way tried level by level. */
    private int[] search(State start, Goal goal) {
        Map<State, TreeSet<Integer>> level = new HashMap<>();
        Map<State, Integer> known = new HashMap<>();
        level.put(start, new TreeSet<>());
        known.put(start, 0);
        for (int passes = 0; !level.isEmpty(); passes++) {
            TreeSet<Integer> firsts = new TreeSet<>();
            boolean there = false;
            Map<State, TreeSet<Integer>> next = new HashMap<>();
            for (Map.Entry<State, TreeSet<Integer>> entry : level.entrySet()) {
                if (goal.reached(entry.getKey())) {
                    there = true;
                    firsts.addAll(entry.getValue());
                }
                addNext(entry.getKey(), entry.getValue(), passes, known, next);
            }
            if (there) {
                return new int[] {passes, firsts.isEmpty() ? NONE : firsts.first()};
            }
            level = next;
        }
        return new int[] {NONE, NONE};
    }

    private void addNext(State s, TreeSet<Integer> firsts, int passes, Map<State, Integer> known,
            Map<State, TreeSet<Integer>> next) {
        for (int p = 0; p < s.courts.size(); p++) {
            for (int g = 0; g < gates.size(); g++) {
                if (!canGo(s, s.courts.get(p), g)) {
                    continue;
                }
                State raw = passed(s, p, g);
                List<Integer> rests = new ArrayList<>();
                for (int gone : raw.gone) {
                    rests.add(gone % 6);
                }
                State then = new State(rests, raw.courts, 0);
                if (known.getOrDefault(then, passes + 1) == passes + 1) {
                    known.put(then, passes + 1);
                    TreeSet<Integer> row = next.computeIfAbsent(then, k -> new TreeSet<>());
                    row.addAll(firsts);
                    if (passes == 0) {
                        row.add(10 * p + g);
                    }
                }
            }
        }
    }

    int way(int c, boolean all, int what) {
        if (c < 0 || c > 4 || what < 0 || what > 1) {
            return BAD;
        }
        Goal everybody = s -> s.courts.stream().allMatch(court -> court == c);
        Goal anybody = s -> s.courts.stream().anyMatch(court -> court == c);
        return search(now, all ? everybody : anybody)[what];
    }

    int smallest(int c) {
        if (c < 0 || c > 4) {
            return BAD;
        }
        for (int m = 1; m <= 3; m++) {
            State start = new State(now.gone, zeros(m), 0);
            if (search(start, s -> s.courts.contains(c))[0] >= 0) {
                return m;
            }
        }
        return NONE;
    }

    int mend(int set, int what) {
        if (noSet(set) || what < 0 || what > 1) {
            return BAD;
        }
        return search(new State(now.gone, zeros(1), 0), s -> openSet(s) == set)[what];
    }

    int seen(int g, boolean open) {
        if (noGate(g)) {
            return BAD;
        }
        if (sights.size() == 10) {
            return FULL;
        }
        sights.add(new int[] {g, open ? 1 : 0});
        return sights.size();
    }

    int forget() {
        int many = sights.size();
        sights.clear();
        return many;
    }

    private boolean asSeen(State s) {
        for (int[] sight : sights) {
            if (open(s, sight[0], true) != (sight[1] == 1)) {
                return false;
            }
        }
        return true;
    }

    int wrong() {
        int bits = asSeen(now) ? 32 : 0;
        for (int g = 0; g < gates.size(); g++) {
            bits += asSeen(oneMore(now, g)) ? 1 << g : 0;
        }
        return bits;
    }

    int path(int g) {
        if (noGate(g)) {
            return BAD;
        }
        if (route.size() == 8) {
            return FULL;
        }
        route.add(g);
        return route.size();
    }

    int noPath() {
        int many = route.size();
        route.clear();
        return many;
    }

    int guests(int set, int what) {
        if (noSet(set) || what < 0 || what > 1) {
            return BAD;
        }
        List<Integer> fitting = new ArrayList<>();
        for (int x = 1; x <= 60; x++) {
            State s = now;
            for (int guest = 0; guest < x; guest++) {
                int court = 0;
                for (int i = 0; i < route.size() && canGo(s, court, route.get(i)); i++) {
                    s = oneMore(s, route.get(i));
                    court = over(court, route.get(i));
                }
            }
            if (openSet(s) == set) {
                fitting.add(x);
            }
        }
        if (what == 0) {
            return fitting.size();
        }
        return fitting.isEmpty() ? NONE : fitting.get(0);
    }

    int odds(int g, int n, int q, int part) {
        if (noGate(g) || n < 1 || n > 8 || q < 0 || q > 10 || part < 0 || part > 1) {
            return BAD;
        }
        BigInteger above = BigInteger.ZERO;
        for (int trying = 0; trying < 1 << n; trying++) {
            State s = now;
            BigInteger weight = BigInteger.ONE;
            for (int i = 0; i < n; i++) {
                boolean tries = (trying >> i & 1) == 1;
                weight = weight.multiply(BigInteger.valueOf(tries ? q : 10 - q));
                s = tries && open(s, g, true) ? oneMore(s, g) : s;
            }
            above = above.add(open(s, g, true) ? weight : BigInteger.ZERO);
        }
        BigInteger below = BigInteger.TEN.pow(n);
        BigInteger divisor = above.gcd(below);
        return (part == 0 ? above : below).divide(divisor).intValueExact();
    }

    int day(int z, int n, int p) {
        if (z < 0 || z > 9999 || n < 1 || n > 99 || p < -1 || (p != -1 && noPerson(p))) {
            return BAD;
        }
        State s = now;
        int passes = 0;
        for (int t = 0; t < n; t++) {
            BigInteger x = BigInteger.valueOf(7919L * z + 6151L * t + 1);
            int draw = x.multiply(x).mod(BigInteger.valueOf(65521)).intValueExact();
            int person = draw % now.courts.size();
            int g = draw / 8 % gates.size();
            if (canGo(s, s.courts.get(person), g)) {
                s = passed(s, person, g);
                passes++;
            }
        }
        return p == -1 ? passes : s.courts.get(p);
    }

    int keep() {
        if (kept.size() == 2) {
            return FULL;
        }
        kept.addLast(now);
        return kept.size();
    }

    int back() {
        if (kept.isEmpty()) {
            return NO;
        }
        now = kept.removeLast();
        before.clear();
        return kept.size();
    }

    int count(int what) {
        if (what < 0 || what > 8) {
            return BAD;
        }
        int[] answers = {gates.size(), now.courts.size(), now.fines,
            Integer.bitCount(openSet(now)), sights.size(), route.size(), before.size(),
            kept.size(), text.length()};
        return answers[what];
    }
}
