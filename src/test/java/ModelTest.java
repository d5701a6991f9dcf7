import java.util.ArrayList;
import java.util.List;
import java.util.TreeMap;
import java.util.TreeSet;

/**
 * Runs of 512 calls, each answer compared with that of a model on the Java library, and with that
 * of a second object that gets the same calls but other secrets; and every method with every edge
 * in each place of its arguments, in states from empty to full.
 */
public final class ModelTest {
    private static final int RUNS = 2000;
    private static final int CALLS = 512;
    private static final int[] ODD_NUMBERS = {
        -1, 0, 3, 4, 16, 63, 64, 1087, 1088, Integer.MIN_VALUE, Integer.MAX_VALUE};

    private static final int[] EDGES = {
        Integer.MIN_VALUE, Integer.MIN_VALUE + 1, -65, -64, -63, -2, -1, 0, 1, 2, 3, 4, 7, 8, 15, 16, 17, 31, 32, 33,
        47, 48, 62, 63, 64, 65, 127, 128, 191, 192, 959, 960, 1023, 1024, 1025, 1087, 1088, 1089, 65536,
        Integer.MAX_VALUE - 1, Integer.MAX_VALUE};
    private static final int[] PARTY_EDGES = {Integer.MIN_VALUE, -1, 0, 1, 2, 3, Integer.MAX_VALUE};
    private static final int[] NO_ARGUMENT = {0};
    // How many arguments the methods take, in the order of the numbers in ask.
    private static final int[] TAKES = {2, 3, 3, 2, 1, 1, 2, 2, 3, 2, 2, 0, 0, 1, 1, 0, 1};

    // Calls that lead to a state: a method's number and its arguments.
    private static final int[][][] STATES = {
        {},
        {{1, 0, 0, 9}, {1, 0, 63, -4}, {1, 1, 63, 8}, {1, 2, 63, 7}, {1, 2, 31, Integer.MAX_VALUE}, {7, 0, 1, 0}},
        {{2, 0, 960, 1}, {2, 1, 960 + 49, 1}, {2, 2, 960 + 63, 63}, {1, 0, 3, 50}, {10, 1, 2, 0}},
        {{2, 0, 1024, 1}, {2, 1, 1024 + 8, 1}, {2, 2, 1024 + 48, 1}, {1, 2, 63, Integer.MIN_VALUE}, {9, 0, 2, 0}},
        {{2, 0, 1024, 4}, {2, 1, 1024, 4}, {2, 2, 1024, 4}, {8, 2, 0, 0}}};

    private static long seed = 20261115L;

    private final List<TreeMap<Integer, Integer>> parties =
        List.of(new TreeMap<>(), new TreeMap<>(), new TreeMap<>());
    private int sent = 0;

    public static void main(String[] args) {
        for (int run = 0; run < RUNS; run++) {
            // Few different items make sets that overlap, many make sets that fill up.
            if (!agrees(run, run % 2 == 0 ? 12 : 64)) {
                System.exit(1);
            }
        }
        for (int[][] state : STATES) {
            for (int method = 0; method < TAKES.length; method++) {
                if (!agreesAtTheEdges(state, method)) {
                    System.exit(1);
                }
            }
        }
        System.out.println("all answers are as due");
    }

    private static boolean agreesAtTheEdges(int[][] state, int method) {
        // Those that ask for an item or for a number of parties first need more than the edges of a party.
        int[] firsts = TAKES[method] == 0 ? NO_ARGUMENT : method == 13 || method == 16 ? EDGES : PARTY_EDGES;
        for (int first : firsts) {
            for (int second : TAKES[method] < 2 ? NO_ARGUMENT : EDGES) {
                for (int third : TAKES[method] < 3 ? NO_ARGUMENT : EDGES) {
                    if (!agreesAfter(state, method, new int[] {first, second, third})) {
                        return false;
                    }
                }
            }
        }
        return true;
    }

    private static boolean agreesAfter(int[][] state, int method, int[] a) {
        ModelTest model = new ModelTest();
        PrivateIntersect x = new PrivateIntersect(1, 2, 3);
        for (int[] call : state) {
            int[] b = {call[1], call[2], call[3]};
            model.answer(call[0], b);
            ask(x, call[0], b);
        }
        int want = model.answer(method, a);
        int got = ask(x, method, a);
        if (got != want || !model.looksLike(x)) {
            System.out.println("in a state of " + state.length + " calls: method " + method + " of (" + a[0] + ", "
                + a[1] + ", " + a[2] + ") answered " + got + ", due is " + want
                + (got == want ? ", but the state is not as due" : ""));
            return false;
        }
        return true;
    }

    /** Asks nothing that would change what traffic answers. */
    private boolean looksLike(PrivateIntersect x) {
        boolean like = x.traffic() == sent;
        for (int party = 0; party < 3; party++) {
            int i = 0;
            int weight = 0;
            for (int item : parties.get(party).keySet()) {
                like &= x.commonItem(party, party, i) == item;
                weight += parties.get(party).get(item);
                i++;
            }
            like &= x.held(party) == i && x.commonWeight(party, party) == weight;
        }
        return like;
    }

    /** The numbers must be the same in every run of the test, so they come from a fixed seed. */
    private static int below(int bound) {
        seed = seed * 6364136223846793005L + 1442695040888963407L;
        return (int) ((seed >>> 33) % bound);
    }

    private static int oddAtTimes(int usual) {
        return below(40) == 0 ? ODD_NUMBERS[below(ODD_NUMBERS.length)] : usual;
    }

    private static boolean agrees(int run, int items) {
        ModelTest model = new ModelTest();
        PrivateIntersect x = new PrivateIntersect(below(100), below(100), -below(100));
        PrivateIntersect other = new PrivateIntersect(Integer.MIN_VALUE, below(100), Integer.MAX_VALUE);
        for (int n = 0; n < CALLS; n++) {
            int method = below(17);
            int[] a = arguments(method, items);
            int want = model.answer(method, a);
            int got = ask(x, method, a);
            if (method == 0) {
                a[1] = ~a[1];
            }
            int gotOther = ask(other, method, a);
            if (got != want || gotOther != want) {
                System.out.println("run " + run + ", call " + n + ": method " + method + " of (" + a[0] + ", "
                    + a[1] + ", " + a[2] + ") answered " + got + " and " + gotOther + ", due is " + want);
                return false;
            }
        }
        return true;
    }

    private static int[] arguments(int method, int items) {
        int first = oddAtTimes(method == 13 || method == 16 ? below(4) : below(3));
        int second = oddAtTimes(method == 2 ? 64 + 64 * below(below(2) == 0 ? 4 : 16) + below(items)
            : method >= 7 && method <= 10 ? below(3) : below(items) * 63 / (items - 1));
        int third = oddAtTimes(method == 1 ? below(Integer.MAX_VALUE) - below(Integer.MAX_VALUE)
            : method == 8 ? below(5) : 1 + below(63));
        return new int[] {first, second, third};
    }

    private static int ask(PrivateIntersect x, int method, int[] a) {
        switch (method) {
            case 0: return x.secret(a[0], a[1]);
            case 1: return x.give(a[0], a[1], a[2]);
            case 2: return x.giveMany(a[0], a[1], a[2]);
            case 3: return x.take(a[0], a[1]);
            // Seldom, as sets that are emptied often never fill up.
            case 4: return a[1] < 8 ? x.clear(a[0]) : x.traffic();
            case 5: return x.held(a[0]);
            case 6: return x.holds(a[0], a[1]);
            case 7: return x.common(a[0], a[1]);
            case 8: return x.commonItem(a[0], a[1], a[2]);
            case 9: return x.commonWeight(a[0], a[1]);
            case 10: return x.within(a[0], a[1]);
            case 11: return x.commonToAll();
            case 12: return x.any();
            case 13: return x.itemOfAll(a[0]);
            case 14: return x.alone(a[0]);
            case 15: return x.traffic();
            default: return x.heldByJust(a[0]);
        }
    }

    private int answer(int method, int[] a) {
        switch (method) {
            case 0: return good(a[0]) ? 0 : -1;
            case 1: return give(a[0], a[1], a[2]);
            case 2: return giveMany(a[0], a[1], a[2]);
            case 3: return take(a[0], a[1]);
            case 4: return a[1] < 8 ? clear(a[0]) : sent;
            case 5: return good(a[0]) ? parties.get(a[0]).size() : -1;
            case 6: return !good(a[0]) ? -1 : !goodItem(a[1]) ? -2 : parties.get(a[0]).containsKey(a[1]) ? 1 : 0;
            case 7: return good(a[0]) && good(a[1]) ? compare(a[0], a[1]).size() : -1;
            case 8: return good(a[0]) && good(a[1]) ? at(compare(a[0], a[1]), a[2], -2) : -1;
            case 9: return commonWeight(a[0], a[1]);
            case 10: return within(a[0], a[1]);
            case 11: return heldBy(3).size();
            case 12: return heldBy(1).size() + heldBy(2).size() + heldBy(3).size();
            case 13: return at(heldBy(3), a[0], -1);
            case 14: return alone(a[0]);
            case 15: return sent;
            default: return a[0] >= 1 && a[0] <= 3 ? heldBy(a[0]).size() : -1;
        }
    }

    private static boolean good(int party) {
        return party >= 0 && party <= 2;
    }

    private static boolean goodItem(int item) {
        return item >= 0 && item <= 63;
    }

    private int give(int party, int item, int weight) {
        if (!good(party)) {
            return -1;
        }
        if (!goodItem(item)) {
            return -2;
        }
        TreeMap<Integer, Integer> own = parties.get(party);
        if (own.size() == 16 && !own.containsKey(item)) {
            return -3;
        }
        own.put(item, weight);
        return own.size();
    }

    private int giveMany(int party, int spec, int step) {
        if (!good(party)) {
            return -1;
        }
        if (spec < 64 || spec > 1087) {
            return -2;
        }
        if (step < 1 || step > 63) {
            return -3;
        }
        TreeMap<Integer, Integer> after = new TreeMap<>(parties.get(party));
        int item = spec % 64;
        for (int left = spec / 64; left > 0; left--) {
            after.putIfAbsent(item, 1);
            item = Math.floorMod(item + step, 64);
        }
        if (after.size() > 16) {
            return -4;
        }
        parties.get(party).putAll(after);
        return after.size();
    }

    private int take(int party, int item) {
        if (!good(party)) {
            return -1;
        }
        if (!goodItem(item)) {
            return -2;
        }
        return parties.get(party).remove(item) == null ? -3 : parties.get(party).size();
    }

    private int clear(int party) {
        if (!good(party)) {
            return -1;
        }
        int lost = parties.get(party).size();
        parties.get(party).clear();
        return lost;
    }

    private TreeSet<Integer> compare(int p, int q) {
        TreeSet<Integer> both = new TreeSet<>(parties.get(p).keySet());
        both.retainAll(parties.get(q).keySet());
        if (p != q) {
            sent = parties.get(p).size() + parties.get(q).size() - both.size();
        }
        return both;
    }

    private static int at(TreeSet<Integer> set, int i, int none) {
        List<Integer> rising = new ArrayList<>(set);
        return i >= 0 && i < rising.size() ? rising.get(i) : none;
    }

    private int commonWeight(int p, int q) {
        if (!good(p) || !good(q)) {
            return 0;
        }
        long sum = 0;
        for (int item : compare(p, q)) {
            sum += parties.get(p).get(item);
        }
        return (int) sum;
    }

    private int within(int p, int q) {
        if (!good(p) || !good(q)) {
            return -1;
        }
        compare(p, q);
        return parties.get(q).keySet().containsAll(parties.get(p).keySet()) ? 1 : 0;
    }

    private TreeSet<Integer> heldBy(int k) {
        TreeSet<Integer> found = new TreeSet<>();
        for (int item = 0; item < 64; item++) {
            int holders = 0;
            for (TreeMap<Integer, Integer> own : parties) {
                holders += own.containsKey(item) ? 1 : 0;
            }
            if (holders == k) {
                found.add(item);
            }
        }
        return found;
    }

    private int alone(int p) {
        if (!good(p)) {
            return -1;
        }
        TreeSet<Integer> own = heldBy(1);
        own.retainAll(parties.get(p).keySet());
        return own.size();
    }
}
