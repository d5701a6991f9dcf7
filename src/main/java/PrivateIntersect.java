/** Three parties that each hold a set of items, and what they have in common. */
public final class PrivateIntersect {
    private static final int PARTIES = 3;
    private static final int ITEMS = 64;
    private static final int WEIGHTS = PARTIES * ITEMS;
    private static final int MOST_HELD = 16;
    private static final int LEAST_SPEC = ITEMS;
    private static final int GREATEST_SPEC = ITEMS * MOST_HELD + ITEMS - 1;

    // There are just as many items as a long has bits: bit i of a set stands for item i.
    private final long[] sets = new long[PARTIES];
    private final int[] weights = new int[WEIGHTS];
    // Kept, as the document gives every party one, but read nowhere: no answer may depend on them.
    private final int[] secrets = new int[PARTIES];
    private int lastExchange = 0;

    public PrivateIntersect(int a, int b, int c) {
        secrets[0] = a;
        secrets[1] = b;
        secrets[2] = c;
    }

    public int secret(int party, int value) {
        if (!isParty(party)) {
            return -1;
        }
        secrets[party] = value;
        return 0;
    }

    public int give(int party, int item, int weight) {
        if (!isParty(party)) {
            return -1;
        }
        if (!isItem(item)) {
            return -2;
        }
        long after = sets[party] | (1L << item);
        int size = sizeOf(after);
        if (size > MOST_HELD) {
            return -3;
        }
        sets[party] = after;
        weights[party * ITEMS + item] = weight;
        return size;
    }

    public int giveMany(int party, int spec, int step) {
        if (!isParty(party)) {
            return -1;
        }
        if (spec < LEAST_SPEC || spec > GREATEST_SPEC) {
            return -2;
        }
        if (step < 1 || step >= ITEMS) {
            return -3;
        }
        long before = sets[party];
        long after = before | steppedSet(spec % ITEMS, spec / ITEMS, step);
        int size = sizeOf(after);
        if (size > MOST_HELD) {
            return -4;
        }
        sets[party] = after;
        weighOne(party, after & ~before);
        return size;
    }

    public int take(int party, int item) {
        if (!isParty(party)) {
            return -1;
        }
        if (!isItem(item)) {
            return -2;
        }
        if (!contains(sets[party], item)) {
            return -3;
        }
        sets[party] &= ~(1L << item);
        return sizeOf(sets[party]);
    }

    public int clear(int party) {
        if (!isParty(party)) {
            return -1;
        }
        int lost = sizeOf(sets[party]);
        sets[party] = 0L;
        return lost;
    }

    public int held(int party) {
        if (!isParty(party)) {
            return -1;
        }
        return sizeOf(sets[party]);
    }

    public int holds(int party, int item) {
        if (!isParty(party)) {
            return -1;
        }
        if (!isItem(item)) {
            return -2;
        }
        return contains(sets[party], item) ? 1 : 0;
    }

    public int common(int p, int q) {
        if (!isParty(p) || !isParty(q)) {
            return -1;
        }
        long both = compare(p, q);
        return sizeOf(both);
    }

    public int commonItem(int p, int q, int i) {
        if (!isParty(p) || !isParty(q)) {
            return -1;
        }
        long both = compare(p, q);
        int item = itemAt(both, i);
        return item < 0 ? -2 : item;
    }

    public int commonWeight(int p, int q) {
        if (!isParty(p) || !isParty(q)) {
            return 0;
        }
        long both = compare(p, q);
        int sum = 0;
        for (int item = 0; item < ITEMS; item++) {
            if (contains(both, item)) {
                sum += weights[p * ITEMS + item];
            }
        }
        return sum;
    }

    public int commonToAll() {
        return sizeOf(sets[0] & sets[1] & sets[2]);
    }

    public int itemOfAll(int i) {
        return itemAt(sets[0] & sets[1] & sets[2], i);
    }

    public int any() {
        return sizeOf(sets[0] | sets[1] | sets[2]);
    }

    public int heldByJust(int k) {
        if (k < 1 || k > PARTIES) {
            return -1;
        }
        int count = 0;
        for (int item = 0; item < ITEMS; item++) {
            int holders = holdersOf(item);
            if (holders == k) {
                count++;
            }
        }
        return count;
    }

    public int alone(int p) {
        if (!isParty(p)) {
            return -1;
        }
        long others = sets[(p + 1) % PARTIES] | sets[(p + 2) % PARTIES];
        return sizeOf(sets[p] & ~others);
    }

    public int within(int p, int q) {
        if (!isParty(p) || !isParty(q)) {
            return -1;
        }
        long both = compare(p, q);
        return both == sets[p] ? 1 : 0;
    }

    public int traffic() {
        return lastExchange;
    }

    private static boolean isParty(int party) {
        return party >= 0 && party < PARTIES;
    }

    private static boolean isItem(int item) {
        return item >= 0 && item < ITEMS;
    }

    private static boolean contains(long set, int item) {
        return ((set >>> item) & 1L) != 0L;
    }

    private static int sizeOf(long set) {
        int size = 0;
        for (int item = 0; item < ITEMS; item++) {
            if (contains(set, item)) {
                size++;
            }
        }
        return size;
    }

    /** The i-th item of a set in rising order, or -1 if it has no such one. */
    private static int itemAt(long set, int i) {
        int before = 0;
        for (int item = 0; item < ITEMS; item++) {
            if (contains(set, item)) {
                if (before == i) {
                    return item;
                }
                before++;
            }
        }
        return -1;
    }

    /** A set, as the steps may come round to an item that they have met before. */
    private static long steppedSet(int first, int count, int step) {
        long set = 0L;
        for (int n = 0; n < count; n++) {
            set |= 1L << ((first + n * step) % ITEMS);
        }
        return set;
    }

    private void weighOne(int party, long set) {
        for (int item = 0; item < ITEMS; item++) {
            if (contains(set, item)) {
                weights[party * ITEMS + item] = 1;
            }
        }
    }

    private int holdersOf(int item) {
        int holders = 0;
        for (int party = 0; party < PARTIES; party++) {
            if (contains(sets[party], item)) {
                holders++;
            }
        }
        return holders;
    }

    /** What both hold; a party compared with itself sends nothing, so the last exchange stays. */
    private long compare(int p, int q) {
        if (p != q) {
            // Both sizes less the common ones: that is the size of the two sets together.
            lastExchange = sizeOf(sets[p] | sets[q]);
        }
        return sets[p] & sets[q];
    }
}
