/** Bundles on their way through a network in which nodes meet only at certain times. */
public final class ContactNetwork {
    public static final int BAD = -1;
    public static final int NONE = -2;
    public static final int FULL = -3;
    public static final int LATE = -4;

    private static final int NODES = 6;
    private static final int MAX_CONTACTS = 10;
    private static final int MAX_BUNDLES = 10;
    private static final int MAX_SIZE = 30;
    private static final int MAX_PASS = 200;
    private static final int LAST_TIME = 100;
    private static final int SPAN_BASE = LAST_TIME + 1;
    private static final int TERMS_BASE = 10;
    private static final int MAX_ROUTE = 5;
    private static final int HOP_BASE = 1000;
    private static final int UNDER_WAY = 10;

    // Every booking lies in the ticks 0 .. 99, and two bookings of one bundle
    // never share a tick, so a bundle has no more bookings than there are ticks.
    private static final int MAX_HOPS = LAST_TIME;

    private static final int ALL_TICKS = MAX_CONTACTS * LAST_TIME;
    private static final int ALL_HOPS = MAX_BUNDLES * MAX_HOPS;

    // Far above need: a way without a node twice is told by the set of its
    // contacts, so there are 1024 at most, and each takes some ten steps.
    private static final int MAX_STEPS = 1000000;

    private int now;

    private int contactCount;
    private final int[] from = new int[MAX_CONTACTS];
    private final int[] to = new int[MAX_CONTACTS];
    private final int[] start = new int[MAX_CONTACTS];
    private final int[] end = new int[MAX_CONTACTS];
    private final int[] rate = new int[MAX_CONTACTS];
    private final int[] delay = new int[MAX_CONTACTS];
    private final boolean[] cancelled = new boolean[MAX_CONTACTS];
    private final boolean[] taken = new boolean[ALL_TICKS];

    private int bundleCount;
    private final int[] source = new int[MAX_BUNDLES];
    private final int[] target = new int[MAX_BUNDLES];
    private final int[] sizeOf = new int[MAX_BUNDLES];
    private final int[] limitOf = new int[MAX_BUNDLES];
    private final boolean[] routed = new boolean[MAX_BUNDLES];
    private final boolean[] hit = new boolean[MAX_BUNDLES];
    private final int[] hopCount = new int[MAX_BUNDLES];
    private final int[] hopContact = new int[ALL_HOPS];
    private final int[] hopBegin = new int[ALL_HOPS];

    // The way that the search is trying: where it is before each contact, and since when.
    private final int[] wayNode = new int[MAX_ROUTE];
    private final int[] wayReady = new int[MAX_ROUTE];
    private final int[] wayNext = new int[MAX_ROUTE];
    private final int[] wayContact = new int[MAX_ROUTE];
    private final int[] wayBegin = new int[MAX_ROUTE];

    // The best route that the last search found; its length is 0 if there was none.
    private int bestLength;
    private int bestArrival;
    private final int[] bestContact = new int[MAX_ROUTE];
    private final int[] bestBegin = new int[MAX_ROUTE];

    public ContactNetwork() {
        // Time 0, no contacts and no bundles are what Java's zeros already say.
    }

    public int contact(int ends, int span, int terms) {
        if (!areEnds(ends) || !isSpan(span) || !areTerms(terms)) {
            return BAD;
        }
        if (contactCount >= MAX_CONTACTS) {
            return FULL;
        }
        int k = contactCount;
        from[k] = ends / NODES;
        to[k] = ends % NODES;
        start[k] = span / SPAN_BASE;
        end[k] = span % SPAN_BASE;
        rate[k] = terms / TERMS_BASE;
        delay[k] = terms % TERMS_BASE;
        contactCount = k + 1;
        retry();
        return k;
    }

    public int cancel(int k) {
        if (!isContact(k) || cancelled[k]) {
            return BAD;
        }
        cancelled[k] = true;
        int hits = 0;
        // All hit bundles give their ticks back before the first one is planned.
        for (int b = 0; b < bundleCount; b++) {
            int i = firstNotGoneOut(b, k);
            hit[b] = i < hopCount[b];
            if (hit[b]) {
                loseFrom(b, i);
                hits++;
            }
        }
        for (int b = 0; b < bundleCount; b++) {
            if (hit[b]) {
                plan(b);
            }
        }
        retry();
        return hits;
    }

    public int booked(int k) {
        if (!isContact(k)) {
            return BAD;
        }
        if (cancelled[k]) {
            return NONE;
        }
        int count = 0;
        for (int tick = 0; tick < LAST_TIME; tick++) {
            if (taken[k * LAST_TIME + tick]) {
                count++;
            }
        }
        return count;
    }

    public int send(int ends, int size, int limit) {
        if (!areEnds(ends) || !isSize(size)) {
            return BAD;
        }
        if (bundleCount >= MAX_BUNDLES) {
            return FULL;
        }
        int b = bundleCount;
        source[b] = ends / NODES;
        target[b] = ends % NODES;
        sizeOf[b] = size;
        limitOf[b] = limit;
        bundleCount = b + 1;
        plan(b);
        return b;
    }

    public int pass(int ticks) {
        if (ticks < 0 || ticks > MAX_PASS) {
            return BAD;
        }
        now += ticks;
        return now;
    }

    public int time() {
        return now;
    }

    public int state(int b) {
        if (!isBundle(b)) {
            return BAD;
        }
        if (!routed[b]) {
            return 0;
        }
        return lastComesIn(b) > now ? 1 : 2;
    }

    public int arrival(int b) {
        if (!isBundle(b)) {
            return BAD;
        }
        return routed[b] ? lastComesIn(b) : NONE;
    }

    public int hops(int b) {
        return isBundle(b) ? hopCount[b] : BAD;
    }

    public int hop(int b, int i) {
        if (!isBundle(b)) {
            return BAD;
        }
        if (i < 0 || i >= hopCount[b]) {
            return NONE;
        }
        int h = b * MAX_HOPS + i;
        return HOP_BASE * hopContact[h] + hopBegin[h];
    }

    public int place(int b) {
        if (!isBundle(b)) {
            return BAD;
        }
        for (int i = 0; i < hopCount[b]; i++) {
            if (comesIn(b, i) > now) {
                int h = b * MAX_HOPS + i;
                int k = hopContact[h];
                return hopBegin[h] < now ? UNDER_WAY + k : from[k];
            }
        }
        return lastNode(b);
    }

    public int quote(int ends, int size) {
        if (!areEnds(ends) || !isSize(size)) {
            return BAD;
        }
        findBest(ends / NODES, ends % NODES, size, now);
        return bestLength > 0 ? bestArrival : NONE;
    }

    public int reach(int node, int size, int by) {
        if (node < 0 || node >= NODES || !isSize(size)) {
            return BAD;
        }
        int set = 1 << node;
        for (int other = 0; other < NODES; other++) {
            if (other != node && arrivesBy(node * NODES + other, size, now, by)) {
                set |= 1 << other;
            }
        }
        return set;
    }

    public int latest(int ends, int size, int by) {
        if (!areEnds(ends) || !isSize(size)) {
            return BAD;
        }
        for (int ready = LAST_TIME; ready >= 0; ready--) {
            if (ready < now) {
                return LATE;
            }
            if (arrivesBy(ends, size, ready, by)) {
                return ready;
            }
        }
        return LATE;
    }

    private static boolean areEnds(int ends) {
        return ends >= 0 && ends < NODES * NODES && ends / NODES != ends % NODES;
    }

    private static boolean isSpan(int span) {
        // The remainder is 100 at most, and so, when it is less, is the start.
        return span >= 0 && span / SPAN_BASE < span % SPAN_BASE;
    }

    private static boolean areTerms(int terms) {
        return terms >= TERMS_BASE && terms < TERMS_BASE * TERMS_BASE;
    }

    private static boolean isSize(int size) {
        return size >= 1 && size <= MAX_SIZE;
    }

    private boolean isContact(int k) {
        return k >= 0 && k < contactCount;
    }

    private boolean isBundle(int b) {
        return b >= 0 && b < bundleCount;
    }

    private int ticksOver(int k, int size) {
        return (size + rate[k] - 1) / rate[k];
    }

    private int comesIn(int b, int i) {
        int h = b * MAX_HOPS + i;
        int k = hopContact[h];
        return hopBegin[h] + ticksOver(k, sizeOf[b]) + delay[k];
    }

    /** When the bundle comes in by its last booking; before all times if it has none. */
    private int lastComesIn(int b) {
        return hopCount[b] > 0 ? comesIn(b, hopCount[b] - 1) : -1;
    }

    private int lastNode(int b) {
        return hopCount[b] > 0 ? to[hopContact[b * MAX_HOPS + hopCount[b] - 1]] : source[b];
    }

    /** The bundle's first booking on the contact that is not wholly out; its number of bookings if there is none. */
    private int firstNotGoneOut(int b, int k) {
        int ticks = ticksOver(k, sizeOf[b]);
        for (int i = 0; i < hopCount[b]; i++) {
            int h = b * MAX_HOPS + i;
            if (hopContact[h] == k && hopBegin[h] + ticks > now) {
                return i;
            }
        }
        return hopCount[b];
    }

    private void loseFrom(int b, int first) {
        for (int i = first; i < hopCount[b]; i++) {
            int h = b * MAX_HOPS + i;
            int ticks = ticksOver(hopContact[h], sizeOf[b]);
            mark(hopContact[h], hopBegin[h], ticks, false);
        }
        hopCount[b] = first;
        routed[b] = false;
    }

    private void mark(int k, int begin, int ticks, boolean isTaken) {
        for (int tick = begin; tick < begin + ticks; tick++) {
            taken[k * LAST_TIME + tick] = isTaken;
        }
    }

    private void retry() {
        for (int b = 0; b < bundleCount; b++) {
            if (!routed[b]) {
                plan(b);
            }
        }
    }

    /**
     * Plans a bundle from the node to which its bookings bring it. A bundle that
     * is there, or was under way from there, came in at the present time or
     * before, so the later of the two times is its ready time in every case.
     */
    private void plan(int b) {
        int cameIn = lastComesIn(b);
        int ready = cameIn > now ? cameIn : now;
        int node = lastNode(b);
        findBest(node, target[b], sizeOf[b], ready);
        if (bestLength > 0 && bestArrival <= limitOf[b]) {
            bookBest(b);
        }
    }

    private void bookBest(int b) {
        for (int i = 0; i < bestLength; i++) {
            int h = b * MAX_HOPS + hopCount[b];
            hopContact[h] = bestContact[i];
            hopBegin[h] = bestBegin[i];
            hopCount[b]++;
            int ticks = ticksOver(bestContact[i], sizeOf[b]);
            mark(bestContact[i], bestBegin[i], ticks, true);
        }
        routed[b] = true;
    }

    private boolean arrivesBy(int ends, int size, int ready, int by) {
        findBest(ends / NODES, ends % NODES, size, ready);
        return bestLength > 0 && bestArrival <= by;
    }

    /**
     * Tries the ways in the order of their contacts' numbers, so that of equally
     * good routes the first one found is the best. A way that comes to a node
     * twice is left out: without the loop it is no later, and shorter.
     */
    private void findBest(int node, int goal, int size, int ready) {
        bestLength = 0;
        bestArrival = 0;
        int depth = 0;
        wayNode[0] = node;
        wayReady[0] = ready;
        wayNext[0] = 0;
        for (int step = 0; step < MAX_STEPS && depth >= 0; step++) {
            int k = wayNext[depth];
            if (k >= contactCount) {
                depth--;
                continue;
            }
            wayNext[depth] = k + 1;
            if (!leadsOn(k, depth)) {
                continue;
            }
            int ticks = ticksOver(k, size);
            int begin = leastBegin(k, ticks, wayReady[depth]);
            if (begin == NONE) {
                continue;
            }
            wayContact[depth] = k;
            wayBegin[depth] = begin;
            int comeIn = begin + ticks + delay[k];
            if (to[k] == goal) {
                keepIfBetter(depth + 1, comeIn);
            } else if (depth + 1 < MAX_ROUTE) {
                depth++;
                wayNode[depth] = to[k];
                wayReady[depth] = comeIn;
                wayNext[depth] = 0;
            }
        }
    }

    private boolean leadsOn(int k, int depth) {
        if (cancelled[k] || from[k] != wayNode[depth]) {
            return false;
        }
        for (int i = 0; i < depth; i++) {
            if (wayNode[i] == to[k]) {
                return false;
            }
        }
        return true;
    }

    private int leastBegin(int k, int ticks, int ready) {
        int free = 0;
        for (int tick = ready > start[k] ? ready : start[k]; tick < end[k]; tick++) {
            free = taken[k * LAST_TIME + tick] ? 0 : free + 1;
            if (free == ticks) {
                return tick - ticks + 1;
            }
        }
        return NONE;
    }

    private void keepIfBetter(int length, int arrival) {
        boolean better = bestLength == 0 || arrival < bestArrival
            || arrival == bestArrival && length < bestLength;
        if (!better) {
            return;
        }
        bestLength = length;
        bestArrival = arrival;
        for (int i = 0; i < length; i++) {
            bestContact[i] = wayContact[i];
            bestBegin[i] = wayBegin[i];
        }
    }
}
