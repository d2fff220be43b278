import java.util.ArrayList;
import java.util.List;

/**
 * Long runs of made-up calls, answered by ContactNetwork and by a second, slow
 * program written from the document's words: it keeps lists of bookings and
 * looks at every list of one to five contacts, loops and all.
 */
public final class ModelTest {
    private static final int RUNS = 3000;
    private static final int CALLS = 120;

    private static final class Contact {
        int from, to, start, end, rate, delay;
        boolean cancelled;
    }

    private static final class Booking {
        int contact, begin, ticks, comesIn;
    }

    private static final class Bundle {
        int source, destination, size, limit, stuckAt;
        boolean stuck;
        final List<Booking> bookings = new ArrayList<>();
    }

    private static final class Model {
        int now = 0;
        final List<Contact> contacts = new ArrayList<>();
        final List<Bundle> bundles = new ArrayList<>();

        int contact(int ends, int span, int terms) {
            for (int from = 0; from < 6; from++) {
                for (int to = 0; to < 6; to++) {
                    if (from != to && ends == 6 * from + to) {
                        return contact(from, to, span, terms);
                    }
                }
            }
            return -1;
        }

        private int contact(int from, int to, int span, int terms) {
            Contact c = new Contact();
            c.from = from;
            c.to = to;
            c.start = -1;
            for (int start = 0; start < 100; start++) {
                for (int end = start + 1; end <= 100; end++) {
                    if (span == 101 * start + end) {
                        c.start = start;
                        c.end = end;
                    }
                }
            }
            for (int rate = 1; rate <= 9; rate++) {
                for (int delay = 0; delay <= 9; delay++) {
                    if (terms == 10 * rate + delay) {
                        c.rate = rate;
                        c.delay = delay;
                    }
                }
            }
            if (c.start < 0 || c.rate == 0) {
                return -1;
            }
            if (contacts.size() == 10) {
                return -3;
            }
            contacts.add(c);
            retry();
            return contacts.size() - 1;
        }

        boolean goodContact(int k) {
            return k >= 0 && k < contacts.size();
        }

        boolean goodBundle(int b) {
            return b >= 0 && b < bundles.size();
        }

        static boolean goodEnds(int ends) {
            return ends >= 0 && ends <= 35 && ends % 7 != 0;
        }

        static boolean goodSize(int size) {
            return 1 <= size && size <= 30;
        }

        int cancel(int k) {
            if (!goodContact(k) || contacts.get(k).cancelled) {
                return -1;
            }
            List<Bundle> hit = new ArrayList<>();
            List<Integer> ready = new ArrayList<>();
            for (Bundle b : bundles) {
                Booking lost = null;
                for (Booking g : b.bookings) {
                    if (lost == null && g.contact == k && g.begin + g.ticks > now) {
                        lost = g;
                    }
                }
                if (lost != null) {
                    int at = b.bookings.indexOf(lost);
                    boolean toCome = at > 0 && b.bookings.get(at - 1).comesIn > now;
                    hit.add(b);
                    ready.add(toCome ? b.bookings.get(at - 1).comesIn : now);
                    while (b.bookings.size() > at) {
                        b.bookings.remove(at);
                    }
                }
            }
            contacts.get(k).cancelled = true;
            for (int i = 0; i < hit.size(); i++) {
                plan(hit.get(i), contacts.get(k).from, ready.get(i));
            }
            retry();
            return hit.size();
        }

        private void retry() {
            for (Bundle b : bundles) {
                if (b.stuck) {
                    int ready = now;
                    for (Booking g : b.bookings) {
                        ready = Math.max(ready, g.comesIn);
                    }
                    plan(b, b.stuckAt, ready);
                }
            }
        }

        private void plan(Bundle b, int node, int ready) {
            List<Booking> best = best(node, ready, b.destination, b.size);
            b.stuck = best == null || arrivalOf(best) > b.limit;
            if (b.stuck) {
                b.stuckAt = node;
            } else {
                b.bookings.addAll(best);
            }
        }

        private static int arrivalOf(List<Booking> route) {
            return route.get(route.size() - 1).comesIn;
        }

        List<Booking> best(int node, int ready, int destination, int size) {
            List<List<Booking>> lists = new ArrayList<>();
            lists.add(new ArrayList<>());
            List<Booking> best = null;
            for (int length = 1; length <= 5; length++) {
                List<List<Booking>> longer = new ArrayList<>();
                for (List<Booking> list : lists) {
                    int at = list.isEmpty() ? node : contacts.get(list.get(length - 2).contact).to;
                    int since = list.isEmpty() ? ready : arrivalOf(list);
                    for (int k = 0; k < contacts.size(); k++) {
                        Booking g = contacts.get(k).from == at ? book(k, since, size, list) : null;
                        if (g != null) {
                            List<Booking> next = new ArrayList<>(list);
                            next.add(g);
                            longer.add(next);
                            if (contacts.get(k).to == destination && (best == null || better(next, best))) {
                                best = next;
                            }
                        }
                    }
                }
                lists = longer;
            }
            return best;
        }

        private static boolean better(List<Booking> a, List<Booking> b) {
            if (arrivalOf(a) != arrivalOf(b)) {
                return arrivalOf(a) < arrivalOf(b);
            }
            if (a.size() != b.size()) {
                return a.size() < b.size();
            }
            for (int i = 0; i < a.size(); i++) {
                if (a.get(i).contact != b.get(i).contact) {
                    return a.get(i).contact < b.get(i).contact;
                }
            }
            return false;
        }

        private Booking book(int k, int since, int size, List<Booking> before) {
            Contact c = contacts.get(k);
            if (c.cancelled) {
                return null;
            }
            Booking g = new Booking();
            g.contact = k;
            g.ticks = 0;
            while (g.ticks * c.rate < size) {
                g.ticks++;
            }
            for (g.begin = 0; g.begin + g.ticks <= c.end; g.begin++) {
                if (g.begin >= since && g.begin >= c.start && fits(g, before)) {
                    g.comesIn = g.begin + g.ticks + c.delay;
                    return g;
                }
            }
            return null;
        }

        private boolean fits(Booking g, List<Booking> before) {
            for (Bundle b : bundles) {
                if (meets(g, b.bookings)) {
                    return false;
                }
            }
            return !meets(g, before);
        }

        private static boolean meets(Booking g, List<Booking> others) {
            for (Booking o : others) {
                if (o.contact == g.contact && g.begin < o.begin + o.ticks && o.begin < g.begin + g.ticks) {
                    return true;
                }
            }
            return false;
        }

        int booked(int k) {
            if (!goodContact(k)) {
                return -1;
            }
            int sum = 0;
            for (Bundle b : bundles) {
                for (Booking g : b.bookings) {
                    sum += g.contact == k ? g.ticks : 0;
                }
            }
            return contacts.get(k).cancelled ? -2 : sum;
        }

        int send(int ends, int size, int limit) {
            if (!goodEnds(ends) || !goodSize(size)) {
                return -1;
            }
            if (bundles.size() == 10) {
                return -3;
            }
            Bundle b = new Bundle();
            b.source = ends / 6;
            b.destination = ends % 6;
            b.size = size;
            b.limit = limit;
            bundles.add(b);
            plan(b, b.source, now);
            return bundles.size() - 1;
        }

        int pass(int ticks) {
            if (ticks < 0 || ticks > 200) {
                return -1;
            }
            now += ticks;
            return now;
        }

        int state(int b) {
            if (!goodBundle(b)) {
                return -1;
            }
            Bundle x = bundles.get(b);
            return x.stuck ? 0 : arrivalOf(x.bookings) <= now ? 2 : 1;
        }

        int arrival(int b) {
            if (!goodBundle(b)) {
                return -1;
            }
            return bundles.get(b).stuck ? -2 : arrivalOf(bundles.get(b).bookings);
        }

        int hops(int b) {
            return goodBundle(b) ? bundles.get(b).bookings.size() : -1;
        }

        int hop(int b, int i) {
            if (!goodBundle(b)) {
                return -1;
            }
            List<Booking> list = bundles.get(b).bookings;
            return i < 0 || i >= list.size() ? -2 : 1000 * list.get(i).contact + list.get(i).begin;
        }

        int place(int b) {
            if (!goodBundle(b)) {
                return -1;
            }
            int at = bundles.get(b).source;
            for (Booking g : bundles.get(b).bookings) {
                if (g.comesIn > now) {
                    return g.begin < now ? 10 + g.contact : at;
                }
                at = contacts.get(g.contact).to;
            }
            return at;
        }

        int quote(int ends, int size) {
            if (!goodEnds(ends) || !goodSize(size)) {
                return -1;
            }
            List<Booking> route = best(ends / 6, now, ends % 6, size);
            return route == null ? -2 : arrivalOf(route);
        }

        int reach(int node, int size, int by) {
            if (node < 0 || node > 5 || !goodSize(size)) {
                return -1;
            }
            int set = 0;
            for (int n = 0; n < 6; n++) {
                List<Booking> route = n == node ? null : best(node, now, n, size);
                if (n == node || route != null && arrivalOf(route) <= by) {
                    set += 1 << n;
                }
            }
            return set;
        }

        int latest(int ends, int size, int by) {
            if (!goodEnds(ends) || !goodSize(size)) {
                return -1;
            }
            int answer = -4;
            for (int t = now; t <= 100; t++) {
                List<Booking> route = best(ends / 6, t, ends % 6, size);
                if (route != null && arrivalOf(route) <= by) {
                    answer = t;
                }
            }
            return answer;
        }
    }

    private interface Call {
        int on(ContactNetwork x);
    }

    private static long seed = 1;
    private static int wrong = 0;
    private static boolean wide = false;

    // The object under test, how many calls it has had, and the calls of the
    // present run, by which a new object is led to where the old one is.
    private static ContactNetwork x;
    private static int used;
    private static final List<Call> made = new ArrayList<>();
    private static final List<String> texts = new ArrayList<>();

    // What the runs must have met, lest they test less than they seem to.
    private static int hitsSeen = 0;
    private static int stuckWithHopsSeen = 0;
    private static int sameContactTwiceSeen = 0;
    private static int fiveHopsSeen = 0;
    private static int arrivedSeen = 0;

    private static int below(int bound) {
        seed = seed * 6364136223846793005L + 1442695040888963407L;
        return (int) ((seed >>> 33) % bound);
    }

    /** Asks the object; since it is good for 512 calls alone, a new one takes its place then. */
    private static void due(String text, Call call, int want) {
        if (used == 512) {
            x = new ContactNetwork();
            for (Call before : made) {
                before.on(x);
            }
            used = made.size();
        }
        used++;
        int got = call.on(x);
        if (got != want) {
            wrong++;
            if (wrong <= 3) {
                System.out.println("after " + texts + ", " + text + " answered " + got + ", due is " + want);
            }
        }
    }

    private static void step(String text, Call call, int want) {
        due(text, call, want);
        made.add(call);
        texts.add(text);
    }

    /** A number from 0 on below the bound, and now and then one outside. */
    private static int maybe(int bound) {
        int[] outside = {-1, bound, bound + 1, Integer.MIN_VALUE, Integer.MAX_VALUE};
        return below(40) == 0 ? outside[below(outside.length)] : below(bound);
    }

    private static int someEnds(int nodes) {
        if (below(30) == 0) {
            return maybe(36);
        }
        int from = below(nodes);
        return 6 * from + (from + 1 + below(nodes - 1)) % nodes;
    }

    private static int someSpan() {
        if (below(30) == 0) {
            return maybe(101 * 101);
        }
        if (wide && below(4) > 0) {
            return 101 * below(20) + 50 + below(51);
        }
        int start = below(3) == 0 ? 0 : below(60);
        int length = 1 + below(below(2) == 0 ? 12 : 60);
        return 101 * start + Math.min(100, start + length);
    }

    private static int someTerms() {
        return below(30) == 0 ? maybe(120) : 10 * (1 + below(9)) + below(below(2) == 0 ? 3 : 10);
    }

    private static int someSize() {
        return below(30) == 0 ? maybe(31) : 1 + below(below(2) == 0 ? 10 : 30);
    }

    private static int someTime() {
        int[] odd = {Integer.MIN_VALUE, Integer.MAX_VALUE, 0, -1};
        return below(20) == 0 ? odd[below(odd.length)] : below(3) == 0 ? 1000 : below(115);
    }

    private static void addContact(Model m, int e) {
        int s = someSpan(), t = someTerms();
        step("contact(" + e + ", " + s + ", " + t + ")", o -> o.contact(e, s, t), m.contact(e, s, t));
    }

    private static void change(Model m, int nodes) {
        int kind = below(10);
        if (kind < 3) {
            addContact(m, someEnds(nodes));
        } else if (kind < 5) {
            int k = maybe(10);
            int hits = m.cancel(k);
            hitsSeen += Math.max(0, hits);
            step("cancel(" + k + ")", o -> o.cancel(k), hits);
        } else if (kind < 8) {
            int e = someEnds(nodes), s = someSize(), t = someTime();
            step("send(" + e + ", " + s + ", " + t + ")", o -> o.send(e, s, t), m.send(e, s, t));
        } else {
            int t = below(50) == 0 ? maybe(201) : below(5);
            step("pass(" + t + ")", o -> o.pass(t), m.pass(t));
        }
    }

    private static void ask(Model m, int nodes) {
        int e = someEnds(nodes), s = someSize(), by = someTime(), n = maybe(6);
        int kind = below(3);
        if (kind == 0) {
            step("quote(" + e + ", " + s + ")", o -> o.quote(e, s), m.quote(e, s));
        } else if (kind == 1) {
            step("reach(" + n + ", " + s + ", " + by + ")", o -> o.reach(n, s, by), m.reach(n, s, by));
        } else if (below(8) == 0) {
            step("latest(" + e + ", " + s + ", " + by + ")", o -> o.latest(e, s, by), m.latest(e, s, by));
        }
    }

    private static void compareAll(Model m) {
        due("time()", ContactNetwork::time, m.now);
        for (int number = -1; number <= 10; number++) {
            int k = number;
            due("booked(" + k + ")", o -> o.booked(k), m.booked(k));
        }
        for (int number = -1; number <= 10; number++) {
            int b = number;
            due("state(" + b + ")", o -> o.state(b), m.state(b));
            due("arrival(" + b + ")", o -> o.arrival(b), m.arrival(b));
            due("hops(" + b + ")", o -> o.hops(b), m.hops(b));
            due("place(" + b + ")", o -> o.place(b), m.place(b));
            for (int place = -1; place <= Math.max(0, m.hops(b)); place++) {
                int i = place;
                due("hop(" + b + ", " + i + ")", o -> o.hop(b, i), m.hop(b, i));
            }
        }
        for (Bundle b : m.bundles) {
            note(b, m);
        }
    }

    private static void note(Bundle b, Model m) {
        stuckWithHopsSeen += b.stuck && !b.bookings.isEmpty() ? 1 : 0;
        fiveHopsSeen += b.bookings.size() >= 5 ? 1 : 0;
        arrivedSeen += !b.stuck && Model.arrivalOf(b.bookings) <= m.now ? 1 : 0;
        for (Booking g : b.bookings) {
            for (Booking o : b.bookings) {
                sameContactTwiceSeen += g != o && g.contact == o.contact ? 1 : 0;
            }
        }
    }

    private static void run() {
        Model m = new Model();
        int nodes = 2 + below(5);
        boolean ring = below(2) == 0;
        wide = below(2) == 0;
        x = new ContactNetwork();
        used = 0;
        made.clear();
        texts.clear();
        for (int i = 0; i < CALLS && wrong == 0; i++) {
            // The network grows before it shrinks; as a ring, it has long routes.
            if (i < 6) {
                addContact(m, ring ? 6 * (i % nodes) + (i + 1) % nodes : someEnds(nodes));
            } else if (below(3) > 0) {
                change(m, nodes);
            } else {
                ask(m, nodes);
            }
            compareAll(m);
        }
    }

    private static void dueSeen(String what, int count) {
        if (count == 0) {
            wrong++;
            System.out.println("the runs never met: " + what);
        }
    }

    public static void main(String[] args) {
        for (int r = 0; r < RUNS && wrong == 0; r++) {
            run();
        }
        dueSeen("a hit bundle", hitsSeen);
        dueSeen("a stuck bundle with bookings", stuckWithHopsSeen);
        dueSeen("a bundle with two bookings on a contact", sameContactTwiceSeen);
        dueSeen("a bundle with five bookings", fiveHopsSeen);
        dueSeen("an arrived bundle", arrivedSeen);
        System.out.println("met: hits " + hitsSeen + ", stuck with bookings " + stuckWithHopsSeen
            + ", contact twice " + sameContactTwiceSeen + ", five bookings " + fiveHopsSeen + ", arrived " + arrivedSeen);
        System.out.println(wrong == 0 ? "both programs agree" : "the programs do not agree");
        if (wrong != 0) {
            System.exit(1);
        }
    }
}
