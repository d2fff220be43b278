/**
 * The document's sentences that name a boundary, one after the other: each has a
 * test of its own here, on both sides of the boundary. No object gets more than
 * 512 calls, since what later ones answer is free.
 */
public final class BoundaryTest {
    private static final int BAD = -1;
    private static final int NONE = -2;
    private static final int FULL = -3;
    private static final int LATE = -4;
    private static final int MIN = Integer.MIN_VALUE;
    private static final int MAX = Integer.MAX_VALUE;

    // Added to a good number, each of these gives one that looks good once high bits are lost.
    private static final int[] FAR_OFF = {1 << 8, 1 << 15, 1 << 16, 1 << 30, MIN, -(1 << 8), -(1 << 16), -(1 << 30)};
    private static final int[] EDGES = {MIN, MIN + 1, -(1 << 16), -(1 << 8), 1 << 8, 1 << 16, MAX - 1, MAX};

    private static int wrong = 0;
    private static String sentence = "";

    private static void due(String what, int got, int want) {
        if (got != want) {
            wrong++;
            if (wrong <= 100) {
                System.out.println("\"" + sentence + "\", " + what + ": answered " + got + ", due is " + want);
            }
        }
    }

    private static void dueHops(String what, ContactNetwork x, int b, int... hops) {
        due(what + ", hops(" + b + ")", x.hops(b), hops.length);
        for (int i = 0; i < hops.length; i++) {
            due(what + ", hop(" + b + ", " + i + ")", x.hop(b, i), hops[i]);
        }
    }

    private static int ends(int from, int to) {
        return 6 * from + to;
    }

    private static int add(ContactNetwork x, int from, int to, int start, int end, int rate, int delay) {
        return x.contact(ends(from, to), 101 * start + end, 10 * rate + delay);
    }

    private static int ceil(int size, int rate) {
        int ticks = 0;
        for (int left = size; left > 0; left -= rate) {
            ticks++;
        }
        return ticks;
    }

    private static ContactNetwork at(ContactNetwork x, int time) {
        due("pass", x.pass(time), time);
        return x;
    }

    public static void main(String[] args) {
        terms();
        changes();
        questions();
        System.out.println(wrong == 0 ? "all boundaries hold" : wrong + " answers are not as due");
        if (wrong != 0) {
            System.exit(1);
        }
    }

    private static void terms() {
        sixNodesInContact();
        sixNodesInSend();
        sixNodesInQuestions();
        timesOfAContact();
        ratesAndDelays();
        tenContacts();
        contactNumbers();
        sizes();
        limits();
        tenBundles();
        bundleNumbers();
        ticksRoundedUp();
        bookingFromStartToEnd();
        noTickTwice();
        timeOfComingIn();
        oneToFiveContacts();
        oneLeadsOnFromTheOther();
        contactsNotCancelled();
        readyAtTheFirstContact();
        readyAtTheNextContact();
        noBookingNoRoute();
        usable();
        better();
        stuckAtThatNode();
        whereItIs();
        arrivedForGood();
        testsInOrder();
    }

    private static void changes() {
        newObject();
        contactWithoutBookings();
        contactPlansStuckOnes();
        cancelGoodNumbers();
        cancelHits();
        cancelFirstSuchBooking();
        cancelReady();
        cancelLosesLaterOnes();
        cancelStuckOrKept();
        cancelCountsHits();
        retryReady();
        retryLimit();
        passTicks();
    }

    private static void questions() {
        bookedTicks();
        states();
        arrivals();
        hopCounts();
        manyHops();
        hopNumbers();
        places();
        quotes();
        reachBy();
        latestBy();
        latestFromNowTo100();
    }

    // Terms

    private static void sixNodesInContact() {
        sentence = "There are six NODES 0 .. 5; ends is not that of two different nodes: BAD (contact)";
        for (int from = -2; from <= 8; from++) {
            for (int to = 0; to < 6; to++) {
                int e = 6 * from + to;
                boolean good = from >= 0 && from <= 5 && from != to;
                ContactNetwork x = new ContactNetwork();
                due("contact(" + e + ")", x.contact(e, 100, 10), good ? 0 : BAD);
                for (int other = 0; other < 36; other++) {
                    boolean two = other / 6 != other % 6;
                    due("quote(" + other + ") with ends " + e, x.quote(other, 1), !two ? BAD : good && other == e ? 1 : NONE);
                }
            }
        }
        ContactNetwork x = new ContactNetwork();
        for (int e : EDGES) {
            due("contact(" + e + ")", x.contact(e, 100, 10), BAD);
        }
        for (int far : FAR_OFF) {
            due("contact(1 + " + far + ")", x.contact(1 + far, 100, 10), BAD);
            due("contact(34 + " + far + ")", x.contact(34 + far, 100, 10), BAD);
        }
        due("no contact came of it", x.booked(0), BAD);
    }

    private static void sixNodesInSend() {
        sentence = "A BUNDLE has two different nodes; ends is not that of two different nodes: BAD (send)";
        for (int from = -2; from <= 8; from++) {
            for (int to = 0; to < 6; to++) {
                int e = 6 * from + to;
                boolean good = from >= 0 && from <= 5 && from != to;
                ContactNetwork x = new ContactNetwork();
                due("send(" + e + ")", x.send(e, 1, MAX), good ? 0 : BAD);
                due("place with ends " + e, x.place(0), good ? from : BAD);
                x.contact(good ? e : 1, 100, 10);
                due("state with ends " + e, x.state(0), good ? 1 : BAD);
            }
        }
        ContactNetwork x = new ContactNetwork();
        for (int e : EDGES) {
            due("send(" + e + ")", x.send(e, 1, MAX), BAD);
        }
        for (int far : FAR_OFF) {
            due("send(1 + " + far + ")", x.send(1 + far, 1, MAX), BAD);
            due("send(34 + " + far + ")", x.send(34 + far, 1, MAX), BAD);
        }
        due("no bundle came of it", x.state(0), BAD);
    }

    private static void sixNodesInQuestions() {
        sentence = "ends not as in send: BAD (quote, latest); node is not good: BAD (reach)";
        ContactNetwork x = new ContactNetwork();
        for (int e = -12; e < 54; e++) {
            boolean good = e >= 0 && e < 36 && e / 6 != e % 6;
            due("quote(" + e + ")", x.quote(e, 1), good ? NONE : BAD);
            due("latest(" + e + ")", x.latest(e, 1, MAX), good ? LATE : BAD);
        }
        for (int e : EDGES) {
            due("quote(" + e + ")", x.quote(e, 1), BAD);
            due("latest(" + e + ")", x.latest(e, 1, MAX), BAD);
            due("reach(" + e + ")", x.reach(e, 1, MAX), BAD);
        }
        for (int far : FAR_OFF) {
            due("quote(1 + " + far + ")", x.quote(1 + far, 1), BAD);
            due("latest(1 + " + far + ")", x.latest(1 + far, 1, MAX), BAD);
            due("reach(1 + " + far + ")", x.reach(1 + far, 1, MAX), BAD);
        }
        for (int node = -40; node < 80; node++) {
            due("reach(" + node + ")", x.reach(node, 1, MAX), node >= 0 && node <= 5 ? 1 << node : BAD);
        }
    }

    private static void timesOfAContact() {
        sentence = "times with 0 <= START < END <= 100; span not that of times as above: BAD";
        ContactNetwork x = new ContactNetwork();
        for (int start = -3; start <= 103; start++) {
            for (int end = 0; end <= 100; end++) {
                boolean good = start >= 0 && start < end;
                int span = 101 * start + end;
                if (good) {
                    oneSpan(span, start, end);
                } else {
                    ContactNetwork y = new ContactNetwork();
                    due("span " + span, y.contact(1, span, 10), BAD);
                    due("no contact by span " + span, y.booked(0), BAD);
                }
            }
        }
        for (int edge : EDGES) {
            due("span " + edge, x.contact(1, edge, 10), (edge == 1 << 8) ? 0 : BAD);
        }
        int[] far = {1 << 15, 1 << 16, 1 << 30, MIN, -(1 << 16), -(1 << 30), 101 * 101, -101 * 101, -101 * 102};
        for (int off : far) {
            for (int span = 1; span <= 100; span += 33) {
                due("span " + span + " + " + off, x.contact(1, span + off, 10), BAD);
            }
        }
        due("the one that is good, and no more", x.booked(1), BAD);
    }

    /** The first and the last tick of the contact are used, those beside them are not. */
    private static void oneSpan(int span, int start, int end) {
        ContactNetwork x = new ContactNetwork();
        due("span " + span, x.contact(1, span, 10), 0);
        due("begins with the start, span " + span, x.quote(1, 1), start + 1);
        due("ends with the end, span " + span, x.latest(1, 1, MAX), end - 1);
        if (end - start < 30) {
            due("just fills span " + span, x.quote(1, end - start), end);
            due("is too great for span " + span, x.quote(1, end - start + 1), NONE);
        }
    }

    private static void ratesAndDelays() {
        sentence = "a RATE 1 .. 9 and a DELAY 0 .. 9; terms not that of such: BAD";
        for (int terms = -120; terms <= 220; terms++) {
            boolean good = terms >= 10 && terms <= 99;
            ContactNetwork x = new ContactNetwork();
            due("terms " + terms, x.contact(1, 100, terms), good ? 0 : BAD);
            due("contact of terms " + terms, x.booked(0), good ? 0 : BAD);
            for (int size = 1; good && size <= 30; size++) {
                due("size " + size + ", terms " + terms, x.quote(1, size), ceil(size, terms / 10) + terms % 10);
            }
        }
        ContactNetwork x = new ContactNetwork();
        for (int edge : EDGES) {
            due("terms " + edge, x.contact(1, 100, edge), BAD);
        }
        for (int far : FAR_OFF) {
            due("terms 10 + " + far, x.contact(1, 100, 10 + far), BAD);
            due("terms 99 + " + far, x.contact(1, 100, 99 + far), BAD);
        }
        due("no contact came of it", x.booked(0), BAD);
    }

    private static void tenContacts() {
        sentence = "At most ten contacts are ever added; ten were added: FULL";
        ContactNetwork x = new ContactNetwork();
        for (int k = 0; k < 10; k++) {
            due("contact " + k, add(x, 0, 1, 0, 10, 1, 0), k);
        }
        due("eleventh", add(x, 2, 3, 0, 100, 1, 0), FULL);
        due("twelfth", add(x, 2, 3, 0, 100, 1, 0), FULL);
        due("not added", x.quote(ends(2, 3), 1), NONE);
        due("no number 10", x.booked(10), BAD);
        for (int k = 0; k < 10; k++) {
            due("cancel(" + k + ")", x.cancel(k), 0);
            due("a cancelled one was added too", add(x, 2, 3, 0, 100, 1, 0), FULL);
        }
        x.pass(200);
        due("one of the past was added too", add(x, 2, 3, 0, 100, 1, 0), FULL);
    }

    private static void contactNumbers() {
        sentence = "they have the numbers 0, 1, .. in the order of their adding";
        ContactNetwork x = new ContactNetwork();
        for (int k = 0; k < 10; k++) {
            due("refused ends", x.contact(0, 100, 10), BAD);
            due("refused span", x.contact(1, 0, 10), BAD);
            due("refused terms", x.contact(1, 100, 9), BAD);
            due("not there yet", x.booked(k), BAD);
            due("added", add(x, k % 6, (k + 1) % 6, k, 100, 1, 0), k);
            due("there", x.booked(k), 0);
            due("its start", x.latest(ends(k % 6, (k + 1) % 6), 1, k + 1), k);
            if (k % 3 == 0) {
                due("cancelled", x.cancel(k), 0);
                due("keeps its number", x.booked(k), NONE);
            }
        }
    }

    private static void sizes() {
        sentence = "a SIZE 1 .. 30; size is not 1 .. 30: BAD";
        for (int size = -35; size <= 70; size++) {
            oneSize(size);
        }
        for (int edge : EDGES) {
            oneSize(edge);
        }
        for (int far : FAR_OFF) {
            oneSize(1 + far);
            oneSize(30 + far);
        }
    }

    private static void oneSize(int size) {
        boolean good = size >= 1 && size <= 30;
        ContactNetwork x = new ContactNetwork();
        add(x, 0, 1, 0, 50, 1, 0);
        due("quote, size " + size, x.quote(1, size), good ? size : BAD);
        due("reach, size " + size, x.reach(0, size, MAX), good ? 3 : BAD);
        due("latest, size " + size, x.latest(1, size, MAX), good ? 50 - size : BAD);
        due("send, size " + size, x.send(1, size, MAX), good ? 0 : BAD);
        due("booked, size " + size, x.booked(0), good ? size : 0);
        due("state, size " + size, x.state(0), good ? 1 : BAD);
    }

    private static void limits() {
        sentence = "limit any int";
        int[] passed = {13, 14, 100, 1000, 1 << 16, 1 << 30, MAX - 1, MAX};
        int[] missed = {12, 11, 0, -1, -13, -(1 << 16), -(1 << 30), MIN + 1, MIN};
        for (int limit : passed) {
            ContactNetwork x = new ContactNetwork();
            add(x, 0, 1, 5, 50, 1, 2);
            due("sent with limit " + limit, x.send(1, 6, limit), 0);
            due("routed with limit " + limit, x.arrival(0), 13);
        }
        for (int limit : missed) {
            ContactNetwork x = new ContactNetwork();
            add(x, 0, 1, 5, 50, 1, 2);
            due("sent with limit " + limit, x.send(1, 6, limit), 0);
            due("stuck with limit " + limit, x.arrival(0), NONE);
        }
    }

    private static void tenBundles() {
        sentence = "At most ten bundles are ever sent; ten were sent: FULL";
        ContactNetwork x = new ContactNetwork();
        add(x, 0, 1, 0, 10, 9, 0);
        for (int b = 0; b < 10; b++) {
            // Routed ones and stuck ones count alike.
            due("bundle " + b, x.send(b % 2 == 0 ? ends(0, 1) : ends(1, 0), 9, 100), b);
        }
        due("eleventh", x.send(ends(0, 1), 9, 100), FULL);
        due("twelfth", x.send(ends(0, 1), 9, 100), FULL);
        due("five ticks booked", x.booked(0), 5);
        due("no number 10", x.state(10), BAD);
        x.pass(50);
        due("arrived", x.state(8), 2);
        due("an arrived one was sent too", x.send(ends(0, 1), 9, 100), FULL);
        x.cancel(0);
        due("still", x.send(ends(0, 1), 9, 100), FULL);
    }

    private static void bundleNumbers() {
        sentence = "they have the numbers 0, 1, .. in the order of sending";
        ContactNetwork x = new ContactNetwork();
        add(x, 0, 1, 0, 100, 1, 0);
        for (int b = 0; b < 10; b++) {
            due("refused ends", x.send(0, 1, 1000), BAD);
            due("refused size", x.send(1, 0, 1000), BAD);
            due("not there yet", x.state(b), BAD);
            due("sent", x.send(1, 1, 1000), b);
            due("its booking", x.hop(b, 0), b);
        }
    }

    private static void ticksRoundedUp() {
        sentence = "a bundle needs size / rate ticks, rounded up";
        for (int rate = 1; rate <= 9; rate++) {
            for (int size = 1; size <= 30; size++) {
                int ticks = ceil(size, rate);
                ContactNetwork x = new ContactNetwork();
                add(x, 0, 1, 20, 20 + ticks, rate, 0);
                if (ticks > 1) {
                    add(x, 2, 3, 20, 20 + ticks - 1, rate, 0);
                }
                String what = "size " + size + ", rate " + rate;
                due(what + ", one tick too few", x.quote(ends(2, 3), size), NONE);
                x.send(1, size, 1000);
                due(what + ", just enough", x.booked(0), ticks);
                due(what + ", arrival", x.arrival(0), 20 + ticks);
            }
        }
    }

    private static void bookingFromStartToEnd() {
        sentence = "all of these lie from START to END (b >= START, and b + ticks <= END)";
        // 40 .. 50 has room for five ticks from 40 to 45 on.
        for (int time = 35; time <= 50; time++) {
            ContactNetwork x = new ContactNetwork();
            add(x, 0, 1, 40, 50, 1, 0);
            at(x, time).send(1, 5, 1000);
            if (time <= 45) {
                dueHops("ready at " + time, x, 0, time < 40 ? 40 : time);
            } else {
                dueHops("ready at " + time, x, 0);
            }
        }
        ContactNetwork x = new ContactNetwork();
        add(x, 0, 1, 99, 100, 1, 0);
        add(x, 2, 3, 0, 1, 1, 0);
        x.send(ends(0, 1), 1, 1000);
        x.send(ends(2, 3), 1, 1000);
        x.send(ends(2, 3), 1, 1000);
        dueHops("last tick of all", x, 0, 99);
        dueHops("first tick of all", x, 1, 1000);
        dueHops("no second one in a tick", x, 2);
    }

    private static void noTickTwice() {
        sentence = "no tick belongs to two bookings of a contact; the least begin that is possible";
        // Ticks 0 .. 3 and 9 .. 12 are taken: a gap of five, then all from 13 on.
        for (int size = 1; size <= 13; size++) {
            ContactNetwork x = withGap();
            x.send(1, size, 1000);
            if (size <= 5) {
                dueHops("size " + size, x, 2, 1004);
            } else if (size <= 12) {
                dueHops("size " + size, x, 2, 1013);
            } else {
                dueHops("size " + size, x, 2);
            }
        }
        ContactNetwork x = withGap();
        x.send(1, 2, 1000);
        x.send(1, 3, 1000);
        x.send(1, 1, 1000);
        dueHops("gap begun", x, 2, 1004);
        dueHops("gap filled", x, 3, 1006);
        dueHops("gap closed", x, 4, 1013);
        x = withGap();
        x.pass(5);
        x.send(1, 5, 1000);
        x.send(1, 4, 1000);
        dueHops("the gap that is left is four", x, 2, 1013);
        dueHops("which is enough for four", x, 3, 1005);
    }

    private static ContactNetwork withGap() {
        ContactNetwork x = new ContactNetwork();
        add(x, 2, 0, 0, 9, 4, 8);
        add(x, 0, 1, 0, 25, 1, 0);
        x.send(ends(2, 1), 4, 1000);
        x.send(ends(0, 1), 4, 1000);
        dueHops("over node 0", x, 0, 0, 1009);
        dueHops("before the other one", x, 1, 1000);
        return x;
    }

    private static void timeOfComingIn() {
        sentence = "It COMES IN at the other node at the time b + ticks + DELAY";
        for (int delay = 0; delay <= 9; delay++) {
            ContactNetwork x = new ContactNetwork();
            add(x, 0, 1, 90, 100, 3, delay);
            x.send(1, 30, 1000);
            due("delay " + delay, x.arrival(0), 100 + delay);
            x.pass(99 + delay);
            due("delay " + delay + ", a tick before", x.place(0), 10);
            x.pass(1);
            due("delay " + delay + ", then", x.place(0), 1);
        }
    }

    private static void oneToFiveContacts() {
        sentence = "a list of one to five contacts";
        for (int length = 1; length <= 5; length++) {
            ContactNetwork x = new ContactNetwork();
            for (int node = 0; node < length; node++) {
                add(x, node, node + 1, 0, 100, 1, 1);
            }
            due("a route of " + length, x.quote(ends(0, length), 2), 3 * length);
            due("reach over " + length, x.reach(0, 2, 3 * length), (1 << length + 1) - 1);
            due("latest over " + length, x.latest(ends(0, length), 2, 100), 100 - 3 * length);
            x.send(ends(0, length), 2, 3 * length);
            due("hops of " + length, x.hops(0), length);
            for (int i = 0; i < length; i++) {
                due("hop " + i + " of " + length, x.hop(0, i), 1000 * i + 3 * i);
            }
        }
        ContactNetwork x = new ContactNetwork();
        add(x, 0, 1, 0, 100, 1, 0);
        due("a list of none is no way to another node", x.quote(ends(1, 0), 1), NONE);
    }

    private static void oneLeadsOnFromTheOther() {
        sentence = "the first one leads from u, every other one from the node to which the one before leads, the last one to the destination";
        for (int gap = 0; gap < 5; gap++) {
            ContactNetwork x = new ContactNetwork();
            for (int node = 0; node < 5; node++) {
                if (node == gap) {
                    add(x, node + 1, node, 0, 100, 9, 0);
                } else {
                    add(x, node, node + 1, 0, 100, 9, 0);
                }
            }
            for (int node = 1; node <= 5; node++) {
                due("to " + node + ", gap after " + gap, x.quote(ends(0, node), 9), node <= gap ? node : NONE);
            }
            due("over the gap the other way", x.quote(ends(gap + 1, gap), 9), 1);
            due("the rest of the way", x.reach(gap + 1, 9, 1000) >> gap + 1, (1 << 5 - gap) - 1);
        }
    }

    private static void contactsNotCancelled() {
        sentence = "contacts that are not cancelled";
        ContactNetwork x = new ContactNetwork();
        add(x, 0, 1, 0, 100, 9, 0);
        add(x, 0, 1, 0, 100, 1, 0);
        add(x, 1, 2, 0, 100, 9, 0);
        due("over the quick one", x.quote(ends(0, 2), 9), 2);
        x.cancel(0);
        due("over the slow one", x.quote(ends(0, 2), 9), 10);
        due("reach", x.reach(0, 9, 9), 3);
        due("latest", x.latest(ends(0, 2), 9, 100), 90);
        x.send(ends(0, 2), 9, 1000);
        dueHops("send", x, 0, 1000, 2009);
        x.cancel(1);
        due("over none", x.quote(ends(0, 2), 9), NONE);
        due("reach none", x.reach(0, 9, MAX), 1);
        due("latest none", x.latest(ends(0, 2), 9, MAX), LATE);
    }

    private static void readyAtTheFirstContact() {
        sentence = "with the begin not before the bundle is ready: t for the first contact";
        for (int time = 0; time <= 12; time++) {
            ContactNetwork x = new ContactNetwork();
            add(x, 0, 1, 3, 10, 1, 0);
            at(x, time);
            int begin = time < 3 ? 3 : time;
            due("quote at " + time, x.quote(1, 2), begin + 2 <= 10 ? begin + 2 : NONE);
            x.send(1, 2, 1000);
            due("send at " + time, x.hop(0, 0), begin + 2 <= 10 ? begin : NONE);
        }
    }

    private static void readyAtTheNextContact() {
        sentence = "for every other one the time at which it comes in there";
        // It comes in at node 1 at the time 4 + 3 + 2 = 9.
        for (int start = 6; start <= 12; start++) {
            ContactNetwork x = new ContactNetwork();
            add(x, 0, 1, 4, 20, 1, 2);
            add(x, 1, 2, start, start + 3, 1, 0);
            x.send(ends(0, 2), 3, 1000);
            if (start < 9) {
                dueHops("next contact from " + start, x, 0);
            } else {
                dueHops("next contact from " + start, x, 0, 4, 1000 + start);
            }
        }
        ContactNetwork x = new ContactNetwork();
        add(x, 0, 1, 4, 20, 1, 2);
        add(x, 1, 2, 0, 100, 1, 0);
        x.send(ends(0, 2), 3, 1000);
        dueHops("the next contact is there before", x, 0, 4, 1009);
    }

    private static void noBookingNoRoute() {
        sentence = "If for some contact there is no such booking, it is no route";
        for (int place = 0; place < 3; place++) {
            ContactNetwork x = new ContactNetwork();
            for (int i = 0; i < 3; i++) {
                // The narrow one has room for two ticks; the others for many.
                add(x, i, i + 1, 30 * i, i == place ? 30 * i + 2 : 30 * i + 20, 1, 0);
            }
            due("two ticks, narrow is " + place, x.quote(ends(0, 3), 2), 62);
            due("three ticks, narrow is " + place, x.quote(ends(0, 3), 3), NONE);
            due("all but what comes after it", x.reach(0, 3, MAX), (1 << place + 1) - 1);
            x.send(ends(0, 3), 3, MAX);
            due("nothing of it is booked", x.booked(0) + x.booked(1) + x.booked(2), 0);
        }
    }

    private static void usable() {
        sentence = "It is USABLE if this is not after the bundle's limit";
        for (int limit = 14; limit <= 18; limit++) {
            ContactNetwork x = new ContactNetwork();
            add(x, 0, 1, 4, 20, 1, 2);
            add(x, 1, 2, 0, 100, 1, 4);
            x.send(ends(0, 2), 3, limit);
            due("limit " + limit, x.state(0), limit >= 16 ? 1 : 0);
            due("arrival with limit " + limit, x.arrival(0), limit >= 16 ? 16 : NONE);
            due("booked with limit " + limit, x.booked(0) + x.booked(1), limit >= 16 ? 6 : 0);
        }
    }

    private static void better() {
        sentence = "Of two routes the BETTER one has the lesser arrival; with the same arrival, the fewer contacts";
        // By node 1 it arrives at 6; straight on at start + 3.
        for (int start = 1; start <= 6; start++) {
            ContactNetwork x = new ContactNetwork();
            add(x, 0, 1, 0, 9, 1, 0);
            add(x, 1, 2, 0, 9, 1, 0);
            add(x, 0, 2, start, 20, 1, 0);
            x.send(ends(0, 2), 3, 1000);
            if (start <= 3) {
                dueHops("straight on from " + start, x, 0, 2000 + start);
            } else {
                dueHops("by node 1 before " + start, x, 0, 0, 1003);
            }
        }
        sentence = "with the same number too, the lesser number of a contact at the first place at which they differ";
        ContactNetwork x = new ContactNetwork();
        add(x, 1, 2, 0, 9, 1, 0);
        add(x, 3, 2, 0, 9, 1, 0);
        add(x, 0, 3, 0, 9, 1, 0);
        add(x, 0, 1, 0, 9, 1, 0);
        x.send(ends(0, 2), 3, 1000);
        dueHops("first place", x, 0, 2000, 1003);
        ContactNetwork y = new ContactNetwork();
        add(y, 1, 2, 5, 9, 1, 1);
        add(y, 1, 2, 6, 9, 1, 0);
        add(y, 0, 1, 0, 9, 1, 0);
        y.send(ends(0, 2), 3, 1000);
        dueHops("second place", y, 0, 2000, 5);
        ContactNetwork z = new ContactNetwork();
        add(z, 0, 1, 0, 9, 1, 0);
        add(z, 0, 1, 0, 9, 1, 0);
        z.send(ends(0, 1), 3, 1000);
        z.send(ends(0, 1), 3, 1000);
        dueHops("two that are alike", z, 0, 0);
        dueHops("now the other one is earlier", z, 1, 1000);
    }

    private static void stuckAtThatNode() {
        sentence = "if there is a usable route, it is ROUTED; else it is STUCK at that node";
        for (int node = 0; node < 6; node++) {
            ContactNetwork x = new ContactNetwork();
            int next = (node + 1) % 6;
            add(x, next, node, 0, 100, 1, 0);
            x.send(ends(node, next), 1, MAX);
            x.send(ends(next, node), 1, MAX);
            due("stuck", x.state(0), 0);
            due("at node " + node, x.place(0), node);
            dueHops("without bookings", x, 0);
            due("the other way is routed", x.state(1), 1);
            due("and is all that is booked", x.booked(0), 1);
        }
    }

    private static void whereItIs() {
        sentence = "its time of coming in is T or less; its begin is less than T; else at the node from which that one leads";
        // Out from 3 to 5, in at 7; out from 9 to 11, in at 11.
        int[] withWaits = {0, 0, 0, 0, 10, 10, 10, 1, 1, 1, 11, 2, 2, 2};
        for (int time = 0; time < withWaits.length; time++) {
            ContactNetwork x = new ContactNetwork();
            add(x, 0, 1, 3, 20, 1, 2);
            add(x, 1, 2, 9, 20, 1, 0);
            x.send(ends(0, 2), 2, 1000);
            due("place at " + time, at(x, time).place(0), withWaits[time]);
        }
        // In at 2, and out from 2 on.
        int[] straightOn = {0, 10, 1, 11, 2};
        for (int time = 0; time < straightOn.length; time++) {
            ContactNetwork x = new ContactNetwork();
            add(x, 0, 1, 0, 20, 1, 0);
            add(x, 1, 2, 0, 20, 1, 0);
            x.send(ends(0, 2), 2, 1000);
            due("straight on, place at " + time, at(x, time).place(0), straightOn[time]);
        }
    }

    private static void arrivedForGood() {
        sentence = "When it has come in by its last booking it is ARRIVED, and nothing changes for it any more";
        ContactNetwork x = new ContactNetwork();
        add(x, 0, 1, 0, 20, 1, 0);
        add(x, 1, 2, 0, 20, 1, 3);
        x.send(ends(0, 2), 2, 7);
        x.pass(6);
        due("a tick before", x.state(0), 1);
        x.pass(1);
        due("arrived", x.state(0), 2);
        due("its last contact hits none", x.cancel(1), 0);
        due("its first contact hits none", x.cancel(0), 0);
        add(x, 0, 2, 0, 100, 9, 0);
        x.pass(200);
        due("state still", x.state(0), 2);
        due("arrival still", x.arrival(0), 7);
        due("place still", x.place(0), 2);
        dueHops("bookings still", x, 0, 0, 1002);
        due("nothing new is booked", x.booked(2), 0);
    }

    private static void testsInOrder() {
        sentence = "In every method the tests are made in the order named";
        ContactNetwork x = new ContactNetwork();
        for (int k = 0; k < 10; k++) {
            add(x, 0, 1, 0, 100, 1, 0);
            x.send(1, 1, 1000);
        }
        due("contact, ends before FULL", x.contact(0, 100, 10), BAD);
        due("contact, span before FULL", x.contact(1, 0, 10), BAD);
        due("contact, terms before FULL", x.contact(1, 100, 9), BAD);
        due("contact, FULL", x.contact(1, 100, 10), FULL);
        due("send, ends before FULL", x.send(0, 1, 1000), BAD);
        due("send, size before FULL", x.send(1, 0, 1000), BAD);
        due("send, FULL", x.send(1, 1, 1000), FULL);
        for (int k = 0; k < 10; k++) {
            x.cancel(k);
        }
        due("booked, number before cancelled", x.booked(10), BAD);
        due("booked, cancelled", x.booked(9), NONE);
        due("arrival, number before stuck", x.arrival(10), BAD);
        due("arrival, stuck", x.arrival(9), NONE);
        due("hop, bundle before booking", x.hop(10, -1), BAD);
        due("hop, booking", x.hop(9, 0), NONE);
        due("quote, ends before no route", x.quote(7, 1), BAD);
        due("quote, size before no route", x.quote(1, 31), BAD);
        due("quote, no route", x.quote(1, 1), NONE);
        x.pass(200);
        due("latest, ends before LATE", x.latest(7, 1, MAX), BAD);
        due("latest, size before LATE", x.latest(1, 31, MAX), BAD);
        due("latest, LATE", x.latest(1, 1, MAX), LATE);
    }

    // Promises 1, 2, 3 and 6; what they share with the others stands under Terms.

    private static void newObject() {
        sentence = "Time 0, no contacts, no bundles";
        ContactNetwork used = new ContactNetwork();
        add(used, 0, 1, 0, 100, 1, 0);
        used.send(1, 1, 1000);
        used.pass(1);
        ContactNetwork x = new ContactNetwork();
        due("time", x.time(), 0);
        due("contact 0", x.booked(0), BAD);
        due("cancel(0)", x.cancel(0), BAD);
        due("state(0)", x.state(0), BAD);
        due("arrival(0)", x.arrival(0), BAD);
        due("hops(0)", x.hops(0), BAD);
        due("hop(0, 0)", x.hop(0, 0), BAD);
        due("place(0)", x.place(0), BAD);
        for (int node = 0; node < 6; node++) {
            due("from " + node, x.reach(node, 1, MAX), 1 << node);
        }
        due("first contact", add(x, 0, 1, 0, 100, 1, 0), 0);
        due("first bundle", x.send(1, 1, 1000), 0);
        due("its booking", x.hop(0, 0), 0);
        due("the other object", used.time(), 1);
    }

    private static void contactWithoutBookings() {
        sentence = "Adds a contact without bookings";
        ContactNetwork x = new ContactNetwork();
        add(x, 0, 1, 0, 100, 1, 0);
        x.send(1, 30, 1000);
        due("new", add(x, 0, 1, 0, 100, 1, 0), 1);
        due("none there", x.booked(1), 0);
        due("all of it is free", x.quote(1, 30), 30);
        due("the other one is as before", x.booked(0), 30);
    }

    private static void contactPlansStuckOnes() {
        sentence = "Then the stuck bundles are planned again, as under RETRY (contact)";
        // Room for two of three; the limits are at, before and after what is left.
        for (int limit = 8; limit <= 12; limit++) {
            ContactNetwork x = new ContactNetwork();
            x.send(1, 4, 9);
            x.send(1, 5, limit);
            x.send(1, 4, 1000);
            x.pass(1);
            add(x, 0, 1, 0, 10, 1, 0);
            dueHops("first", x, 0, 1);
            if (limit >= 10) {
                dueHops("second, limit " + limit, x, 1, 5);
                dueHops("third has no room", x, 2);
            } else {
                dueHops("second, limit " + limit, x, 1);
                dueHops("third has room", x, 2, 5);
            }
        }
    }

    private static void cancelGoodNumbers() {
        sentence = "k is not good, or cancelled: BAD (cancel); k is not good: BAD; it is cancelled: NONE (booked)";
        for (int count = 0; count <= 10; count++) {
            ContactNetwork x = new ContactNetwork();
            for (int k = 0; k < count; k++) {
                add(x, 0, 1, 0, 100, 1, 0);
            }
            for (int k = -12; k <= 22; k++) {
                boolean good = k >= 0 && k < count;
                due("booked(" + k + ") of " + count, x.booked(k), good ? 0 : BAD);
                due("cancel(" + k + ") of " + count, x.cancel(k), good ? 0 : BAD);
                due("booked(" + k + ") after it", x.booked(k), good ? NONE : BAD);
                due("cancel(" + k + ") again", x.cancel(k), BAD);
            }
            for (int edge : EDGES) {
                due("booked(" + edge + ")", x.booked(edge), BAD);
                due("cancel(" + edge + ")", x.cancel(edge), BAD);
            }
        }
    }

    private static void cancelHits() {
        sentence = "a booking there, by which it has not gone out wholly (begin + ticks is greater than T), is HIT";
        // Out from 2 to 6, in at 9.
        for (int time = 0; time <= 11; time++) {
            ContactNetwork x = new ContactNetwork();
            add(x, 0, 1, 2, 20, 1, 3);
            x.send(1, 4, 1000);
            at(x, time);
            boolean hit = time < 6;
            due("cancel at " + time, x.cancel(0), hit ? 1 : 0);
            due("hops after it at " + time, x.hops(0), hit ? 0 : 1);
            due("state after it at " + time, x.state(0), hit ? 0 : time < 9 ? 1 : 2);
            due("arrival after it at " + time, x.arrival(0), hit ? NONE : 9);
            due("place after it at " + time, x.place(0), hit ? 0 : time < 9 ? 10 : 1);
        }
        ContactNetwork x = new ContactNetwork();
        add(x, 0, 1, 0, 100, 1, 0);
        add(x, 0, 1, 0, 100, 1, 1);
        x.send(1, 4, 1000);
        due("a contact without bookings hits none", x.cancel(1), 0);
        dueHops("the booking on the other one", x, 0, 0);
    }

    private static void cancelFirstSuchBooking() {
        sentence = "A hit bundle loses the first such booking (a bundle can have several on a contact) and all its later ones";
        // Two bookings on contact 0: out from 5 to 6, and from 11 to 12.
        for (int time = 0; time <= 13; time++) {
            ContactNetwork x = twiceOnAContact();
            at(x, time);
            due("cancel at " + time, x.cancel(0), time < 12 ? 1 : 0);
            if (time < 6) {
                dueHops("loses both at " + time, x, 0);
                due("place at " + time, x.place(0), 0);
            } else if (time < 12) {
                dueHops("loses the second at " + time, x, 0, 5, 2010);
                due("place at " + time, x.place(0), time <= 10 ? 1 : 0);
            } else {
                dueHops("loses none at " + time, x, 0, 5, 2010, 11, 5030, 4031);
            }
            due("on contact 2 at " + time, x.booked(2), time < 6 ? 0 : 1);
            due("on contact 4 at " + time, x.booked(4), time < 12 ? 0 : 1);
            due("on contact 5 at " + time, x.booked(5), time < 12 ? 0 : 1);
        }
    }

    /** A bundle from 0 to 2 that is led back from node 1 to 0, and comes to 1 again. */
    private static ContactNetwork twiceOnAContact() {
        ContactNetwork x = new ContactNetwork();
        add(x, 0, 1, 5, 60, 9, 0);
        add(x, 1, 2, 5, 20, 9, 0);
        x.send(ends(0, 2), 9, 1000);
        x.cancel(1);
        add(x, 1, 0, 10, 20, 9, 0);
        add(x, 0, 2, 0, 50, 9, 0);
        x.cancel(3);
        add(x, 3, 2, 0, 80, 9, 0);
        add(x, 1, 3, 30, 40, 9, 0);
        dueHops("planned", x, 0, 5, 2010, 11, 5030, 4031);
        return x;
    }

    private static void cancelReady() {
        sentence = "ready at T if it is there or under way by the lost booking, else ready when it comes in there";
        // In at node 1 at 9; out again from 12 to 16.
        for (int time = 0; time <= 17; time++) {
            ContactNetwork x = new ContactNetwork();
            add(x, 0, 1, 2, 20, 1, 3);
            add(x, 1, 2, 12, 30, 1, 0);
            add(x, 1, 2, 0, 100, 1, 9);
            x.send(ends(0, 2), 4, 1000);
            at(x, time);
            due("cancel at " + time, x.cancel(1), time < 16 ? 1 : 0);
            int ready = time < 9 ? 9 : time;
            dueHops("after it at " + time, x, 0, 2, time < 16 ? 2000 + ready : 1012);
            due("arrival after it at " + time, x.arrival(0), time < 16 ? ready + 13 : 16);
        }
        // Without a booking before: it is at its source, or under way from there.
        for (int time = 0; time <= 7; time++) {
            ContactNetwork x = new ContactNetwork();
            add(x, 0, 1, 2, 20, 1, 3);
            add(x, 0, 1, 0, 100, 1, 9);
            x.send(ends(0, 1), 4, 1000);
            at(x, time);
            due("first booking, cancel at " + time, x.cancel(0), time < 6 ? 1 : 0);
            dueHops("first booking, after it at " + time, x, 0, time < 6 ? 1000 + time : 2);
        }
    }

    private static void cancelLosesLaterOnes() {
        sentence = "loses the first such booking and all its later ones";
        for (int k = 0; k < 5; k++) {
            ContactNetwork x = new ContactNetwork();
            for (int node = 0; node < 5; node++) {
                add(x, node, node + 1, 0, 100, 1, 0);
            }
            x.send(ends(0, 5), 2, 1000);
            due("five bookings", x.hops(0), 5);
            due("cancel(" + k + ")", x.cancel(k), 1);
            due("left after cancel(" + k + ")", x.hops(0), k);
            for (int other = 0; other < 5; other++) {
                due("booked(" + other + ") after cancel(" + k + ")", x.booked(other), other < k ? 2 : other == k ? NONE : 0);
            }
            x.pass(100);
            due("comes to the node from which it leads", x.place(0), k);
            due("and is stuck there", x.state(0), 0);
        }
    }

    private static void cancelStuckOrKept() {
        sentence = "If nothing is left to come, it is stuck there; else it is kept with the bookings left until planned";
        // In at node 1 at 9; no other contact leads on.
        for (int time = 0; time <= 13; time++) {
            ContactNetwork x = new ContactNetwork();
            add(x, 0, 1, 2, 20, 1, 3);
            add(x, 1, 2, 12, 30, 1, 0);
            x.send(ends(0, 2), 4, 1000);
            at(x, time);
            due("cancel at " + time, x.cancel(1), 1);
            dueHops("after it at " + time, x, 0, 2);
            due("stuck at " + time, x.state(0), 0);
            due("no arrival at " + time, x.arrival(0), NONE);
            due("place at " + time, x.place(0), time <= 2 ? 0 : time < 9 ? 10 : 1);
            due("on the kept contact at " + time, x.booked(0), 4);
            x.pass(20);
            due("has come there", x.place(0), 1);
        }
    }

    private static void cancelCountsHits() {
        sentence = "Answers how many were hit";
        for (int count = 0; count <= 10; count++) {
            ContactNetwork x = new ContactNetwork();
            add(x, 0, 1, 0, 100, 1, 0);
            add(x, 2, 3, 0, 100, 1, 0);
            for (int b = 0; b < 10; b++) {
                x.send(b < count ? ends(0, 1) : ends(2, 3), 2, 1000);
            }
            due("cancel with " + count + " of ten there", x.cancel(0), count);
            due("the others stay", x.booked(1), 2 * (10 - count));
        }
        // Ten bookings of two ticks: at time T those with an end after T are hit.
        for (int time = 0; time <= 21; time++) {
            ContactNetwork x = new ContactNetwork();
            add(x, 0, 1, 0, 20, 1, 9);
            for (int b = 0; b < 10; b++) {
                x.send(ends(0, 1), 2, 1000);
            }
            at(x, time);
            due("cancel at " + time, x.cancel(0), time >= 20 ? 0 : 10 - time / 2);
        }
        due("two bookings on the contact, one bundle", twiceOnAContact().cancel(0), 1);
    }

    private static void retryReady() {
        sentence = "each from the node where it is stuck, ready at T, or, if that is later, at the time at which it comes in there";
        // Stuck at node 1, where it comes in at 9.
        for (int time = 0; time <= 13; time++) {
            ContactNetwork x = new ContactNetwork();
            add(x, 0, 1, 2, 20, 1, 3);
            add(x, 1, 2, 12, 30, 1, 0);
            x.send(ends(0, 2), 4, 1000);
            due("hit", x.cancel(1), 1);
            at(x, time);
            add(x, 0, 2, 0, 100, 9, 0);
            due("no way back", x.state(0), 0);
            add(x, 1, 2, 0, 100, 1, 0);
            dueHops("planned at " + time, x, 0, 2, 3000 + (time < 9 ? 9 : time));
        }
        // Stuck at its source.
        for (int time = 0; time <= 13; time++) {
            ContactNetwork x = new ContactNetwork();
            x.send(ends(0, 2), 4, 1000);
            at(x, time);
            add(x, 0, 2, 5, 100, 1, 0);
            dueHops("planned at " + time, x, 0, time < 5 ? 5 : time);
        }
    }

    private static void retryLimit() {
        sentence = "Then there is a RETRY: all stuck bundles are planned once, in the order of their numbers (cancel)";
        // Bundle 0 leaves contact 1; the stuck ones want its ticks, out from 1 on.
        for (int limit = 9; limit <= 13; limit++) {
            ContactNetwork x = new ContactNetwork();
            add(x, 0, 1, 0, 10, 1, 0);
            add(x, 1, 2, 0, 12, 1, 0);
            x.send(ends(0, 2), 4, 1000);
            x.send(ends(1, 2), 10, limit);
            x.send(ends(1, 2), 9, 1000);
            x.pass(1);
            due("both stuck", x.state(1) + x.state(2), 0);
            due("hit", x.cancel(0), 1);
            if (limit >= 11) {
                dueHops("limit " + limit, x, 1, 1001);
                dueHops("no room after it", x, 2);
            } else {
                dueHops("limit " + limit, x, 1);
                dueHops("room for the next", x, 2, 1001);
            }
        }
    }

    private static void passTicks() {
        sentence = "Time goes on by so many ticks. ticks is not 0 .. 200: BAD. Else answers the time then";
        ContactNetwork x = new ContactNetwork();
        int time = 0;
        for (int ticks = -20; ticks <= 220; ticks++) {
            boolean good = ticks >= 0 && ticks <= 200;
            time += good ? ticks : 0;
            due("pass(" + ticks + ")", x.pass(ticks), good ? time : BAD);
            due("time after pass(" + ticks + ")", x.time(), time);
        }
        for (int edge : EDGES) {
            due("pass(" + edge + ")", x.pass(edge), BAD);
        }
        for (int far : FAR_OFF) {
            due("pass(" + far + ")", x.pass(far), BAD);
        }
        due("time after all", x.time(), time);
        ContactNetwork y = new ContactNetwork();
        for (int i = 1; i <= 512; i++) {
            due("pass number " + i, y.pass(200), 200 * i);
        }
    }

    // Promises 4 and 8 to 15

    private static void bookedTicks() {
        sentence = "How many ticks of a contact are booked";
        ContactNetwork x = new ContactNetwork();
        add(x, 0, 1, 0, 100, 1, 0);
        add(x, 0, 1, 0, 100, 9, 9);
        int[] bookedThen = {30, 60, 90, 90, 100, 100, 100};
        int[] sizes = {30, 30, 30, 11, 10, 1, 30};
        due("none", x.booked(0), 0);
        x.cancel(1);
        for (int b = 0; b < sizes.length; b++) {
            x.send(1, sizes[b], 1000);
            due("after bundle " + b, x.booked(0), bookedThen[b]);
        }
        x.pass(100);
        due("all of them are past", x.booked(0), 100);
        due("hits none", x.cancel(0), 0);
        due("cancelled", x.booked(0), NONE);
    }

    private static ContactNetwork withBundles(int count) {
        ContactNetwork x = new ContactNetwork();
        add(x, 0, 1, 0, 100, 1, 0);
        for (int b = 0; b < count; b++) {
            x.send(1, 1, 1000);
        }
        return x;
    }

    private static void states() {
        sentence = "0 if a bundle is stuck, 1 if it is routed and not arrived, 2 if it is arrived. b is not good: BAD";
        for (int count = 0; count <= 10; count++) {
            ContactNetwork x = withBundles(count);
            for (int b = -12; b <= 22; b++) {
                due("state(" + b + ") of " + count, x.state(b), b >= 0 && b < count ? 1 : BAD);
            }
            for (int edge : EDGES) {
                due("state(" + edge + ")", x.state(edge), BAD);
            }
        }
        for (int time = 0; time <= 12; time++) {
            ContactNetwork x = new ContactNetwork();
            add(x, 0, 1, 2, 20, 1, 3);
            x.send(ends(0, 1), 4, 1000);
            x.send(ends(1, 0), 4, 1000);
            at(x, time);
            due("in at 9, state at " + time, x.state(0), time < 9 ? 1 : 2);
            due("stuck, state at " + time, x.state(1), 0);
        }
        sentence = "also while it is still to come to the node where it is stuck";
        for (int time = 0; time <= 12; time++) {
            ContactNetwork x = new ContactNetwork();
            add(x, 0, 1, 2, 20, 1, 3);
            add(x, 1, 2, 20, 30, 1, 3);
            x.send(ends(0, 2), 4, 1000);
            x.cancel(1);
            due("state at " + time, at(x, time).state(0), 0);
        }
    }

    private static void arrivals() {
        sentence = "The time at which a bundle comes in, or came in, at its destination. b is not good: BAD; it is stuck: NONE";
        for (int count = 0; count <= 10; count++) {
            ContactNetwork x = withBundles(count);
            for (int b = -12; b <= 22; b++) {
                due("arrival(" + b + ") of " + count, x.arrival(b), b >= 0 && b < count ? b + 1 : BAD);
            }
            for (int edge : EDGES) {
                due("arrival(" + edge + ")", x.arrival(edge), BAD);
            }
        }
        ContactNetwork x = new ContactNetwork();
        add(x, 0, 1, 0, 100, 9, 0);
        add(x, 1, 2, 99, 100, 9, 9);
        x.send(ends(0, 1), 9, 1000);
        x.send(ends(0, 2), 9, 1000);
        x.send(ends(2, 0), 9, 1000);
        int[] passes = {0, 0, 1, 98, 9, 1, 200};
        for (int ticks : passes) {
            int time = x.pass(ticks);
            due("least arrival at " + time, x.arrival(0), 1);
            due("greatest arrival at " + time, x.arrival(1), 109);
            due("stuck at " + time, x.arrival(2), NONE);
        }
        sentence = "it is stuck: NONE (arrival), though a booking is left";
        ContactNetwork y = new ContactNetwork();
        add(y, 0, 1, 0, 100, 9, 0);
        add(y, 1, 2, 0, 100, 9, 0);
        y.send(ends(0, 2), 9, 1000);
        y.cancel(1);
        due("to come to node 1", y.arrival(0), NONE);
        y.pass(50);
        due("at node 1", y.arrival(0), NONE);
    }

    private static void hopCounts() {
        sentence = "How many bookings a bundle has (those by which it has come somewhere included). b is not good: BAD";
        for (int count = 0; count <= 10; count++) {
            ContactNetwork x = withBundles(count);
            for (int b = -12; b <= 22; b++) {
                due("hops(" + b + ") of " + count, x.hops(b), b >= 0 && b < count ? 1 : BAD);
            }
            for (int edge : EDGES) {
                due("hops(" + edge + ")", x.hops(edge), BAD);
            }
        }
        ContactNetwork x = new ContactNetwork();
        for (int node = 0; node < 5; node++) {
            add(x, node, node + 1, 0, 100, 1, 0);
        }
        for (int node = 1; node <= 5; node++) {
            x.send(ends(0, node), 1, 1000);
        }
        x.send(ends(5, 0), 1, 1000);
        for (int time = 0; time < 20; time++) {
            for (int b = 0; b < 5; b++) {
                due("hops(" + b + ") at " + time, x.hops(b), b + 1);
            }
            due("none at " + time, x.hops(5), 0);
            x.pass(1);
        }
    }

    private static void manyHops() {
        sentence = "the bookings that are left stay, and the new ones follow them";
        // A ring 0 .. 4: each time the way out to node 5 is cancelled and opened one node further back.
        ContactNetwork x = new ContactNetwork();
        for (int node = 0; node < 5; node++) {
            add(x, node, (node + 1) % 5, 0, 100, 9, 0);
        }
        add(x, 4, 5, 0, 100, 9, 0);
        x.send(ends(0, 5), 9, 1000);
        due("first way", x.hops(0), 5);
        int hops = 5;
        for (int exit = 3; exit >= 0; exit--) {
            int last = 5 + 3 - exit;
            due("cancel(" + last + ")", x.cancel(last), 1);
            hops--;
            due("left", x.hops(0), hops);
            due("new way out", add(x, exit, 5, 0, 100, 9, 0), last + 1);
            hops += 5;
            due("way of so many", x.hops(0), hops);
            due("arrival", x.arrival(0), hops);
            for (int i = 0; i < hops; i++) {
                due("hop " + i + " of " + hops, x.hop(0, i), 1000 * (i == hops - 1 ? last + 1 : i % 5) + i);
            }
            due("none after it", x.hop(0, hops), NONE);
        }
        due("twenty-one", x.hops(0), 21);
        for (int time = 0; time <= 21; time++) {
            due("place at " + time, x.place(0), time == 21 ? 5 : time % 5);
            x.pass(1);
        }
        due("arrived", x.state(0), 2);
    }

    private static void hopNumbers() {
        sentence = "1000 * contact + begin of booking i (0 the first). b is not good: BAD; there is none: NONE";
        for (int count = 0; count <= 10; count++) {
            ContactNetwork x = withBundles(count);
            for (int b = -12; b <= 22; b++) {
                boolean good = b >= 0 && b < count;
                due("hop(" + b + ", 0) of " + count, x.hop(b, 0), good ? b : BAD);
                due("hop(" + b + ", 1) of " + count, x.hop(b, 1), good ? NONE : BAD);
                due("hop(" + b + ", -1) of " + count, x.hop(b, -1), good ? NONE : BAD);
            }
            for (int edge : EDGES) {
                due("hop(" + edge + ", 0)", x.hop(edge, 0), BAD);
                due("hop(0, " + edge + ")", x.hop(0, edge), count > 0 ? NONE : BAD);
            }
        }
        ContactNetwork x = new ContactNetwork();
        for (int k = 0; k < 10; k++) {
            add(x, 5, 4, 0, 1, 1, 0);
            x.send(ends(5, 4), 1, 1000);
        }
        due("contact 9 at time 0", x.hop(9, 0), 9000);
        ContactNetwork y = new ContactNetwork();
        for (int k = 0; k < 10; k++) {
            add(y, k < 9 ? 0 : 2, 1, 99, 100, 1, 0);
        }
        y.send(ends(2, 1), 1, 1000);
        y.send(ends(0, 2), 1, 1000);
        due("contact 9 at time 99", y.hop(0, 0), 9099);
        due("stuck", y.hop(1, 0), NONE);
        for (int i = -300; i <= 110; i++) {
            due("hop(0, " + i + ")", y.hop(0, i), i == 0 ? 9099 : NONE);
        }
    }

    private static void places() {
        sentence = "The node at which a bundle is; 10 + the contact if it is under way. b is not good: BAD";
        for (int count = 0; count <= 10; count++) {
            ContactNetwork x = withBundles(count);
            x.pass(200);
            for (int b = -12; b <= 22; b++) {
                due("place(" + b + ") of " + count, x.place(b), b >= 0 && b < count ? 1 : BAD);
            }
            for (int edge : EDGES) {
                due("place(" + edge + ")", x.place(edge), BAD);
            }
        }
        ContactNetwork x = new ContactNetwork();
        for (int k = 0; k < 10; k++) {
            add(x, 5, 4, 0, 2, 1, 0);
            x.send(ends(5, 4), 2, 1000);
        }
        for (int time = 0; time <= 2; time++) {
            for (int b = 0; b < 10; b++) {
                due("place(" + b + ") at " + time, x.place(b), time == 0 ? 5 : time == 1 ? 10 + b : 4);
            }
            x.pass(1);
        }
        sentence = "A stuck bundle is looked at by its bookings like a routed one; without any, it is at its source";
        int[] places = {3, 3, 3, 10, 10, 10, 10, 4, 4};
        for (int time = 0; time < places.length; time++) {
            ContactNetwork y = new ContactNetwork();
            add(y, 3, 4, 2, 10, 1, 2);
            add(y, 4, 5, 20, 30, 1, 0);
            y.send(ends(3, 5), 3, 1000);
            y.send(ends(5, 3), 3, 1000);
            y.cancel(1);
            at(y, time);
            due("with a booking at " + time, y.place(0), places[time]);
            due("without at " + time, y.place(1), 5);
        }
    }

    private static void quotes() {
        sentence = "a bundle sent now with no limit; nothing is booked; there is no route: NONE";
        for (int time = 0; time <= 101; time++) {
            ContactNetwork x = new ContactNetwork();
            add(x, 0, 1, 99, 100, 1, 9);
            at(x, time);
            due("quote at " + time, x.quote(1, 1), time <= 99 ? 109 : NONE);
            due("two ticks at " + time, x.quote(1, 2), NONE);
            due("once more at " + time, x.quote(1, 1), time <= 99 ? 109 : NONE);
            due("booked at " + time, x.booked(0), 0);
        }
        ContactNetwork x = withBundles(10);
        due("also when ten were sent", x.quote(1, 1), 11);
        due("none is sent by it", x.state(10), BAD);
    }

    private static void reachBy() {
        sentence = "with an arrival of by or less (that node itself is always in it)";
        // Node 1 at 3, node 2 at 8, node 3 at 8 + 9 = 17.
        ContactNetwork x = new ContactNetwork();
        add(x, 0, 1, 0, 50, 1, 0);
        add(x, 1, 2, 5, 50, 1, 0);
        add(x, 2, 3, 0, 50, 1, 6);
        add(x, 4, 0, 0, 50, 1, 6);
        for (int by = -3; by <= 20; by++) {
            int set = 1 | (by >= 3 ? 2 : 0) | (by >= 8 ? 4 : 0) | (by >= 17 ? 8 : 0);
            due("reach(0, 3, " + by + ")", x.reach(0, 3, by), set);
            due("reach(5, 3, " + by + ")", x.reach(5, 3, by), 32);
        }
        int[] least = {MIN, MIN + 1, -(1 << 30), -1};
        for (int by : least) {
            due("reach(0, 3, " + by + ")", x.reach(0, 3, by), 1);
        }
        int[] greatest = {MAX, MAX - 1, 1 << 30, 1 << 16};
        for (int by : greatest) {
            due("reach(0, 3, " + by + ")", x.reach(0, 3, by), 15);
            due("reach(4, 3, " + by + ")", x.reach(4, 3, by), 31);
        }
        due("booked", x.booked(0) + x.booked(1) + x.booked(2) + x.booked(3), 0);
        x.pass(47);
        due("in the last ticks", x.reach(0, 3, 50), 3);
        due("not by then", x.reach(0, 3, 49), 1);
        x.pass(1);
        due("after them", x.reach(0, 3, MAX), 1);
        for (int b = 0; b < 10; b++) {
            x.send(1, 30, 1000);
        }
        due("also when ten were sent", x.reach(0, 2, 50), 3);
        sentence = "The set of nodes (as bits)";
        ContactNetwork y = new ContactNetwork();
        for (int node = 0; node < 6; node++) {
            add(y, node, (node + 1) % 6, 0, 100, 9, 0);
        }
        for (int node = 0; node < 6; node++) {
            int set = 0;
            for (int by = 0; by <= 6; by++) {
                set |= 1 << (node + by) % 6;
                due("reach(" + node + ", 9, " + by + ")", y.reach(node, 9, by), set);
            }
        }
    }

    private static void latestBy() {
        sentence = "still have a route with an arrival of by or less, with the bookings as they are; there is none: LATE";
        // Five ticks from 10 to 25 on, in eight later; ticks 10 .. 12 are taken in y.
        ContactNetwork x = new ContactNetwork();
        add(x, 0, 1, 10, 30, 1, 3);
        ContactNetwork y = new ContactNetwork();
        add(y, 0, 1, 10, 30, 1, 3);
        y.send(1, 3, 1000);
        for (int by = -3; by <= 40; by++) {
            int last = by - 8 > 25 ? 25 : by - 8;
            due("latest by " + by, x.latest(1, 5, by), last >= 10 ? last : LATE);
            due("beside a booking by " + by, y.latest(1, 5, by), last >= 13 ? last : LATE);
        }
        due("by the least int", x.latest(1, 5, MIN), LATE);
        due("by the greatest int", x.latest(1, 5, MAX), 25);
        due("just all of it", x.latest(1, 20, MAX), 10);
        due("too great for it", x.latest(1, 21, MAX), LATE);
        due("nothing is booked", x.booked(0), 0);
        sentence = "The greatest ready time";
        ContactNetwork z = new ContactNetwork();
        add(z, 0, 1, 0, 10, 1, 0);
        add(z, 0, 1, 40, 50, 1, 0);
        due("by the later contact", z.latest(1, 4, 50), 46);
        due("by the later contact, begun at its start", z.latest(1, 4, 44), 40);
        due("by the earlier contact", z.latest(1, 4, 43), 6);
        due("at time 0", z.latest(1, 10, 10), 0);
        due("before time 0", z.latest(1, 10, 9), LATE);
        due("ready long before the start", z.latest(1, 10, 50), 40);
    }

    private static void latestFromNowTo100() {
        sentence = "from T to 100";
        for (int time = 0; time <= 103; time++) {
            ContactNetwork x = new ContactNetwork();
            add(x, 0, 1, 0, 100, 9, 9);
            add(x, 2, 3, 10, 30, 1, 0);
            at(x, time);
            due("last tick, at " + time, x.latest(1, 9, MAX), time <= 99 ? 99 : LATE);
            due("up to 25, at " + time, x.latest(ends(2, 3), 5, MAX), time <= 25 ? 25 : LATE);
            due("up to 12, at " + time, x.latest(ends(2, 3), 5, 17), time <= 12 ? 12 : LATE);
        }
        ContactNetwork x = withBundles(10);
        due("also when ten were sent", x.latest(1, 1, MAX), 99);
        ContactNetwork y = new ContactNetwork();
        add(y, 0, 1, 0, 100, 1, 0);
        for (int i = 0; i < 510; i++) {
            y.pass(200);
        }
        due("long after", y.latest(1, 1, MAX), LATE);
    }
}
