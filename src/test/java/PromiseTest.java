/** Worked runs for each promise: ordinary inputs, the edges the document names, and wrong inputs. */
public final class PromiseTest {
    private static final int BAD = -1;
    private static final int NONE = -2;
    private static final int FULL = -3;
    private static final int LATE = -4;
    private static final int FAR = 1000;
    private static final int MIN = Integer.MIN_VALUE;
    private static final int MAX = Integer.MAX_VALUE;
    private static final int[] WRONG_ENDS = {MIN, -7, -6, -1, 0, 7, 14, 21, 28, 35, 36, 37, 42, 1000, MAX};
    private static final int[] WRONG_SIZES = {MIN, -1, 0, 31, 32, MAX};

    private static int wrong = 0;
    private static String promise = "";

    private static void due(String what, int got, int want) {
        if (got != want) {
            wrong++;
            System.out.println(promise + ", " + what + ": answered " + got + ", due is " + want);
        }
    }

    private static int ends(int from, int to) {
        return 6 * from + to;
    }

    /** Adds a contact; the number it gets is told by the caller's order. */
    private static int add(ContactNetwork x, int from, int to, int start, int end, int rate, int delay) {
        return x.contact(ends(from, to), 101 * start + end, 10 * rate + delay);
    }

    private static int send(ContactNetwork x, int from, int to, int size, int limit) {
        return x.send(ends(from, to), size, limit);
    }

    /** Hops are written as 1000 * contact + begin, in order. */
    private static void dueHops(String what, ContactNetwork x, int b, int... hops) {
        due(what + ", hops(" + b + ")", x.hops(b), hops.length);
        for (int i = 0; i < hops.length; i++) {
            due(what + ", hop(" + b + ", " + i + ")", x.hop(b, i), hops[i]);
        }
        due(what + ", hop after the last", x.hop(b, hops.length), NONE);
    }

    public static void main(String[] args) {
        newObject();
        contactArguments();
        contactFull();
        contactRetries();
        cancelArguments();
        cancelAtItsNode();
        cancelUnderWay();
        cancelGoneOut();
        cancelStillToCome();
        cancelComesInNow();
        cancelGivesLaterTicksBack();
        cancelPlansHitsBeforeStuck();
        cancelTakesAllBeforePlanning();
        cancelRetriesInOrder();
        cancelHitsStuckBundle();
        cancelSeveralOnAContact();
        cancelKeepsLimit();
        booked();
        sendArguments();
        sendBestRoute();
        sendBookings();
        sendLimit();
        pass();
        state();
        arrival();
        hopsAndHop();
        place();
        quote();
        reach();
        latest();
        readmeRun();
        System.out.println(wrong == 0 ? "all promises hold" : wrong + " answers are not as due");
        if (wrong != 0) {
            System.exit(1);
        }
    }

    private static void newObject() {
        promise = "promise 1";
        ContactNetwork other = new ContactNetwork();
        add(other, 0, 1, 0, 10, 9, 0);
        send(other, 0, 1, 1, FAR);
        other.pass(3);
        ContactNetwork x = new ContactNetwork();
        due("time", x.time(), 0);
        due("no contact", x.booked(0), BAD);
        due("no contact to cancel", x.cancel(0), BAD);
        due("no bundle's state", x.state(0), BAD);
        due("no bundle's hops", x.hops(0), BAD);
        due("no way", x.quote(ends(0, 1), 1), NONE);
        due("alone", x.reach(3, 1, MAX), 8);
        due("never", x.latest(ends(0, 1), 1, MAX), LATE);
        due("first contact", add(x, 0, 1, 0, 10, 9, 0), 0);
        due("first bundle", send(x, 0, 1, 1, FAR), 0);
    }

    private static void contactArguments() {
        promise = "promise 2";
        ContactNetwork x = new ContactNetwork();
        for (int e : WRONG_ENDS) {
            due("ends " + e, x.contact(e, 10, 10), BAD);
        }
        int[] wrongSpans = {MIN, -1, -100, 0, 101, 102, 101 * 6 + 5, 101 * 50 + 50, 101 * 99 + 99, 101 * 100,
            101 * 100 + 100, 101 * 101, 101 * 101 + 100, 101 * 200 + 100, MAX};
        for (int s : wrongSpans) {
            due("span " + s, x.contact(1, s, 10), BAD);
        }
        int[] wrongTerms = {MIN, -10, -1, 0, 1, 9, 100, 101, 109, 110, MAX};
        for (int t : wrongTerms) {
            due("terms " + t, x.contact(1, 10, t), BAD);
        }
        due("refused ones have no number", x.booked(0), BAD);
        due("least ends, span and terms", x.contact(1, 1, 10), 0);
        due("greatest ends, span and terms", x.contact(34, 101 * 99 + 100, 99), 1);
        due("whole time", x.contact(6, 100, 55), 2);
        due("goes over the first", x.quote(1, 1), 1);
        due("goes over the greatest", x.quote(34, 9), 99 + 1 + 9);
        due("goes over the whole time", x.quote(6, 30), 6 + 5);
        due("no bookings", x.booked(2), 0);
    }

    private static void contactFull() {
        promise = "promise 2";
        ContactNetwork x = new ContactNetwork();
        for (int k = 0; k < 10; k++) {
            due("number", add(x, 0, 1, k, 100, 1, 0), k);
        }
        x.cancel(3);
        due("eleventh, though one is cancelled", add(x, 2, 3, 0, 100, 1, 0), FULL);
        due("BAD is looked at before FULL", x.contact(0, 10, 10), BAD);
        due("refused one is not there", x.quote(ends(2, 3), 1), NONE);
    }

    private static void contactRetries() {
        promise = "promise 2";
        ContactNetwork x = new ContactNetwork();
        send(x, 0, 1, 5, FAR);
        send(x, 0, 1, 5, FAR);
        send(x, 0, 1, 5, 20);
        x.pass(3);
        due("added", add(x, 0, 1, 0, 15, 1, 0), 0);
        dueHops("lesser number first, ready at the present time", x, 0, 3);
        dueHops("then the next", x, 1, 8);
        dueHops("no room for the third", x, 2);
        due("refused contact", x.contact(1, 0, 10), BAD);
        due("still stuck", x.state(2), 0);
        x.pass(1);
        add(x, 0, 1, 0, 30, 1, 0);
        dueHops("third one by the second contact", x, 2, 1004);
        dueHops("routed ones are left alone", x, 0, 3);
    }

    private static void cancelArguments() {
        promise = "promise 3";
        ContactNetwork x = new ContactNetwork();
        add(x, 0, 1, 0, 10, 9, 0);
        int[] wrongNumbers = {MIN, -1, 1, 9, 10, 11, MAX};
        for (int k : wrongNumbers) {
            due("number " + k, x.cancel(k), BAD);
        }
        due("still usable", x.quote(1, 9), 1);
        due("no bundle hit", x.cancel(0), 0);
        due("cancelled already", x.cancel(0), BAD);
        due("not usable any more", x.quote(1, 9), NONE);
    }

    private static void cancelAtItsNode() {
        promise = "promise 3";
        ContactNetwork x = new ContactNetwork();
        add(x, 0, 1, 5, 20, 1, 0);
        add(x, 0, 1, 2, 40, 1, 9);
        send(x, 0, 1, 3, FAR);
        dueHops("first plan", x, 0, 5);
        x.pass(5);
        due("at its source as the booking begins", x.place(0), 0);
        due("hit", x.cancel(0), 1);
        dueHops("planned again, ready at the present time", x, 0, 1005);
        due("hit again", x.cancel(1), 1);
        dueHops("nothing left", x, 0);
        due("stuck", x.state(0), 0);
        due("at its source", x.place(0), 0);
    }

    private static void cancelUnderWay() {
        promise = "promise 3";
        ContactNetwork x = new ContactNetwork();
        add(x, 0, 1, 0, 20, 9, 1);
        add(x, 1, 2, 0, 20, 1, 0);
        add(x, 1, 2, 0, 30, 1, 3);
        send(x, 0, 2, 6, FAR);
        dueHops("first plan", x, 0, 0, 1002);
        x.pass(5);
        due("under way", x.place(0), 11);
        due("hit under way", x.cancel(1), 1);
        dueHops("back at the contact's first node, ready now", x, 0, 0, 2005);
        due("there", x.place(0), 1);
        due("new arrival", x.arrival(0), 14);
    }

    private static void cancelGoneOut() {
        promise = "promise 3";
        ContactNetwork x = new ContactNetwork();
        add(x, 0, 1, 0, 20, 1, 9);
        send(x, 0, 1, 4, FAR);
        send(x, 0, 1, 4, FAR);
        x.pass(4);
        due("only the one not wholly out is hit", x.cancel(0), 1);
        dueHops("wholly out at the present time: keeps its booking", x, 0, 0);
        due("still on its way by a cancelled contact", x.place(0), 10);
        due("routed", x.state(0), 1);
        due("arrival as before", x.arrival(0), 13);
        due("other one stuck", x.state(1), 0);

        ContactNetwork y = new ContactNetwork();
        add(y, 0, 1, 0, 20, 1, 9);
        send(y, 0, 1, 4, FAR);
        y.pass(3);
        due("one tick before it is out", y.cancel(0), 1);
        due("back at its source", y.place(0), 0);
    }

    private static void cancelStillToCome() {
        promise = "promise 3";
        ContactNetwork x = new ContactNetwork();
        add(x, 0, 1, 0, 20, 1, 5);
        add(x, 1, 2, 0, 50, 1, 0);
        send(x, 0, 2, 2, FAR);
        dueHops("first plan", x, 0, 0, 1007);
        x.pass(1);
        due("hit", x.cancel(1), 1);
        dueHops("keeps the booking before", x, 0, 0);
        due("stuck", x.state(0), 0);
        due("no arrival", x.arrival(0), NONE);
        due("under way though stuck", x.place(0), 10);
        x.pass(1);
        add(x, 1, 2, 0, 50, 1, 0);
        dueHops("RETRY is ready when it comes in", x, 0, 0, 2007);
        add(x, 1, 2, 0, 50, 1, 1);
        due("hit once more", x.cancel(2), 1);
        dueHops("hit one is ready when it comes in", x, 0, 0, 3007);
        due("arrival", x.arrival(0), 10);
    }

    private static void cancelComesInNow() {
        promise = "promise 3";
        ContactNetwork x = new ContactNetwork();
        add(x, 0, 1, 0, 20, 1, 5);
        add(x, 1, 2, 30, 50, 1, 0);
        send(x, 0, 2, 2, FAR);
        x.pass(7);
        due("hit", x.cancel(1), 1);
        due("has come in", x.place(0), 1);
        x.pass(4);
        add(x, 1, 2, 0, 50, 1, 0);
        dueHops("RETRY is ready at the present time", x, 0, 0, 2011);
    }

    private static void cancelGivesLaterTicksBack() {
        promise = "promise 3";
        ContactNetwork x = new ContactNetwork();
        add(x, 0, 1, 0, 20, 1, 0);
        add(x, 1, 2, 0, 20, 1, 0);
        send(x, 0, 2, 4, FAR);
        send(x, 1, 2, 9, FAR);
        send(x, 1, 2, 10, FAR);
        dueHops("first bundle", x, 0, 0, 1004);
        dueHops("second waits", x, 1, 1008);
        dueHops("third has no room", x, 2);
        due("first is hit", x.cancel(0), 1);
        due("its later ticks are free", x.booked(1), 9);
        dueHops("second does not move", x, 1, 1008);
        add(x, 0, 1, 0, 20, 2, 0);
        dueHops("first goes in the free ticks again", x, 0, 2000, 1002);

        ContactNetwork y = new ContactNetwork();
        add(y, 0, 1, 0, 20, 1, 0);
        add(y, 1, 2, 0, 20, 1, 0);
        send(y, 0, 2, 4, FAR);
        send(y, 1, 2, 15, FAR);
        due("no room beside the first", y.state(1), 0);
        due("first is hit", y.cancel(0), 1);
        dueHops("stuck one gets the room that was given back", y, 1, 1000);
    }

    private static void cancelPlansHitsBeforeStuck() {
        promise = "promise 3";
        ContactNetwork x = new ContactNetwork();
        add(x, 0, 1, 0, 10, 1, 0);
        add(x, 1, 2, 0, 14, 1, 0);
        add(x, 0, 1, 0, 10, 1, 3);
        send(x, 0, 2, 2, 4);
        send(x, 1, 2, 11, FAR);
        send(x, 0, 2, 3, FAR);
        dueHops("bundle 0, with a narrow limit", x, 0, 0, 1002);
        dueHops("bundle 1 has no room beside it", x, 1);
        dueHops("bundle 2", x, 2, 2, 1005);
        due("bundles 0 and 2 hit", x.cancel(0), 2);
        dueHops("bundle 0 is too late", x, 0);
        dueHops("hit bundle 2 comes before stuck bundle 1", x, 2, 2000, 1006);
        dueHops("bundle 1 has no room again", x, 1);
    }

    private static void cancelTakesAllBeforePlanning() {
        promise = "promise 3";
        ContactNetwork x = new ContactNetwork();
        add(x, 0, 1, 0, 10, 1, 0);
        add(x, 1, 2, 0, 20, 1, 0);
        add(x, 0, 1, 0, 20, 1, 5);
        send(x, 0, 2, 2, FAR);
        send(x, 0, 2, 3, FAR);
        dueHops("bundle 0", x, 0, 0, 1002);
        dueHops("bundle 1", x, 1, 2, 1005);
        due("both hit", x.cancel(0), 2);
        dueHops("bundle 0 first, beside no lost booking", x, 0, 2000, 1007);
        dueHops("then bundle 1", x, 1, 2002, 1010);
    }

    private static void cancelRetriesInOrder() {
        promise = "promise 3";
        ContactNetwork x = new ContactNetwork();
        add(x, 0, 1, 0, 10, 1, 0);
        add(x, 1, 2, 0, 12, 1, 0);
        send(x, 0, 2, 4, FAR);
        send(x, 1, 2, 9, FAR);
        send(x, 1, 2, 9, FAR);
        x.pass(1);
        due("two stuck", x.state(1) + x.state(2), 0);
        due("hit", x.cancel(0), 1);
        dueHops("lesser number first, ready at the present time", x, 1, 1001);
        dueHops("no room for the other", x, 2);
    }

    private static void cancelHitsStuckBundle() {
        promise = "promise 3";
        ContactNetwork x = new ContactNetwork();
        add(x, 0, 1, 10, 20, 1, 0);
        add(x, 1, 2, 10, 40, 1, 0);
        send(x, 0, 2, 5, FAR);
        due("routed bundle hit", x.cancel(1), 1);
        dueHops("stuck, with a booking to come", x, 0, 10);
        x.pass(12);
        due("under way", x.place(0), 10);
        due("stuck bundle hit", x.cancel(0), 1);
        dueHops("nothing left", x, 0);
        due("at its source", x.place(0), 0);
        due("stuck", x.state(0), 0);
        add(x, 0, 2, 0, 40, 5, 0);
        dueHops("planned from its source", x, 0, 2012);
    }

    private static void cancelSeveralOnAContact() {
        promise = "promise 3";
        ContactNetwork x = new ContactNetwork();
        add(x, 0, 1, 0, 60, 9, 0);
        add(x, 1, 2, 5, 20, 9, 0);
        send(x, 0, 2, 9, FAR);
        dueHops("first plan", x, 0, 0, 1005);
        x.pass(2);
        due("hit at node 1", x.cancel(1), 1);
        add(x, 1, 0, 10, 20, 9, 0);
        due("still stuck at node 1", x.state(0), 0);
        add(x, 0, 2, 0, 50, 9, 0);
        dueHops("back over node 0", x, 0, 0, 2010, 3011);
        due("hit", x.cancel(3), 1);
        dueHops("to come to node 0", x, 0, 0, 2010);
        add(x, 3, 2, 0, 80, 9, 0);
        add(x, 1, 3, 30, 40, 9, 0);
        dueHops("over contact 0 once more", x, 0, 0, 2010, 11, 5030, 4031);
        due("two bookings there", x.booked(0), 2);
        due("the first is out, the second not", x.cancel(0), 1);
        dueHops("loses the second one and what follows", x, 0, 0, 2010);
        due("given back", x.booked(5), 0);
        due("kept", x.booked(2), 1);
        add(x, 0, 2, 0, 50, 9, 0);
        dueHops("goes on from node 0", x, 0, 0, 2010, 6011);

        // Both bookings on the contact are still to go out: the first one counts.
        ContactNetwork y = new ContactNetwork();
        add(y, 0, 1, 5, 60, 9, 0);
        add(y, 1, 2, 5, 20, 9, 0);
        send(y, 0, 2, 9, FAR);
        y.cancel(1);
        add(y, 1, 0, 10, 20, 9, 0);
        add(y, 0, 2, 0, 50, 9, 0);
        y.cancel(3);
        add(y, 3, 2, 0, 80, 9, 0);
        add(y, 1, 3, 30, 40, 9, 0);
        dueHops("straight on from node 1", y, 0, 5, 2010, 11, 5030, 4031);
        due("one bundle hit, once", y.cancel(0), 1);
        dueHops("loses all", y, 0);
        due("at its source", y.place(0), 0);
    }

    private static void cancelKeepsLimit() {
        promise = "promise 3";
        ContactNetwork x = new ContactNetwork();
        add(x, 0, 1, 0, 10, 1, 0);
        add(x, 0, 1, 0, 10, 1, 3);
        add(x, 0, 1, 0, 10, 1, 4);
        send(x, 0, 1, 2, 6);
        x.pass(1);
        x.cancel(0);
        dueHops("arrival at the limit", x, 0, 1001);
        x.cancel(1);
        dueHops("arrival after the limit", x, 0);
        due("stuck", x.state(0), 0);
    }

    private static void booked() {
        promise = "promise 4";
        ContactNetwork x = new ContactNetwork();
        add(x, 0, 1, 0, 30, 4, 0);
        due("none", x.booked(0), 0);
        send(x, 0, 1, 9, FAR);
        due("rounded up", x.booked(0), 3);
        send(x, 0, 1, 8, FAR);
        due("two bookings", x.booked(0), 5);
        send(x, 0, 1, 30, 4);
        due("a stuck bundle books nothing", x.booked(0), 5);
        x.quote(1, 30);
        x.reach(0, 30, FAR);
        x.latest(1, 30, FAR);
        due("questions book nothing", x.booked(0), 5);
        x.pass(200);
        due("bookings of the past count", x.booked(0), 5);
        int[] wrongNumbers = {MIN, -1, 1, 10, MAX};
        for (int k : wrongNumbers) {
            due("number " + k, x.booked(k), BAD);
        }
        x.cancel(0);
        due("cancelled", x.booked(0), NONE);

        ContactNetwork y = new ContactNetwork();
        add(y, 0, 1, 0, 100, 1, 0);
        for (int b = 0; b < 10; b++) {
            send(y, 0, 1, b < 3 ? 30 : 10, FAR);
        }
        due("every tick booked", y.booked(0), 100);
        due("the last one", y.hop(3, 0), 90);
        due("no room", y.state(4), 0);
    }

    private static void sendArguments() {
        promise = "promise 5";
        ContactNetwork x = new ContactNetwork();
        for (int e : WRONG_ENDS) {
            due("ends " + e, x.send(e, 1, FAR), BAD);
        }
        for (int s : WRONG_SIZES) {
            due("size " + s, x.send(1, s, FAR), BAD);
        }
        due("refused ones have no number", x.state(0), BAD);
        for (int b = 0; b < 10; b++) {
            due("number", x.send(b % 2 == 0 ? 1 : 34, b % 2 == 0 ? 1 : 30, b % 2 == 0 ? MIN : MAX), b);
        }
        due("eleventh", x.send(1, 1, FAR), FULL);
        due("BAD ends are looked at before FULL", x.send(0, 1, FAR), BAD);
        due("BAD size is looked at before FULL", x.send(1, 31, FAR), BAD);
        add(x, 0, 1, 0, 10, 1, 0);
        due("nothing booked for refused ones or limits of the past", x.booked(0), 0);
    }

    private static void sendBestRoute() {
        promise = "promise 5";
        ContactNetwork x = new ContactNetwork();
        add(x, 0, 1, 50, 60, 9, 0);
        add(x, 0, 2, 0, 10, 9, 0);
        add(x, 2, 1, 0, 20, 9, 0);
        send(x, 0, 1, 9, FAR);
        dueHops("lesser arrival before fewer contacts", x, 0, 1000, 2001);

        x = new ContactNetwork();
        add(x, 0, 2, 0, 10, 9, 0);
        add(x, 2, 1, 0, 10, 9, 0);
        add(x, 0, 1, 0, 10, 9, 1);
        send(x, 0, 1, 9, FAR);
        dueHops("fewer contacts before lesser numbers", x, 0, 2000);

        x = new ContactNetwork();
        add(x, 2, 1, 0, 10, 9, 0);
        add(x, 3, 1, 0, 10, 9, 0);
        add(x, 0, 3, 0, 10, 9, 0);
        add(x, 0, 2, 0, 10, 9, 0);
        send(x, 0, 1, 9, FAR);
        dueHops("lesser number at the first place", x, 0, 2000, 1001);

        x = new ContactNetwork();
        add(x, 2, 1, 5, 10, 3, 0);
        add(x, 2, 1, 5, 10, 4, 0);
        add(x, 0, 2, 0, 10, 1, 0);
        add(x, 0, 2, 0, 10, 9, 0);
        send(x, 0, 1, 3, FAR);
        dueHops("though the other one comes in earlier half way", x, 0, 2000, 5);

        x = new ContactNetwork();
        add(x, 4, 5, 0, 10, 9, 0);
        add(x, 3, 4, 0, 10, 9, 0);
        add(x, 2, 3, 0, 10, 9, 0);
        add(x, 1, 2, 0, 10, 9, 0);
        add(x, 0, 1, 0, 10, 9, 0);
        add(x, 0, 5, 4, 10, 9, 1);
        send(x, 0, 5, 1, FAR);
        dueHops("five contacts", x, 0, 4000, 3001, 2002, 1003, 4);
        x.cancel(4);
        dueHops("the other way", x, 0, 5004);
    }

    private static void sendBookings() {
        promise = "promise 5";
        ContactNetwork x = new ContactNetwork();
        add(x, 0, 1, 0, 20, 1, 0);
        add(x, 2, 0, 0, 10, 1, 5);
        send(x, 2, 1, 2, FAR);
        dueHops("comes in before it goes on", x, 0, 1000, 7);
        send(x, 0, 1, 3, FAR);
        dueHops("before the other booking", x, 1, 0);
        send(x, 0, 1, 5, FAR);
        dueHops("the gap is too small", x, 2, 9);
        send(x, 0, 1, 4, FAR);
        dueHops("the gap is just great enough", x, 3, 3);
        send(x, 0, 1, 6, FAR);
        dueHops("up to the end", x, 4, 14);
        send(x, 0, 1, 1, FAR);
        dueHops("full", x, 5);

        x = new ContactNetwork();
        add(x, 0, 1, 4, 8, 5, 2);
        x.pass(3);
        send(x, 0, 1, 11, FAR);
        dueHops("not before the start", x, 0, 4);
        due("three ticks and the delay", x.arrival(0), 9);
        x.pass(3);
        send(x, 0, 1, 6, FAR);
        dueHops("one tick is left, two are needed", x, 1);
        send(x, 0, 1, 5, FAR);
        dueHops("one tick", x, 2, 7);

        x = new ContactNetwork();
        add(x, 0, 1, 0, 50, 1, 0);
        x.pass(7);
        send(x, 0, 1, 2, FAR);
        dueHops("ready at the present time", x, 0, 7);
    }

    private static void sendLimit() {
        promise = "promise 5";
        ContactNetwork x = new ContactNetwork();
        add(x, 0, 1, 10, 20, 3, 4);
        send(x, 0, 1, 9, 16);
        due("one tick after the limit", x.state(0), 0);
        send(x, 0, 1, 9, 17);
        due("at the limit", x.state(1), 1);
        send(x, 0, 1, 9, 17);
        due("the limit against the booking it would get", x.state(2), 0);
        send(x, 0, 1, 9, MAX);
        due("greatest limit", x.arrival(3), 20);
        send(x, 0, 1, 9, MIN);
        due("least limit", x.state(4), 0);
        due("no hops", x.hops(4), 0);
    }

    private static void pass() {
        promise = "promises 6 and 7";
        ContactNetwork x = new ContactNetwork();
        int[] wrongTicks = {MIN, -200, -1, 201, 202, MAX};
        for (int t : wrongTicks) {
            due("ticks " + t, x.pass(t), BAD);
            due("time after a refused pass", x.time(), 0);
        }
        due("0", x.pass(0), 0);
        due("1", x.pass(1), 1);
        due("200", x.pass(200), 201);
        due("time", x.time(), 201);
        due("on and on", x.pass(200), 401);
        due("time", x.time(), 401);

        // A stuck bundle is planned again by contact and cancel alone.
        ContactNetwork y = new ContactNetwork();
        add(y, 0, 1, 0, 10, 1, 0);
        send(y, 0, 1, 8, FAR);
        send(y, 0, 1, 8, FAR);
        y.pass(1);
        due("stays stuck", y.state(1), 0);
        add(y, 0, 1, 0, 12, 1, 0);
        due("planned again", y.hop(1, 0), 1001);
    }

    private static void state() {
        promise = "promise 8";
        ContactNetwork x = new ContactNetwork();
        add(x, 0, 1, 3, 10, 1, 2);
        send(x, 0, 1, 4, FAR);
        send(x, 1, 0, 4, FAR);
        due("routed", x.state(0), 1);
        due("stuck", x.state(1), 0);
        x.pass(8);
        due("one tick before", x.state(0), 1);
        x.pass(1);
        due("arrived as it comes in", x.state(0), 2);
        x.cancel(0);
        due("arrived stays", x.state(0), 2);
        int[] wrongNumbers = {MIN, -1, 2, 9, 10, MAX};
        for (int b : wrongNumbers) {
            due("number " + b, x.state(b), BAD);
        }
    }

    private static void arrival() {
        promise = "promise 9";
        ContactNetwork x = new ContactNetwork();
        add(x, 0, 1, 3, 10, 2, 2);
        add(x, 1, 2, 0, 100, 9, 9);
        send(x, 0, 2, 5, FAR);
        send(x, 2, 0, 5, FAR);
        due("by the last booking", x.arrival(0), 3 + 3 + 2 + 1 + 9);
        due("stuck", x.arrival(1), NONE);
        x.pass(100);
        due("arrived", x.arrival(0), 18);
        int[] wrongNumbers = {MIN, -1, 2, 9, 10, MAX};
        for (int b : wrongNumbers) {
            due("number " + b, x.arrival(b), BAD);
        }
    }

    private static void hopsAndHop() {
        promise = "promises 10 and 11";
        ContactNetwork x = new ContactNetwork();
        add(x, 1, 2, 0, 100, 9, 0);
        add(x, 0, 1, 99, 100, 9, 0);
        send(x, 0, 1, 9, FAR);
        send(x, 2, 0, 9, FAR);
        send(x, 1, 2, 9, FAR);
        dueHops("greatest begin", x, 0, 1099);
        dueHops("stuck", x, 1);
        dueHops("contact 0 at 0", x, 2, 0);
        x.pass(50);
        dueHops("bookings of the past count", x, 2, 0);
        due("hop -1", x.hop(0, -1), NONE);
        due("least hop", x.hop(0, MIN), NONE);
        due("greatest hop", x.hop(0, MAX), NONE);
        due("hop 100 is not the next bundle's", x.hop(0, 100), NONE);
        int[] wrongNumbers = {MIN, -1, 3, 9, 10, MAX};
        for (int b : wrongNumbers) {
            due("hops of " + b, x.hops(b), BAD);
            due("hop of " + b, x.hop(b, 0), BAD);
            due("BAD before NONE, " + b, x.hop(b, -1), BAD);
        }
    }

    private static void place() {
        promise = "promise 12";
        ContactNetwork x = new ContactNetwork();
        add(x, 3, 4, 2, 10, 1, 2);
        add(x, 4, 5, 9, 30, 1, 0);
        send(x, 3, 5, 3, FAR);
        send(x, 5, 3, 3, FAR);
        dueHops("plan", x, 0, 2, 1009);
        due("before the first begin", x.place(0), 3);
        x.pass(2);
        due("at the first begin", x.place(0), 3);
        x.pass(1);
        due("begun", x.place(0), 10);
        x.pass(2);
        due("wholly out, not come in", x.place(0), 10);
        x.pass(1);
        due("one tick before it comes in", x.place(0), 10);
        x.pass(1);
        due("as it comes in", x.place(0), 4);
        x.pass(2);
        due("at the second begin", x.place(0), 4);
        x.pass(1);
        due("under way by the second", x.place(0), 11);
        x.pass(2);
        due("arrived", x.place(0), 5);
        due("stuck at its source", x.place(1), 5);
        int[] wrongNumbers = {MIN, -1, 2, 9, 10, MAX};
        for (int b : wrongNumbers) {
            due("number " + b, x.place(b), BAD);
        }

        ContactNetwork y = new ContactNetwork();
        add(y, 3, 4, 2, 10, 1, 2);
        add(y, 4, 5, 9, 30, 1, 0);
        send(y, 3, 5, 3, FAR);
        y.cancel(1);
        due("stuck elsewhere, not gone yet", y.place(0), 3);
        y.pass(3);
        due("stuck elsewhere, under way", y.place(0), 10);
        y.pass(4);
        due("come to where it is stuck", y.place(0), 4);
    }

    private static void quote() {
        promise = "promise 13";
        ContactNetwork x = new ContactNetwork();
        add(x, 0, 1, 0, 10, 1, 3);
        add(x, 1, 2, 0, 10, 9, 0);
        due("one contact", x.quote(ends(0, 1), 4), 7);
        due("two contacts", x.quote(ends(0, 2), 4), 8);
        due("asked again: nothing was booked", x.quote(ends(0, 2), 4), 8);
        due("no room", x.quote(ends(0, 1), 11), NONE);
        due("other way", x.quote(ends(1, 0), 1), NONE);
        send(x, 0, 1, 5, FAR);
        due("after the booking", x.quote(ends(0, 1), 4), 12);
        x.pass(6);
        due("sent now", x.quote(ends(0, 1), 4), 13);
        x.pass(1);
        due("too late", x.quote(ends(0, 1), 4), NONE);
        for (int b = 1; b < 10; b++) {
            send(x, 5, 4, 1, FAR);
        }
        due("also when ten were sent", x.quote(ends(0, 1), 3), 13);
        for (int e : WRONG_ENDS) {
            due("ends " + e, x.quote(e, 1), BAD);
        }
        for (int s : WRONG_SIZES) {
            due("size " + s, x.quote(1, s), BAD);
        }
    }

    private static void reach() {
        promise = "promise 14";
        ContactNetwork x = new ContactNetwork();
        add(x, 0, 1, 0, 10, 1, 3);
        add(x, 1, 2, 0, 10, 9, 0);
        add(x, 2, 0, 0, 50, 9, 0);
        add(x, 4, 5, 0, 50, 9, 0);
        due("before the first arrival", x.reach(0, 4, 6), 1);
        due("at the first arrival", x.reach(0, 4, 7), 3);
        due("at the second arrival", x.reach(0, 4, 8), 7);
        due("all it can", x.reach(0, 4, MAX), 7);
        due("from the middle", x.reach(1, 4, MAX), 7);
        due("from the middle, soon", x.reach(1, 4, 2), 7);
        due("from the middle, sooner", x.reach(1, 4, 1), 6);
        due("itself, though the time is past", x.reach(3, 4, MIN), 8);
        due("greatest node", x.reach(5, 30, MAX), 32);
        due("too great", x.reach(0, 11, MAX), 1);
        x.pass(8);
        due("sent now", x.reach(0, 2, MAX), 3);
        int[] wrongNodes = {MIN, -1, 6, 31, 32, MAX};
        for (int n : wrongNodes) {
            due("node " + n, x.reach(n, 1, FAR), BAD);
        }
        for (int s : WRONG_SIZES) {
            due("size " + s, x.reach(0, s, FAR), BAD);
        }
        due("nothing was booked", x.booked(0) + x.booked(1) + x.booked(2), 0);
    }

    private static void latest() {
        promise = "promise 15";
        ContactNetwork x = new ContactNetwork();
        add(x, 0, 1, 10, 30, 1, 3);
        due("end of the contact", x.latest(1, 5, MAX), 25);
        due("by a time", x.latest(1, 5, 20), 12);
        due("just so", x.latest(1, 5, 18), 10);
        due("too early", x.latest(1, 5, 17), LATE);
        add(x, 3, 4, 0, 10, 1, 0);
        due("time 0", x.latest(ends(3, 4), 10, FAR), 0);
        due("least time", x.latest(1, 5, MIN), LATE);
        send(x, 0, 1, 5, FAR);
        due("with the bookings as they are", x.latest(1, 5, 20), LATE);
        due("room after the booking", x.latest(1, 5, 23), 15);
        x.pass(15);
        due("at the present time", x.latest(1, 5, 23), 15);
        x.pass(1);
        due("one tick later", x.latest(1, 5, 23), LATE);
        due("a later one is left", x.latest(1, 5, FAR), 25);
        for (int e : WRONG_ENDS) {
            due("ends " + e, x.latest(e, 1, FAR), BAD);
        }
        for (int s : WRONG_SIZES) {
            due("size " + s, x.latest(1, s, FAR), BAD);
        }
        due("no contact", x.latest(6, 1, FAR), LATE);

        ContactNetwork y = new ContactNetwork();
        add(y, 0, 1, 0, 100, 9, 9);
        due("ready in the last tick", y.latest(1, 9, MAX), 99);
        y.pass(99);
        due("in the last tick", y.latest(1, 9, MAX), 99);
        y.pass(1);
        due("time is 100", y.latest(1, 9, MAX), LATE);
        y.pass(1);
        due("time is past 100", y.latest(1, 9, MAX), LATE);

        ContactNetwork z = new ContactNetwork();
        add(z, 0, 1, 0, 100, 9, 0);
        add(z, 1, 2, 40, 50, 9, 0);
        due("over two contacts", z.latest(ends(0, 2), 9, FAR), 48);
        z.cancel(0);
        due("cancelled", z.latest(ends(0, 2), 9, FAR), LATE);
    }

    /** What README.md shows must stay true. */
    private static void readmeRun() {
        promise = "README.md";
        ContactNetwork net = new ContactNetwork();
        due("contact 0", net.contact(6 * 0 + 1, 101 * 0 + 20, 10 * 3 + 2), 0);
        due("contact 1", net.contact(6 * 1 + 2, 101 * 5 + 40, 10 * 1 + 0), 1);
        due("quote", net.quote(6 * 0 + 2, 6), 11);
        due("latest", net.latest(6 * 0 + 2, 6, 30), 18);
        due("send", net.send(6 * 0 + 2, 6, 30), 0);
        due("hops", net.hops(0), 2);
        due("hop", net.hop(0, 1), 1005);
        due("arrival", net.arrival(0), 11);
        due("pass", net.pass(7), 7);
        due("place, under way", net.place(0), 11);
        due("cancel", net.cancel(1), 1);
        due("state", net.state(0), 0);
        due("place, stuck", net.place(0), 1);
        due("contact 2", net.contact(6 * 1 + 2, 101 * 9 + 30, 10 * 6 + 4), 2);
        due("arrival by contact 2", net.arrival(0), 14);
    }
}
