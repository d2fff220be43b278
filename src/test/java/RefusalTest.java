import java.util.ArrayList;
import java.util.List;

/**
 * Refused calls and questions change nothing, and the last of 512 calls is
 * answered like the first. For the former, two objects are led to the same
 * point; one of them gets the call in question; from there on both must answer
 * alike, now and after more changes.
 */
public final class RefusalTest {
    private static final int BAD = -1;
    private static final int NONE = -2;
    private static final int FULL = -3;
    private static final int LATE = -4;
    private static final int MIN = Integer.MIN_VALUE;
    private static final int MAX = Integer.MAX_VALUE;

    private interface Call {
        int on(ContactNetwork x);
    }

    private interface Scene {
        void lead(ContactNetwork x);
    }

    private static int wrong = 0;

    private static void due(String what, int got, int want) {
        if (got != want) {
            wrong++;
            if (wrong <= 100) {
                System.out.println(what + ": answered " + got + ", due is " + want);
            }
        }
    }

    private static void add(ContactNetwork x, int from, int to, int start, int end, int rate, int delay) {
        x.contact(6 * from + to, 101 * start + end, 10 * rate + delay);
    }

    public static void main(String[] args) {
        refusedByAnEmptyOne();
        refusedHalfWay();
        refusedByAFullOne();
        questionsHalfWay();
        theLastOf512();
        System.out.println(wrong == 0 ? "what is refused changes nothing" : wrong + " answers are not as due");
        if (wrong != 0) {
            System.exit(1);
        }
    }

    /** Bundles of every kind: arrived, under way, waiting, stuck with a booking and without; and a cancelled contact. */
    private static void halfWay(ContactNetwork x) {
        add(x, 0, 1, 0, 40, 2, 1);
        add(x, 1, 2, 0, 60, 1, 3);
        add(x, 2, 3, 20, 70, 3, 0);
        add(x, 3, 4, 0, 90, 2, 2);
        add(x, 3, 5, 0, 100, 4, 2);
        x.send(1, 6, 4);
        x.send(2, 9, 1000);
        x.send(3, 5, 1000);
        x.send(4, 7, 1000);
        x.send(30, 30, 1000);
        x.send(1, 8, 5);
        x.cancel(3);
        x.pass(12);
        due("arrived", x.state(0), 2);
        due("under way", x.place(1), 11);
        due("waiting", x.place(2), 1);
        due("stuck with bookings", x.state(3) == 0 ? x.hops(3) : -9, 3);
        due("stuck without", x.state(4) == 0 ? x.hops(4) : -9, 0);
    }

    private static void full(ContactNetwork x) {
        halfWay(x);
        add(x, 5, 0, 0, 20, 9, 0);
        add(x, 4, 0, 0, 30, 3, 0);
        add(x, 1, 2, 30, 100, 2, 0);
        add(x, 2, 5, 0, 22, 1, 0);
        add(x, 0, 2, 0, 100, 1, 9);
        for (int b = 6; b < 10; b++) {
            x.send(b == 9 ? 31 : 2, 10 + b, b == 8 ? 20 : 1000);
        }
    }

    /** More changes, whose answers tell if something was changed before. */
    private static void goOn(ContactNetwork x, List<Integer> answers) {
        answers.add(x.send(2, 3, 1000));
        answers.add(x.contact(6 * 3 + 4, 101 * 5 + 95, 12));
        answers.add(x.pass(3));
        answers.add(x.cancel(1));
        answers.add(x.contact(6 * 1 + 2, 101 * 16 + 80, 11));
        answers.add(x.send(5, 3, 70));
        answers.add(x.pass(9));
        answers.add(x.cancel(4));
    }

    private static void lookAt(ContactNetwork x, List<Integer> answers) {
        answers.add(x.time());
        for (int k = -1; k <= 10; k++) {
            answers.add(x.booked(k));
        }
        for (int b = -1; b <= 10; b++) {
            answers.add(x.state(b));
            answers.add(x.arrival(b));
            answers.add(x.place(b));
            int hops = x.hops(b);
            answers.add(hops);
            for (int i = 0; i < hops; i++) {
                answers.add(x.hop(b, i));
            }
        }
        for (int node = 0; node < 6; node++) {
            answers.add(x.reach(node, 4, 60));
            answers.add(x.quote(6 * node + (node + 1) % 6, 4));
            answers.add(x.latest(6 * node + (node + 2) % 6, 4, 90));
        }
    }

    private static List<Integer> answersAfter(String what, Scene scene, Call call, int want) {
        ContactNetwork x = new ContactNetwork();
        scene.lead(x);
        if (call != null) {
            due(what, call.on(x), want);
            due(what + ", once more", call.on(x), want);
        }
        List<Integer> answers = new ArrayList<>();
        lookAt(x, answers);
        goOn(x, answers);
        lookAt(x, answers);
        return answers;
    }

    private static void changesNothing(String what, Scene scene, Call call, int want) {
        List<Integer> without = answersAfter(what, scene, null, 0);
        List<Integer> with = answersAfter(what, scene, call, want);
        if (!without.equals(with)) {
            wrong++;
            System.out.println(what + " changed something: without it " + without + ", with it " + with);
        }
    }

    private static void refusedByAnEmptyOne() {
        Scene empty = x -> { };
        refusedEverywhere("empty", empty);
        changesNothing("cancel(0), empty", empty, x -> x.cancel(0), BAD);
        changesNothing("booked(0), empty", empty, x -> x.booked(0), BAD);
        changesNothing("state(0), empty", empty, x -> x.state(0), BAD);
        changesNothing("arrival(0), empty", empty, x -> x.arrival(0), BAD);
        changesNothing("hops(0), empty", empty, x -> x.hops(0), BAD);
        changesNothing("hop(0, 0), empty", empty, x -> x.hop(0, 0), BAD);
        changesNothing("place(0), empty", empty, x -> x.place(0), BAD);
        changesNothing("quote(1, 1), empty", empty, x -> x.quote(1, 1), NONE);
        changesNothing("latest(1, 1), empty", empty, x -> x.latest(1, 1, MAX), LATE);
    }

    private static void refusedHalfWay() {
        Scene half = RefusalTest::halfWay;
        refusedEverywhere("half way", half);
        changesNothing("cancel(5), half way", half, x -> x.cancel(5), BAD);
        changesNothing("cancelled already, half way", half, x -> x.cancel(3), BAD);
        changesNothing("booked, cancelled, half way", half, x -> x.booked(3), NONE);
        changesNothing("booked(5), half way", half, x -> x.booked(5), BAD);
        changesNothing("arrival of a stuck one, half way", half, x -> x.arrival(3), NONE);
        changesNothing("hop after the last, half way", half, x -> x.hop(3, 3), NONE);
        changesNothing("state(6), half way", half, x -> x.state(6), BAD);
        changesNothing("quote, no route, half way", half, x -> x.quote(30, 1), NONE);
        changesNothing("latest, too late, half way", half, x -> x.latest(2, 1, 12), LATE);
    }

    private static void refusedByAFullOne() {
        Scene full = RefusalTest::full;
        refusedEverywhere("full", full);
        changesNothing("eleventh contact", full, x -> x.contact(6 * 3 + 4, 100, 90), FULL);
        changesNothing("eleventh bundle", full, x -> x.send(1, 1, 1000), FULL);
        changesNothing("eleventh bundle, stuck", full, x -> x.send(34, 30, MIN), FULL);
        changesNothing("cancel(10), full", full, x -> x.cancel(10), BAD);
        changesNothing("cancelled already, full", full, x -> x.cancel(3), BAD);
        changesNothing("state(10), full", full, x -> x.state(10), BAD);
    }

    /** What is refused whatever there is. */
    private static void refusedEverywhere(String where, Scene scene) {
        int[] wrongEnds = {MIN, -1, 0, 7, 35, 36, MAX};
        for (int e : wrongEnds) {
            changesNothing("contact, ends " + e + ", " + where, scene, x -> x.contact(e, 100, 90), BAD);
            changesNothing("send, ends " + e + ", " + where, scene, x -> x.send(e, 1, 1000), BAD);
            changesNothing("quote, ends " + e + ", " + where, scene, x -> x.quote(e, 1), BAD);
            changesNothing("latest, ends " + e + ", " + where, scene, x -> x.latest(e, 1, 1000), BAD);
        }
        int[] wrongSpans = {MIN, -1, 0, 101, 102, 101 * 100, 101 * 101 + 100, MAX};
        for (int s : wrongSpans) {
            changesNothing("contact, span " + s + ", " + where, scene, x -> x.contact(22, s, 90), BAD);
        }
        int[] wrongTerms = {MIN, -1, 0, 9, 100, MAX};
        for (int t : wrongTerms) {
            changesNothing("contact, terms " + t + ", " + where, scene, x -> x.contact(22, 100, t), BAD);
        }
        int[] wrongSizes = {MIN, -1, 0, 31, MAX};
        for (int s : wrongSizes) {
            changesNothing("send, size " + s + ", " + where, scene, x -> x.send(2, s, 1000), BAD);
            changesNothing("quote, size " + s + ", " + where, scene, x -> x.quote(2, s), BAD);
            changesNothing("reach, size " + s + ", " + where, scene, x -> x.reach(0, s, 1000), BAD);
            changesNothing("latest, size " + s + ", " + where, scene, x -> x.latest(2, s, 1000), BAD);
        }
        int[] wrongNodes = {MIN, -1, 6, MAX};
        for (int n : wrongNodes) {
            changesNothing("reach, node " + n + ", " + where, scene, x -> x.reach(n, 1, 1000), BAD);
        }
        int[] wrongTicks = {MIN, -200, -1, 201, MAX};
        for (int t : wrongTicks) {
            changesNothing("pass(" + t + "), " + where, scene, x -> x.pass(t), BAD);
        }
        int[] wrongNumbers = {MIN, -1, 10, 11, MAX};
        for (int n : wrongNumbers) {
            changesNothing("cancel(" + n + "), " + where, scene, x -> x.cancel(n), BAD);
            changesNothing("booked(" + n + "), " + where, scene, x -> x.booked(n), BAD);
            changesNothing("state(" + n + "), " + where, scene, x -> x.state(n), BAD);
            changesNothing("arrival(" + n + "), " + where, scene, x -> x.arrival(n), BAD);
            changesNothing("hops(" + n + "), " + where, scene, x -> x.hops(n), BAD);
            changesNothing("hop(" + n + ", 0), " + where, scene, x -> x.hop(n, 0), BAD);
            changesNothing("place(" + n + "), " + where, scene, x -> x.place(n), BAD);
        }
    }

    private static void questionsHalfWay() {
        Scene half = RefusalTest::halfWay;
        changesNothing("booked(1)", half, x -> x.booked(1), 21);
        changesNothing("time()", half, x -> x.time(), 12);
        changesNothing("pass(0)", half, x -> x.pass(0), 12);
        changesNothing("state(1)", half, x -> x.state(1), 1);
        changesNothing("arrival(0)", half, x -> x.arrival(0), 4);
        changesNothing("hops(2)", half, x -> x.hops(2), 3);
        changesNothing("hop(2, 0)", half, x -> x.hop(2, 0), 8);
        changesNothing("place(1)", half, x -> x.place(1), 11);
        changesNothing("quote(1, 30)", half, x -> x.quote(1, 30), 31);
        changesNothing("quote(2, 5)", half, x -> x.quote(2, 5), 38);
        changesNothing("reach(0, 5, 1000)", half, x -> x.reach(0, 5, 1000), 47);
        changesNothing("latest(1, 10, 1000)", half, x -> x.latest(1, 10, 1000), 35);
        changesNothing("latest(5, 10, 1000)", half, x -> x.latest(5, 10, 1000), 35);
    }

    private static void theLastOf512() {
        last("contact", ContactNetwork::time, x -> x.contact(22, 100, 10), 3);
        last("cancel", ContactNetwork::time, x -> x.cancel(0), 1);
        last("booked", ContactNetwork::time, x -> x.booked(1), 5);
        last("send", ContactNetwork::time, x -> x.send(1, 1, 1000), 2);
        last("pass", ContactNetwork::time, x -> x.pass(200), 202);
        last("time", ContactNetwork::time, x -> x.time(), 2);
        last("state", ContactNetwork::time, x -> x.state(1), 0);
        last("arrival", ContactNetwork::time, x -> x.arrival(0), 55);
        last("hops", ContactNetwork::time, x -> x.hops(0), 2);
        last("hop", ContactNetwork::time, x -> x.hop(0, 1), 1050);
        last("place", ContactNetwork::time, x -> x.place(0), 10);
        last("quote", ContactNetwork::time, x -> x.quote(2, 5), 60);
        last("reach", ContactNetwork::time, x -> x.reach(0, 5, 60), 7);
        last("latest", ContactNetwork::time, x -> x.latest(1, 5, 100), 95);
        last("after contact", x -> x.contact(22, 100, 10), x -> x.hop(1, 0), 3002);
        last("after cancel", x -> x.cancel(0), x -> x.state(0), 0);
        last("after send", x -> x.send(1, 1, 1000), x -> x.hop(2, 0), 5);
        last("after pass", x -> x.pass(53), x -> x.state(0), 2);
    }

    /** Leads a new object to its last two calls; those before are questions and refused ones, which count as calls too. */
    private static void last(String what, Call call511, Call call512, int want) {
        ContactNetwork x = new ContactNetwork();
        add(x, 0, 1, 0, 100, 1, 0);
        add(x, 1, 2, 50, 100, 1, 0);
        add(x, 3, 4, 0, 100, 1, 0);
        x.cancel(2);
        x.send(2, 5, 1000);
        x.send(22, 5, 1000);
        x.pass(2);
        for (int number = 8; number <= 510; number++) {
            switch (number % 6) {
                case 0: due("call " + number + ", contact", x.contact(0, 100, 10), BAD); break;
                case 1: due("call " + number + ", send", x.send(2, 31, 1000), BAD); break;
                case 2: due("call " + number + ", pass", x.pass(201), BAD); break;
                case 3: due("call " + number + ", hop", x.hop(0, 1), 1050); break;
                case 4: due("call " + number + ", cancel", x.cancel(2), BAD); break;
                default: due("call " + number + ", quote", x.quote(2, 5), 60); break;
            }
        }
        call511.on(x);
        due("call 512, " + what, call512.on(x), want);
    }
}
