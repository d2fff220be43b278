/** No call throws or hangs: not for any arguments, and not far beyond the promised 512 calls. */
public final class WildTest {
    private static final int[] NUMBERS = {Integer.MIN_VALUE, Integer.MIN_VALUE + 1, -1000, -101, -36, -10, -1, 0, 1,
        2, 5, 6, 7, 9, 10, 11, 30, 31, 35, 36, 99, 100, 101, 102, 200, 201, 1000, 10200, 10201, Integer.MAX_VALUE};

    private static long seed = 7;

    private static int below(int bound) {
        seed = seed * 6364136223846793005L + 1442695040888963407L;
        return (int) ((seed >>> 33) % bound);
    }

    private static int some() {
        return below(3) == 0 ? NUMBERS[below(NUMBERS.length)] : below(3) == 0 ? below(10201) : below(100);
    }

    private static void call(ContactNetwork x) {
        switch (below(14)) {
            case 0: x.contact(some(), some(), some()); break;
            case 1: x.cancel(some()); break;
            case 2: x.booked(some()); break;
            case 3: x.send(some(), some(), some()); break;
            case 4: x.pass(below(4) == 0 ? some() : below(2)); break;
            case 5: x.time(); break;
            case 6: x.state(some()); break;
            case 7: x.arrival(some()); break;
            case 8: x.hops(some()); break;
            case 9: x.hop(some(), some()); break;
            case 10: x.place(some()); break;
            case 11: x.quote(some(), some()); break;
            case 12: x.reach(some(), some(), some()); break;
            default: x.latest(some(), some(), some()); break;
        }
    }

    private static void manyCalls() {
        for (int run = 0; run < 500; run++) {
            ContactNetwork x = new ContactNetwork();
            for (int i = 0; i < 2000; i++) {
                call(x);
            }
        }
    }

    /** Lets the time run over the greatest int, with bundles routed and stuck. */
    private static void timeRunsOver() {
        ContactNetwork x = new ContactNetwork();
        x.contact(1, 100, 15);
        x.contact(8, 100, 15);
        x.send(2, 30, Integer.MAX_VALUE);
        x.send(6, 30, Integer.MAX_VALUE);
        for (int i = 0; i < 11000000; i++) {
            x.pass(200);
        }
        for (int i = 0; i < 2000; i++) {
            call(x);
        }
    }

    /** Very many ways, and each of them is asked for at each time: two contacts from every node to the next. */
    private static void mostWays() {
        ContactNetwork x = new ContactNetwork();
        for (int k = 0; k < 10; k++) {
            int from = k / 2;
            x.contact(6 * from + from + 1, 100, 91);
        }
        for (int i = 0; i < 500; i++) {
            x.latest(5, 30, 0);
        }
    }

    public static void main(String[] args) {
        manyCalls();
        timeRunsOver();
        mostWays();
        System.out.println("no call threw");
    }
}
