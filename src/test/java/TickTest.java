/** Promise 6: tick, and a hold's 50 ticks. */
final class TickTest {
    private static final Checks CHECKS = new Checks();

    public static void main(String[] args) {
        bounds();
        fiftyTicks();
        ticksAddUp();
        eachHoldHasItsOwnTime();
        CHECKS.end();
    }

    private static void bounds() {
        Bench bench = Bench.withOneCard();
        bench.send(Message.hold(5, 10, 1));
        int[] refused = {-1, 1001, -1000, -50, Integer.MIN_VALUE, Integer.MAX_VALUE};
        for (int n : refused) {
            CHECKS.due("tick(" + n + ")", bench.desk.tick(n), false);
        }
        CHECKS.due("tick(0)", bench.desk.tick(0), true);
        CHECKS.due("no time has gone by", bench.desk.entry(0, 3), 1);
        CHECKS.due("tick(49)", bench.desk.tick(49), true);
        CHECKS.due("49 ticks", bench.desk.entry(0, 3), 1);
        CHECKS.due("tick(-1)", bench.desk.tick(-1), false);
        CHECKS.due("tick(1)", bench.desk.tick(1), true);
        CHECKS.due("50 ticks", bench.desk.entry(0, 3), 0);
        CHECKS.due("tick(1000)", bench.desk.tick(1000), true);
        CHECKS.due("1050 ticks", bench.desk.entry(0, 3), 0);
    }

    private static void fiftyTicks() {
        for (int n = 0; n <= 60; n++) {
            Bench bench = Bench.withOneCard();
            bench.desk.tick(777);
            bench.send(Message.hold(5, 10, 1));
            bench.desk.tick(n);
            CHECKS.due("state after " + n, bench.desk.entry(0, 3), n < 50 ? 1 : 0);
            CHECKS.due("available after " + n, bench.desk.available(5), n < 50 ? 90 : 100);
        }
    }

    private static void ticksAddUp() {
        Bench bench = Bench.withOneCard();
        for (int i = 0; i < 200; i++) {
            bench.desk.tick(1000);
        }
        bench.send(Message.hold(5, 10, 1));
        for (int i = 1; i < 50; i++) {
            bench.desk.tick(1);
            CHECKS.due("after " + i, bench.desk.available(5), 90);
        }
        bench.desk.tick(1);
        CHECKS.due("after 50", bench.desk.available(5), 100);
    }

    private static void eachHoldHasItsOwnTime() {
        Bench bench = Bench.withOneCard();
        bench.send(Message.hold(5, 1, 1));
        bench.desk.tick(20);
        bench.send(Message.hold(5, 2, 2));
        bench.desk.tick(20);
        bench.send(Message.hold(5, 4, 3));
        // A repeated request does not begin the hold anew.
        bench.send(Message.hold(5, 1, 1));
        bench.desk.tick(10);
        CHECKS.due("states at 50", bench.states(), "0 1 1");
        bench.desk.tick(20);
        CHECKS.due("states at 70", bench.states(), "0 0 1");
        CHECKS.due("available at 70", bench.desk.available(5), 96);
        bench.desk.tick(20);
        CHECKS.due("states at 90", bench.states(), "0 0 0");
    }
}
