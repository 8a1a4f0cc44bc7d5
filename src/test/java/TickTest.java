/** Promise 6: tick, and a hold's 50 ticks. */
final class TickTest {
    private static final Checks CHECKS = new Checks();

    public static void main(String[] args) {
        bounds();
        refusedTicksAreNone();
        noTicks();
        fiftyTicks();
        thousandTicks();
        ticksAddUp();
        eachHoldHasItsOwnTime();
        oneTickBeforeTheEnd();
        atTheEnd();
        endedForGood();
        completedOrReversedBefore();
        CHECKS.end();
    }

    private static void tick(Bench bench, int n, boolean want) {
        CHECKS.due("tick(" + n + ")", bench.desk.tick(n), want);
    }

    /** A new desk whose card 5 of 100 has a hold of 10, made so many ticks ago. */
    private static Bench withHoldOf(int ticks) {
        Bench bench = Bench.withOneCard();
        bench.send(Message.hold(5, 10, 1));
        bench.desk.tick(ticks);
        return bench;
    }

    private static void held(String when, Bench bench, boolean want) {
        CHECKS.due("entry(0, 3) " + when, bench.desk.entry(0, 3), want ? 1 : 0);
        CHECKS.due("available(5) " + when, bench.desk.available(5), want ? 90 : 100);
    }

    private static void bounds() {
        CHECKS.about("n ticks go by: true; false when n is not 0 .. 1000");
        Bench bench = Bench.withOneCard();
        int[] taken = {0, 1, 2, 49, 50, 999, 1000};
        for (int n : taken) {
            tick(bench, n, true);
        }
        int[] refused = {-1, -2, 1001, 1002, -50, -1000, 65536, Integer.MIN_VALUE,
            Integer.MAX_VALUE};
        for (int n : refused) {
            tick(bench, n, false);
        }
    }

    private static void refusedTicksAreNone() {
        CHECKS.about("false when n is not 0 .. 1000");
        int[] refused = {-1, 1001, -49, Integer.MIN_VALUE, Integer.MAX_VALUE};
        for (int n : refused) {
            Bench bench = withHoldOf(49);
            tick(bench, n, false);
            held("after a refused tick", bench, true);
            tick(bench, 1, true);
            held("after one tick more", bench, false);
        }
    }

    private static void noTicks() {
        CHECKS.about("n ticks go by: true");
        Bench bench = withHoldOf(49);
        for (int k = 0; k < 60; k++) {
            tick(bench, 0, true);
        }
        held("after 49 ticks", bench, true);
    }

    private static void fiftyTicks() {
        CHECKS.about("until 50 ticks have gone by since it was made");
        for (int n = 0; n <= 60; n++) {
            held("after " + n, withHoldOf(n), n < 50);
            Bench bench = Bench.withOneCard();
            bench.desk.tick(777);
            bench.send(Message.hold(5, 10, 1));
            bench.desk.tick(n);
            held("after " + n + ", made at 777", bench, n < 50);
        }
    }

    private static void thousandTicks() {
        CHECKS.about("until 50 ticks have gone by since it was made");
        Bench bench = withHoldOf(1000);
        held("after 1000", bench, false);
        bench.send(Message.hold(5, 10, 2));
        CHECKS.due("a new hold", bench.states(), "0 1");
    }

    private static void ticksAddUp() {
        CHECKS.about("TIME is a number of ticks, 0 at first");
        Bench bench = Bench.withOneCard();
        for (int i = 0; i < 200; i++) {
            bench.desk.tick(1000);
        }
        bench.send(Message.hold(5, 10, 1));
        for (int i = 1; i < 50; i++) {
            bench.desk.tick(1);
            CHECKS.due("after " + i, bench.desk.available(5), 90);
        }
        bench.desk.tick(1);
        CHECKS.due("after 50", bench.desk.available(5), 100);
    }

    private static void eachHoldHasItsOwnTime() {
        CHECKS.about("until 50 ticks have gone by since it was made");
        Bench bench = Bench.withOneCard();
        bench.send(Message.hold(5, 1, 1));
        bench.desk.tick(20);
        bench.send(Message.hold(5, 2, 2));
        bench.desk.tick(20);
        bench.send(Message.hold(5, 4, 3));
        // A repeated request does not begin the hold anew.
        bench.send(Message.hold(5, 1, 1));
        bench.desk.tick(10);
        CHECKS.due("states at 50", bench.states(), "0 1 1");
        bench.desk.tick(20);
        CHECKS.due("states at 70", bench.states(), "0 0 1");
        CHECKS.due("available at 70", bench.desk.available(5), 96);
        bench.desk.tick(20);
        CHECKS.due("states at 90", bench.states(), "0 0 0");
    }

    private static void oneTickBeforeTheEnd() {
        CHECKS.about("until 50 ticks have gone by since it was made");
        CHECKS.due("completed", withHoldOf(49).send(Message.debit(5, 10, 2).original(1)), 0);
        CHECKS.due("reversed", withHoldOf(49).send(Message.reversal(5, 2, 1)), 0);
        CHECKS.due("90 are available", withHoldOf(49).send(Message.debit(5, 91, 2)), 51);
        Bench bench = withHoldOf(49);
        bench.send(Message.settlement(2));
        CHECKS.due("kept by a settlement", bench.column(1), "1 2");
        held("after it", bench, true);
    }

    private static void atTheEnd() {
        CHECKS.about("(then it is none any more)");
        CHECKS.due("completed", withHoldOf(50).send(Message.debit(5, 10, 2).original(1)), 25);
        CHECKS.due("reversed", withHoldOf(50).send(Message.reversal(5, 2, 1)), 25);
        CHECKS.due("100 are available", withHoldOf(50).send(Message.debit(5, 91, 2)), 0);
        Bench bench = withHoldOf(50);
        bench.send(Message.settlement(2));
        CHECKS.due("taken out by a settlement", bench.column(1), "2");
    }

    /** It stays an entry: what repeats it is answered from it, and makes no hold. */
    private static void endedForGood() {
        CHECKS.about("(then it is none any more)");
        Bench bench = withHoldOf(50);
        CHECKS.due("the same request", bench.send(Message.hold(5, 10, 1)), 0);
        CHECKS.due("entries", bench.desk.entries(), 1);
        CHECKS.due("its answer", bench.desk.entry(0, 2), 0);
        CHECKS.due("its amount", bench.desk.amount(0), 10);
        held("after the same request", bench, false);
        bench.send(Message.settlement(2));
        CHECKS.due("the same request when it is taken out", bench.send(Message.hold(5, 10, 1)), 0);
        CHECKS.due("states", bench.states(), "0 1");
    }

    private static void completedOrReversedBefore() {
        CHECKS.about("2 when it is completed, 3 when it is reversed");
        Bench bench = withHoldOf(49);
        bench.send(Message.hold(5, 20, 2));
        bench.send(Message.debit(5, 4, 3).original(1));
        bench.send(Message.reversal(5, 4, 2));
        CHECKS.due("states at 49", bench.states(), "2 3 0 0");
        bench.desk.tick(1);
        CHECKS.due("states at 50", bench.states(), "2 3 0 0");
        bench.desk.tick(1000);
        CHECKS.due("states at 1050", bench.states(), "2 3 0 0");
        CHECKS.due("available", bench.desk.available(5), 96);
    }
}
