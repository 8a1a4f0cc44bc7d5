/** Promise 4: requests of type 0400. */
final class HandleReversalTest {
    private static final Checks CHECKS = new Checks();

    public static void main(String[] args) {
        eachKind();
        notFound();
        completedHold();
        timeAndHolds();
        CHECKS.end();
    }

    private static void eachKind() {
        Bench bench = Bench.withTwoCards();
        bench.send(Message.debit(5, 30, 1));
        bench.send(Message.credit(5, 8, 2));
        bench.send(Message.hold(5, 50, 3));
        CHECKS.due("debit", bench.send(Message.reversal(5, 4, 1)), 0);
        CHECKS.due("balance", bench.desk.balance(5), 108);
        CHECKS.due("credit", bench.send(Message.reversal(5, 5, 2)), 0);
        CHECKS.due("balance", bench.desk.balance(5), 100);
        CHECKS.due("available", bench.desk.available(5), 50);
        CHECKS.due("hold", bench.send(Message.reversal(5, 6, 3)), 0);
        CHECKS.due("balance", bench.desk.balance(5), 100);
        CHECKS.due("available", bench.desk.available(5), 100);
        CHECKS.due("states", bench.states(), "3 3 3 0 0 0");
        for (int original = 1; original <= 6; original++) {
            CHECKS.due("again " + original,
                bench.send(Message.reversal(5, 10 + original, original)), 25);
        }
        CHECKS.due("balance", bench.desk.balance(5), 100);
        CHECKS.due("other card", bench.desk.balance(77), 1000);
    }

    private static void notFound() {
        Bench bench = Bench.withTwoCards();
        bench.send(Message.debit(5, 30, 1));
        bench.send(Message.debit(5, 300, 2));
        bench.send(Message.hold(5, 300, 3));
        bench.send(Message.settlement(4).terminal("ELSE"));
        CHECKS.due("no such card", bench.send(Message.reversal(6, 10, 1)), 14);
        CHECKS.due("other card", bench.send(Message.reversal(77, 11, 1)), 25);
        CHECKS.due("other terminal", bench.send(Message.reversal(5, 12, 1).terminal("TERN")), 25);
        CHECKS.due("other trace", bench.send(Message.reversal(5, 13, 9)), 25);
        CHECKS.due("refused debit", bench.send(Message.reversal(5, 14, 2)), 25);
        CHECKS.due("refused hold", bench.send(Message.reversal(5, 15, 3)), 25);
        CHECKS.due("balance", bench.desk.balance(5), 70);
        CHECKS.due("found", bench.send(Message.reversal(5, 16, 1)), 0);
        CHECKS.due("a reversal", bench.send(Message.reversal(5, 17, 16)), 25);
        CHECKS.due("balance", bench.desk.balance(5), 100);
    }

    private static void completedHold() {
        Bench bench = Bench.withTwoCards();
        bench.send(Message.hold(5, 60, 1));
        bench.send(Message.debit(5, 40, 2).original(1));
        CHECKS.due("the hold", bench.send(Message.reversal(5, 3, 1)), 25);
        CHECKS.due("its debit", bench.send(Message.reversal(5, 4, 2)), 0);
        CHECKS.due("balance", bench.desk.balance(5), 100);
        CHECKS.due("available", bench.desk.available(5), 100);
        CHECKS.due("states", bench.states(), "2 3 0 0");
        CHECKS.due("the hold", bench.send(Message.reversal(5, 5, 1)), 25);
    }

    private static void timeAndHolds() {
        Bench bench = Bench.withTwoCards();
        bench.send(Message.hold(5, 10, 1));
        bench.send(Message.debit(5, 20, 2));
        bench.send(Message.debit(5, 30, 3));
        bench.send(Message.hold(5, 10, 3));
        bench.desk.tick(50);
        CHECKS.due("hold", bench.send(Message.reversal(5, 4, 1)), 25);
        CHECKS.due("debit", bench.send(Message.reversal(5, 5, 2)), 0);
        CHECKS.due("debit before the hold", bench.send(Message.reversal(5, 6, 3)), 0);
        CHECKS.due("states", bench.states(), "0 3 3 0 0 0 0");
        CHECKS.due("balance", bench.desk.balance(5), 100);
    }
}
