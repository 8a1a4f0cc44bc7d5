/** Promise 4: requests of type 0200. */
final class HandleMoneyTest {
    private static final Checks CHECKS = new Checks();

    public static void main(String[] args) {
        sorts();
        orderOfAnswers();
        debits();
        credits();
        completions();
        completionsThatFindNoHold();
        completedHoldsHoldNothing();
        CHECKS.end();
    }

    private static void due(String what, Message message, int want) {
        CHECKS.due(what, Bench.withTwoCards().send(message), want);
    }

    private static void sorts() {
        due("a debit", Message.debit(5, 1, 1).sort("009999"), 0);
        due("a credit", Message.credit(5, 1, 1).sort("209999"), 0);
        due("neither", Message.money("0200", "01", 5, 1, 1), 12);
        for (int kind = 0; kind < 100; kind++) {
            String digits = String.format("%02d", kind);
            due("sort " + kind + " with 56", Message.money("0200", digits, 5, 1, 1).original(1),
                kind == 0 ? 25 : 12);
        }
    }

    private static void orderOfAnswers() {
        CHECKS.about("which is the first of these that is so");
        due("14 before 12", Message.money("0200", "01", 6, 1, 1), 14);
        due("14 before 12 for field 56", Message.credit(6, 1, 1).original(1), 14);
        due("14 before 25", Message.debit(6, 1, 1).original(1), 14);
        due("14 before 51", Message.debit(6, 2000, 1), 14);
        due("12 before 25", Message.money("0200", "01", 5, 1, 1).original(1), 12);
        due("12 before 51", Message.money("0200", "01", 5, 101, 1), 12);
        due("25 before 51", Message.debit(5, 2000, 1).original(1), 25);
        due("a reversal, 14 before 25", Message.reversal(6, 1, 1), 14);
    }

    private static void debits() {
        CHECKS.about("A debit without it: 51 the amount is more than what is available");
        Bench bench = Bench.withTwoCards();
        CHECKS.due("too much", bench.send(Message.debit(5, 101, 1)), 51);
        CHECKS.due("balance", bench.desk.balance(5), 100);
        CHECKS.due("30", bench.send(Message.debit(5, 30, 2)), 0);
        CHECKS.due("balance", bench.desk.balance(5), 70);
        bench.send(Message.hold(5, 50, 3));
        CHECKS.due("more than available", bench.send(Message.debit(5, 21, 4)), 51);
        CHECKS.due("all available", bench.send(Message.debit(5, 20, 5)), 0);
        CHECKS.due("balance", bench.desk.balance(5), 50);
        CHECKS.due("available", bench.desk.available(5), 0);
        CHECKS.due("other card", bench.desk.balance(77), 1000);
        CHECKS.due("states", bench.states(), "0 0 1 0 0");
    }

    private static void credits() {
        CHECKS.about("A credit: 0, and the amount is added to the balance");
        Bench bench = Bench.withTwoCards();
        CHECKS.due("no such card", bench.send(Message.credit(6, 1, 1)), 14);
        CHECKS.due("the most", bench.send(Message.credit(5, 999999999999L, 2)), 0);
        CHECKS.due("once more", bench.send(Message.credit(5, 999999999999L, 3)), 0);
        CHECKS.due("balance", bench.desk.balance(5), 2000000000098L);
        CHECKS.due("with 56", bench.send(Message.credit(5, 1, 4).original(2)), 12);
        CHECKS.due("balance", bench.desk.balance(5), 2000000000098L);
    }

    private static void completions() {
        CHECKS.about("0, the hold is completed, and the amount is taken from the balance");
        Bench bench = Bench.withTwoCards();
        bench.send(Message.hold(5, 60, 1));
        bench.send(Message.hold(5, 30, 2));
        CHECKS.due("more than the hold", bench.send(Message.debit(5, 61, 3).original(1)), 51);
        CHECKS.due("states", bench.states(), "1 1 0");
        CHECKS.due("balance", bench.desk.balance(5), 100);
        CHECKS.due("as the hold", bench.send(Message.debit(5, 60, 4).original(1)), 0);
        CHECKS.due("states", bench.states(), "2 1 0 0");
        CHECKS.due("balance", bench.desk.balance(5), 40);
        CHECKS.due("less than the hold", bench.send(Message.debit(5, 10, 5).original(2)), 0);
        CHECKS.due("states", bench.states(), "2 2 0 0 0");
        CHECKS.due("balance", bench.desk.balance(5), 30);
        CHECKS.due("available", bench.desk.available(5), 30);
        CHECKS.due("completed already", bench.send(Message.debit(5, 10, 6).original(2)), 25);
    }

    private static void completionsThatFindNoHold() {
        CHECKS.about("25 there is no hold with that trace of the same terminal and card");
        Bench bench = Bench.withTwoCards();
        bench.send(Message.hold(5, 60, 1));
        bench.send(Message.debit(5, 1, 2));
        bench.send(Message.hold(5, 600, 3));
        CHECKS.due("other trace", bench.send(Message.debit(5, 1, 10).original(4)), 25);
        CHECKS.due("a debit's trace", bench.send(Message.debit(5, 1, 11).original(2)), 25);
        CHECKS.due("a refused hold", bench.send(Message.debit(5, 1, 12).original(3)), 25);
        CHECKS.due("other card", bench.send(Message.debit(77, 1, 13).original(1)), 25);
        CHECKS.due("other terminal",
            bench.send(Message.debit(5, 1, 14).terminal("ELSE").original(1)), 25);
        CHECKS.due("25 before 51", bench.send(Message.debit(5, 9999, 15).original(4)), 25);
        bench.desk.tick(49);
        CHECKS.due("49 ticks, too much", bench.send(Message.debit(5, 61, 16).original(1)), 51);
        bench.desk.tick(1);
        CHECKS.due("50 ticks", bench.send(Message.debit(5, 1, 17).original(1)), 25);
        bench.send(Message.hold(5, 10, 20));
        bench.send(Message.reversal(5, 21, 20));
        CHECKS.due("reversed", bench.send(Message.debit(5, 1, 22).original(20)), 25);
    }

    /** What completes a hold is measured by the hold alone, even below what is available. */
    private static void completedHoldsHoldNothing() {
        CHECKS.about("type 0100 it is a HOLD of its amount until it is COMPLETED or REVERSED");
        Bench bench = Bench.withTwoCards();
        bench.send(Message.credit(5, 100, 1));
        bench.send(Message.hold(5, 200, 2));
        bench.send(Message.reversal(5, 3, 1));
        CHECKS.due("available", bench.desk.available(5), -100);
        CHECKS.due("completed", bench.send(Message.debit(5, 200, 4).original(2)), 0);
        CHECKS.due("balance", bench.desk.balance(5), -100);
        CHECKS.due("available", bench.desk.available(5), -100);
        bench.desk.tick(1000);
        CHECKS.due("completed long ago", bench.desk.entry(1, 3), 2);
    }
}
