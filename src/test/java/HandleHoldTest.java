/** Promise 4: requests of type 0100. */
final class HandleHoldTest {
    private static final Checks CHECKS = new Checks();

    public static void main(String[] args) {
        answers();
        orderOfAnswers();
        holdsAddUp();
        belowZero();
        CHECKS.end();
    }

    private static void answers() {
        CHECKS.due("no such card", Bench.withTwoCards().send(Message.hold(6, 1, 1)), 14);
        CHECKS.due("more than there is", Bench.withTwoCards().send(Message.hold(5, 101, 1)), 51);
        CHECKS.due("all there is", Bench.withTwoCards().send(Message.hold(5, 100, 1)), 0);
        CHECKS.due("nothing", Bench.withTwoCards().send(Message.hold(5, 0, 1)), 0);
        for (int kind = 0; kind < 100; kind++) {
            Message message = Message.money("0100", String.format("%02d", kind), 5, 1, 1);
            CHECKS.due("sort " + kind, Bench.withTwoCards().send(message), kind == 0 ? 0 : 12);
        }
        CHECKS.due("sort 001234", Bench.withTwoCards().send(Message.hold(5, 1, 1).sort("001234")), 0);
    }

    private static void orderOfAnswers() {
        CHECKS.due("14 before 12", Bench.withTwoCards().send(Message.money("0100", "20", 6, 1, 1)), 14);
        CHECKS.due("12 before 51", Bench.withTwoCards().send(Message.money("0100", "20", 5, 500, 1)), 12);
        CHECKS.due("14 before 51", Bench.withTwoCards().send(Message.hold(6, 500, 1)), 14);
    }

    private static void holdsAddUp() {
        Bench bench = Bench.withTwoCards();
        CHECKS.due("60", bench.send(Message.hold(5, 60, 1)), 0);
        CHECKS.due("41 more", bench.send(Message.hold(5, 41, 2)), 51);
        CHECKS.due("40 more", bench.send(Message.hold(5, 40, 3).terminal("ELSE")), 0);
        CHECKS.due("1 more", bench.send(Message.hold(5, 1, 4)), 51);
        CHECKS.due("other card", bench.send(Message.hold(77, 1000, 5)), 0);
        CHECKS.due("balance", bench.desk.balance(5), 100);
        CHECKS.due("available", bench.desk.available(5), 0);
        CHECKS.due("states", bench.states(), "1 0 1 0 1");
        CHECKS.due("answers", bench.column(2), "0 51 0 51 0");
        bench.desk.tick(50);
        CHECKS.due("after 50 ticks", bench.send(Message.hold(5, 100, 6)), 0);
    }

    /** A balance below 0 refuses even a hold of nothing. */
    private static void belowZero() {
        Bench bench = Bench.withTwoCards();
        bench.send(Message.credit(5, 50, 1));
        bench.send(Message.debit(5, 150, 2));
        bench.send(Message.reversal(5, 3, 1));
        CHECKS.due("balance", bench.desk.balance(5), -50);
        CHECKS.due("hold of 0", bench.send(Message.hold(5, 0, 4)), 51);
        CHECKS.due("debit of 0", bench.send(Message.debit(5, 0, 5)), 51);
        CHECKS.due("credit", bench.send(Message.credit(5, 50, 6)), 0);
        CHECKS.due("hold of 0", bench.send(Message.hold(5, 0, 7)), 0);
    }
}
