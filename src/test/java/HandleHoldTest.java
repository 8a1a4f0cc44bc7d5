/** Promise 4: requests of type 0100. */
final class HandleHoldTest {
    private static final Checks CHECKS = new Checks();

    public static void main(String[] args) {
        answers();
        orderOfAnswers();
        holdsAddUp();
        CHECKS.end();
    }

    private static void due(String what, Message message, int want) {
        CHECKS.due(what, Bench.withTwoCards().send(message), want);
    }

    private static void answers() {
        due("no such card", Message.hold(6, 1, 1), 14);
        due("more than there is", Message.hold(5, 101, 1), 51);
        due("all there is", Message.hold(5, 100, 1), 0);
        due("nothing", Message.hold(5, 0, 1), 0);
        due("a credit's sort", Message.hold(5, 1, 1).sort("200000"), 12);
        due("sort 001234", Message.hold(5, 1, 1).sort("001234"), 0);
    }

    private static void orderOfAnswers() {
        CHECKS.about("which is the first of these that is so");
        due("14 before 12", Message.money("0100", "20", 6, 1, 1), 14);
        due("12 before 51", Message.money("0100", "20", 5, 500, 1), 12);
        due("14 before 51", Message.hold(6, 500, 1), 14);
    }

    private static void holdsAddUp() {
        CHECKS.about("what is AVAILABLE is that less the amounts of its HOLDS");
        Bench bench = Bench.withTwoCards();
        CHECKS.due("60", bench.send(Message.hold(5, 60, 1)), 0);
        CHECKS.due("41 more", bench.send(Message.hold(5, 41, 2)), 51);
        CHECKS.due("40 more", bench.send(Message.hold(5, 40, 3).terminal("ELSE")), 0);
        CHECKS.due("1 more", bench.send(Message.hold(5, 1, 4)), 51);
        CHECKS.due("other card", bench.send(Message.hold(77, 1000, 5)), 0);
        CHECKS.due("balance", bench.desk.balance(5), 100);
        CHECKS.due("available", bench.desk.available(5), 0);
        CHECKS.due("states", bench.states(), "1 0 1 0 1");
        CHECKS.due("answers", bench.column(2), "0 51 0 51 0");
        bench.desk.tick(50);
        CHECKS.due("after 50 ticks", bench.send(Message.hold(5, 100, 6)), 0);
    }
}
