/** Promise 4: repeated requests, and types that are none of the four. */
final class HandleRepeatTest {
    private static final Checks CHECKS = new Checks();

    public static void main(String[] args) {
        sameAnswer();
        whatMakesThemTheSame();
        otherTypes();
        CHECKS.end();
    }

    private static void sameAnswer() {
        Bench bench = Bench.withTwoCards();
        Message[] messages = {Message.debit(5, 60, 1), Message.debit(5, 41, 2),
            Message.hold(6, 1, 3), Message.money("0100", "01", 5, 1, 4), Message.reversal(5, 5, 9),
            Message.hold(5, 10, 6), Message.reversal(5, 7, 6)};
        int[] answers = {0, 51, 14, 12, 25, 0, 0};
        for (int i = 0; i < messages.length; i++) {
            CHECKS.due("first " + i, bench.send(messages[i]), answers[i]);
        }
        bench.send(Message.credit(5, 500, 8));
        bench.desk.open(6, 1000);
        for (int i = 0; i < messages.length; i++) {
            CHECKS.due("again " + i, bench.send(messages[i]), answers[i]);
        }
        CHECKS.due("entries", bench.desk.entries(), 8);
        CHECKS.due("balance", bench.desk.balance(5), 540);
        CHECKS.due("states", bench.states(), "0 0 0 0 0 3 0 0");
        bench.desk.tick(1000);
        CHECKS.due("much later", bench.send(Message.hold(5, 10, 6)), 0);
        CHECKS.due("entries", bench.desk.entries(), 8);
    }

    private static void whatMakesThemTheSame() {
        Bench bench = Bench.withTwoCards();
        bench.send(Message.debit(5, 60, 1));
        CHECKS.due("other card and amount", bench.send(Message.debit(77, 7, 1)), 0);
        CHECKS.due("other sort", bench.send(Message.credit(5, 7, 1)), 0);
        CHECKS.due("field 56", bench.send(Message.debit(5, 7, 1).original(3)), 0);
        CHECKS.due("a bad sort", bench.send(Message.money("0200", "99", 6, 7, 1)), 0);
        CHECKS.due("entries", bench.desk.entries(), 1);
        CHECKS.due("balance", bench.desk.balance(77), 1000);
        CHECKS.due("other terminal", bench.send(Message.debit(5, 41, 1).terminal("TERN")), 51);
        CHECKS.due("other trace", bench.send(Message.debit(5, 41, 2)), 51);
        CHECKS.due("other type", bench.send(Message.hold(5, 41, 1)), 51);
        CHECKS.due("entries", bench.desk.entries(), 4);
    }

    private static void otherTypes() {
        Bench bench = Bench.withTwoCards();
        bench.send(Message.debit(5, 60, 1));
        for (String type : new String[] {"0000", "0101", "0201", "0300", "0600", "9909"}) {
            CHECKS.due(type, bench.send(Message.money(type, "00", 5, 1, 1)), 12);
            CHECKS.due(type, bench.send(new Message(type).trace(1).terminal("TERM")), 12);
        }
        CHECKS.due("entries", bench.desk.entries(), 1);
        CHECKS.due("balance", bench.desk.balance(5), 40);
    }
}
