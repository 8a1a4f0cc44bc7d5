/** Promise 4: repeated requests, types that are none of the four, and a full journal. */
final class HandleRepeatTest {
    private static final Checks CHECKS = new Checks();

    public static void main(String[] args) {
        sameAnswer();
        whatMakesThemTheSame();
        otherTypes();
        fullAt24();
        settlementsUpTo32();
        CHECKS.end();
    }

    private static void sameAnswer() {
        Bench bench = Bench.withTwoCards();
        Message[] messages = {Message.debit(5, 60, 1), Message.debit(5, 41, 2),
            Message.hold(6, 1, 3), Message.money("0100", "01", 5, 1, 4), Message.reversal(5, 5, 9),
            Message.hold(5, 10, 6), Message.reversal(5, 7, 6)};
        int[] answers = {0, 51, 14, 12, 25, 0, 0};
        for (int i = 0; i < messages.length; i++) {
            CHECKS.due("first " + i, bench.send(messages[i]), answers[i]);
        }
        bench.send(Message.credit(5, 500, 8));
        bench.desk.open(6, 1000);
        for (int i = 0; i < messages.length; i++) {
            CHECKS.due("again " + i, bench.send(messages[i]), answers[i]);
        }
        CHECKS.due("entries", bench.desk.entries(), 8);
        CHECKS.due("balance", bench.desk.balance(5), 540);
        CHECKS.due("states", bench.states(), "0 0 0 0 0 3 0 0");
        bench.desk.tick(1000);
        CHECKS.due("much later", bench.send(Message.hold(5, 10, 6)), 0);
        CHECKS.due("entries", bench.desk.entries(), 8);
    }

    private static void whatMakesThemTheSame() {
        Bench bench = Bench.withTwoCards();
        bench.send(Message.debit(5, 60, 1));
        CHECKS.due("other card and amount", bench.send(Message.debit(77, 7, 1)), 0);
        CHECKS.due("other sort", bench.send(Message.credit(5, 7, 1)), 0);
        CHECKS.due("field 56", bench.send(Message.debit(5, 7, 1).original(3)), 0);
        CHECKS.due("a bad sort", bench.send(Message.money("0200", "99", 6, 7, 1)), 0);
        CHECKS.due("entries", bench.desk.entries(), 1);
        CHECKS.due("balance", bench.desk.balance(77), 1000);
        CHECKS.due("other terminal", bench.send(Message.debit(5, 41, 1).terminal("TERN")), 51);
        CHECKS.due("other trace", bench.send(Message.debit(5, 41, 2)), 51);
        CHECKS.due("other type", bench.send(Message.hold(5, 41, 1)), 51);
        CHECKS.due("entries", bench.desk.entries(), 4);
    }

    private static void otherTypes() {
        Bench bench = Bench.withTwoCards();
        bench.send(Message.debit(5, 60, 1));
        for (String type : new String[] {"0000", "0101", "0201", "0300", "0600", "9909"}) {
            CHECKS.due(type, bench.send(Message.money(type, "00", 5, 1, 1)), 12);
            CHECKS.due(type, bench.send(new Message(type).trace(1).terminal("TERM")), 12);
        }
        CHECKS.due("entries", bench.desk.entries(), 1);
        CHECKS.due("balance", bench.desk.balance(5), 40);
    }

    private static void fill(Bench bench, int entries) {
        for (int trace = bench.desk.entries(); trace < entries; trace++) {
            CHECKS.due("debit " + trace, bench.send(Message.debit(5, 1, trace)), 0);
        }
    }

    private static void fullAt24() {
        Bench bench = Bench.withTwoCards();
        fill(bench, 23);
        CHECKS.due("the 24th", bench.send(Message.hold(5, 1, 23)), 0);
        CHECKS.due("the 25th, a debit", bench.send(Message.debit(5, 1, 24)), 96);
        CHECKS.due("a hold", bench.send(Message.hold(5, 1, 24)), 96);
        CHECKS.due("96 before 14", bench.send(Message.hold(6, 1, 24)), 96);
        CHECKS.due("a reversal", bench.send(Message.reversal(5, 24, 1)), 96);
        CHECKS.due("12 before 96", bench.send(Message.money("0800", "00", 5, 1, 1)), 12);
        CHECKS.due("repeated", bench.send(Message.debit(5, 1, 3)), 0);
        CHECKS.due("entries", bench.desk.entries(), 24);
        CHECKS.due("balance", bench.desk.balance(5), 77);
        CHECKS.due("available", bench.desk.available(5), 76);
        CHECKS.due("a settlement", bench.send(Message.settlement(25)), 0);
        CHECKS.due("entries", bench.desk.entries(), 2);
        CHECKS.due("what was answered 96", bench.send(Message.debit(5, 1, 24)), 0);
    }

    private static void settlementsUpTo32() {
        Bench bench = Bench.withTwoCards();
        fill(bench, 24);
        for (int k = 0; k < 8; k++) {
            CHECKS.due("settlement " + k, bench.send(Message.settlement(1).terminal("SET" + k)), 0);
        }
        CHECKS.due("entries", bench.desk.entries(), 32);
        CHECKS.due("the 33rd", bench.send(Message.settlement(1).terminal("SET8")), 96);
        CHECKS.due("even of the terminal with entries", bench.send(Message.settlement(1)), 96);
        CHECKS.due("repeated", bench.send(Message.settlement(1).terminal("SET7")), 0);
        CHECKS.due("a debit", bench.send(Message.debit(5, 1, 99)), 96);
        CHECKS.due("entries", bench.desk.entries(), 32);
        CHECKS.due("settled", bench.desk.settled(), 0);
        CHECKS.due("available", bench.desk.available(5), 76);
        CHECKS.due("net", bench.desk.net(Message.terminalNumber("TERM")), -24);
        CHECKS.due("last entry", bench.desk.entry(31, 0), 500);
        CHECKS.due("no entry", bench.desk.entry(32, 0), -1);
        bench = Bench.withTwoCards();
        fill(bench, 24);
        for (int k = 0; k < 7; k++) {
            bench.send(Message.settlement(1).terminal("SET" + k));
        }
        CHECKS.due("the 32nd", bench.send(Message.settlement(1)), 0);
        CHECKS.due("entries", bench.desk.entries(), 8);
        CHECKS.due("settled", bench.desk.settled(), -24);
    }
}
