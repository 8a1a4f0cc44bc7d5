/** Promises 12 and 13: net and settled. */
final class NetTest {
    private static final Checks CHECKS = new Checks();
    private static final int TERM = Message.terminalNumber("TERM");

    public static void main(String[] args) {
        whatCounts();
        sumOfNets();
        CHECKS.end();
    }

    private static Bench bench() {
        Bench bench = new Bench();
        bench.desk.open(5, 1000);
        bench.desk.open(77, 1000);
        return bench;
    }

    private static void netAfter(Bench bench, Message message, long want) {
        bench.send(message);
        CHECKS.due("net after " + message.hex(), bench.desk.net(TERM), want);
    }

    private static void whatCounts() {
        Bench bench = bench();
        netAfter(bench, Message.debit(5, 100, 1), -100);
        netAfter(bench, Message.debit(77, 20, 2), -120);
        netAfter(bench, Message.credit(5, 500, 3), 380);
        netAfter(bench, Message.hold(5, 60, 4), 380);
        netAfter(bench, Message.debit(5, 50, 5).original(4), 330);
        netAfter(bench, Message.debit(5, 999999, 6), 330);
        netAfter(bench, Message.credit(6, 7, 7), 330);
        netAfter(bench, Message.money("0200", "01", 5, 7, 8), 330);
        netAfter(bench, Message.reversal(5, 9, 1), 430);
        netAfter(bench, Message.reversal(5, 10, 3), -70);
        netAfter(bench, Message.reversal(5, 11, 5), -20);
        netAfter(bench, Message.debit(5, 100, 1), -20);
        netAfter(bench, Message.debit(5, 3, 1).terminal("ELSE"), -20);
        netAfter(bench, Message.settlement(12), 0);
        netAfter(bench, Message.credit(5, 9, 13), 9);
    }

    private static void sumOfNets() {
        Bench bench = bench();
        bench.send(Message.debit(5, 100, 1));
        CHECKS.due("not yet", bench.desk.settled(), 0);
        bench.send(Message.settlement(2));
        CHECKS.due("first", bench.desk.settled(), -100);
        bench.send(Message.settlement(2));
        CHECKS.due("repeated", bench.desk.settled(), -100);
        bench.send(Message.credit(5, 999999999999L, 3));
        bench.send(Message.credit(5, 999999999999L, 4).terminal("ELSE"));
        bench.send(Message.settlement(5));
        CHECKS.due("second", bench.desk.settled(), 999999999899L);
        bench.send(Message.settlement(6).terminal("NONE"));
        CHECKS.due("nothing to settle", bench.desk.settled(), 999999999899L);
        bench.send(Message.settlement(6).terminal("ELSE"));
        CHECKS.due("third", bench.desk.settled(), 1999999999898L);
        bench.send(Message.settlement(7).hex() + "00");
        CHECKS.due("no request", bench.desk.settled(), 1999999999898L);
        bench.send(Message.hold(5, 10, 8));
        bench.send(Message.settlement(9));
        CHECKS.due("a hold", bench.desk.settled(), 1999999999898L);
        bench.send(Message.debit(5, 10, 10).original(8));
        bench.send(Message.settlement(11));
        CHECKS.due("completed in the next batch", bench.desk.settled(), 1999999999888L);
    }
}
