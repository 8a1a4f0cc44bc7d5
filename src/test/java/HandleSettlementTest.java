/** Promise 4: requests of type 0500. */
final class HandleSettlementTest {
    private static final Checks CHECKS = new Checks();

    public static void main(String[] args) {
        takesOut();
        keepsHolds();
        repeatedAfterTakingOut();
        nothingIsLeftOver();
        CHECKS.end();
    }

    private static void takesOut() {
        Bench bench = Bench.withOneCard();
        bench.send(Message.debit(5, 30, 1));
        bench.send(Message.debit(5, 7, 2).terminal("ELSE"));
        bench.send(Message.credit(5, 4, 3));
        bench.send(Message.debit(5, 500, 4));
        bench.send(Message.credit(5, 9, 5));
        bench.send(Message.reversal(5, 6, 5));
        bench.send(Message.hold(5, 1, 7).terminal("ELSE"));
        CHECKS.due("settlement", bench.send(Message.settlement(8)), 0);
        CHECKS.due("settled", bench.desk.settled(), -26);
        CHECKS.due("traces", bench.column(1), "2 7 8");
        CHECKS.due("types", bench.column(0), "200 100 500");
        CHECKS.due("states", bench.states(), "0 1 0");
        CHECKS.due("balance", bench.desk.balance(5), 67);
        CHECKS.due("next settlement", bench.send(Message.settlement(9)), 0);
        CHECKS.due("traces", bench.column(1), "2 7 9");
        CHECKS.due("settled", bench.desk.settled(), -26);
        CHECKS.due("other's settlement", bench.send(Message.settlement(9).terminal("ELSE")), 0);
        CHECKS.due("traces", bench.column(1), "7 9 9");
        CHECKS.due("settled", bench.desk.settled(), -33);
        CHECKS.due("reversal of what is taken out", bench.send(Message.reversal(5, 10, 1)), 25);
    }

    private static void keepsHolds() {
        Bench bench = Bench.withOneCard();
        bench.send(Message.hold(5, 1, 1));
        bench.desk.tick(10);
        bench.send(Message.hold(5, 2, 2));
        bench.send(Message.hold(5, 3, 3));
        bench.send(Message.hold(5, 4, 4));
        bench.send(Message.debit(5, 2, 5).original(2));
        bench.send(Message.reversal(5, 6, 3));
        bench.desk.tick(39);
        bench.send(Message.settlement(7));
        CHECKS.due("traces", bench.column(1), "1 4 7");
        CHECKS.due("settled", bench.desk.settled(), -2);
        bench.desk.tick(1);
        bench.send(Message.settlement(8));
        CHECKS.due("traces", bench.column(1), "4 8");
        CHECKS.due("completion after it", bench.send(Message.debit(5, 4, 9).original(4)), 0);
        bench.send(Message.settlement(10));
        CHECKS.due("traces", bench.column(1), "10");
        CHECKS.due("settled", bench.desk.settled(), -6);
        CHECKS.due("available", bench.desk.available(5), 94);
    }

    /** What is taken out is forgotten: the same request is handled anew. */
    private static void repeatedAfterTakingOut() {
        Bench bench = Bench.withOneCard();
        bench.send(Message.debit(5, 30, 1));
        bench.send(Message.settlement(2));
        CHECKS.due("the debit again", bench.send(Message.debit(5, 30, 1)), 0);
        CHECKS.due("balance", bench.desk.balance(5), 40);
        CHECKS.due("the settlement again", bench.send(Message.settlement(2)), 0);
        CHECKS.due("traces", bench.column(1), "2 1");
        CHECKS.due("settled", bench.desk.settled(), -30);
        CHECKS.due("another settlement", bench.send(Message.settlement(3)), 0);
        CHECKS.due("traces", bench.column(1), "3");
        CHECKS.due("settled", bench.desk.settled(), -60);
        CHECKS.due("the first settlement", bench.send(Message.settlement(2)), 0);
        CHECKS.due("traces", bench.column(1), "2");
    }

    /** None of the entries that were taken out is found, summed or reversed any more. */
    private static void nothingIsLeftOver() {
        CHECKS.about("all entries of the terminal that are no holds are taken out of the journal");
        for (int many = 1; many <= 23; many++) {
            Bench bench = Bench.withOneCard();
            for (int trace = 1; trace <= many; trace++) {
                bench.send(Message.debit(5, 1, trace));
            }
            bench.send(Message.settlement(many));
            CHECKS.due("entries", bench.desk.entries(), 1);
            CHECKS.due("net", bench.desk.net(Message.terminalNumber("TERM")), 0);
            CHECKS.due("reversal", bench.send(Message.reversal(5, 50, 2)), 25);
            CHECKS.due("reversal", bench.send(Message.reversal(5, 51, 3)), 25);
            CHECKS.due("reversal", bench.send(Message.reversal(5, 52, many)), 25);
            CHECKS.due("balance", bench.desk.balance(5), 100 - many);
        }
    }
}
