/** Promises 9, 10 and 11: entries, entry and amount. */
final class EntryTest {
    private static final Checks CHECKS = new Checks();

    public static void main(String[] args) {
        whatMakesAnEntry();
        whatItHas();
        CHECKS.end();
    }

    private static void entriesAfter(Bench bench, Message message, int want) {
        bench.send(message);
        CHECKS.due("entries() after " + message.hex(), bench.desk.entries(), want);
    }

    private static void whatMakesAnEntry() {
        Bench bench = Bench.withOneCard();
        entriesAfter(bench, Message.hold(5, 1, 1), 1);
        entriesAfter(bench, Message.hold(6, 1, 2), 2);
        entriesAfter(bench, Message.hold(5, 1, 1), 2);
        entriesAfter(bench, Message.debit(5, 1000, 1), 3);
        entriesAfter(bench, Message.money("0200", "55", 5, 1, 2), 4);
        entriesAfter(bench, Message.reversal(5, 1, 99), 5);
        entriesAfter(bench, Message.money("0800", "00", 5, 1, 9), 5);
        entriesAfter(bench, Message.hold(5, 1, 10).without(4), 5);
        entriesAfter(bench, Message.settlement(1).terminal("ELSE"), 6);
        entriesAfter(bench, Message.settlement(1), 3);
        bench.desk.tick(50);
        CHECKS.due("entries() when a hold has ended", bench.desk.entries(), 3);
    }

    private static void whatItHas() {
        Bench bench = Bench.withOneCard();
        bench.send(Message.hold(5, 60, 999999));
        bench.send(Message.hold(5, 999999999999L, 0));
        bench.send(Message.money("0100", "01", 5, 2, 3));
        bench.send(Message.debit(5, 40, 4));
        bench.send(Message.credit(5, 7, 5));
        bench.send(Message.debit(5, 50, 6).original(999999));
        bench.send(Message.reversal(5, 7, 5));
        bench.send(Message.reversal(5, 8, 5));
        bench.send(Message.settlement(9).terminal("ELSE"));
        bench.send(Message.hold(77, 11, 10));
        CHECKS.due("types", bench.column(0), "100 100 100 200 200 200 400 400 500 100");
        CHECKS.due("traces", bench.column(1), "999999 0 3 4 5 6 7 8 9 10");
        CHECKS.due("answers", bench.column(2), "0 51 12 0 0 0 0 25 0 14");
        CHECKS.due("states", bench.column(3), "2 0 0 0 3 0 0 0 0 0");
        long[] amounts = {60, 999999999999L, 2, 40, 7, 50, 0, 0, 0, 11};
        for (int k = 0; k < amounts.length; k++) {
            CHECKS.due("amount(" + k + ")", bench.desk.amount(k), amounts[k]);
        }
    }
}
