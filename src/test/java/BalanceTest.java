/** Promises 7 and 8: balance and available. */
final class BalanceTest {
    private static final Checks CHECKS = new Checks();

    public static void main(String[] args) {
        afterEachRequest();
        holdsOfOneCard();
        CHECKS.end();
    }

    private static void due(String when, Bench bench, long card, long balance, long available) {
        CHECKS.due("balance " + when, bench.desk.balance(card), balance);
        CHECKS.due("available " + when, bench.desk.available(card), available);
    }

    private static void afterEachRequest() {
        Bench bench = new Bench();
        bench.desk.open(5, 1000);
        bench.send(Message.hold(5, 300, 1));
        due("after a hold", bench, 5, 1000, 700);
        bench.send(Message.debit(5, 100, 2));
        due("after a debit", bench, 5, 900, 600);
        bench.send(Message.credit(5, 50, 3));
        due("after a credit", bench, 5, 950, 650);
        bench.send(Message.debit(5, 200, 4).original(1));
        due("after a completion", bench, 5, 750, 750);
        bench.send(Message.reversal(5, 5, 4));
        due("after its reversal", bench, 5, 950, 950);
        bench.send(Message.reversal(5, 6, 3));
        due("after a credit's reversal", bench, 5, 900, 900);
        bench.send(Message.hold(5, 900, 7));
        due("after another hold", bench, 5, 900, 0);
        bench.send(Message.settlement(8));
        due("after a settlement", bench, 5, 900, 0);
        bench.send(Message.reversal(5, 9, 7));
        due("after a hold's reversal", bench, 5, 900, 900);
        bench.send(Message.debit(5, 901, 10));
        due("after a refused debit", bench, 5, 900, 900);
    }

    private static void holdsOfOneCard() {
        Bench bench = new Bench();
        bench.desk.open(5, 100);
        bench.desk.open(9999999999999999L, 200);
        bench.send(Message.hold(5, 10, 1));
        bench.send(Message.hold(5, 20, 2).terminal("ELSE"));
        bench.send(Message.hold(9999999999999999L, 40, 3));
        bench.send(Message.hold(7, 1, 4));
        due("of 5", bench, 5, 100, 70);
        due("of the other", bench, 9999999999999999L, 200, 160);
        bench.desk.open(7, 5);
        due("of a card opened after it was refused", bench, 7, 5, 5);
        bench.desk.tick(50);
        due("of 5 later", bench, 5, 100, 100);
        due("of the other later", bench, 9999999999999999L, 200, 200);
    }
}
