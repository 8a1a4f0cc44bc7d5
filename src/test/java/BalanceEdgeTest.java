/** Promises 7 and 8 at their edges. */
final class BalanceEdgeTest {
    private static final Checks CHECKS = new Checks();
    private static final long MISSING = Bench.MISSING;
    private static final long MOST = 999999999999L;

    public static void main(String[] args) {
        noSuchCard();
        noSuchCardAmongSix();
        refusedCard();
        belowZero();
        belowTheMark();
        balanceOnTheMark();
        availableOnTheMark();
        aboveWhatIsOpened();
        availableBelowZero();
        availableOfTheLastHold();
        CHECKS.end();
    }

    private static void due(String when, Bench bench, long card, long balance, long available) {
        CHECKS.due("balance " + when, bench.desk.balance(card), balance);
        CHECKS.due("available " + when, bench.desk.available(card), available);
    }

    private static void noSuchCard() {
        CHECKS.about("-1099511627776 when there is no such card");
        long[] cards = {0, 1, -1, 5, 9999999999999999L, 10000000000000000L, MISSING,
            Long.MIN_VALUE, Long.MAX_VALUE};
        for (long card : cards) {
            due("on a new desk", new Bench(), card, MISSING, MISSING);
        }
        Bench bench = Bench.withOneCard();
        bench.send(Message.hold(5, 10, 1));
        bench.send(Message.settlement(2));
        long[] others = {0, 4, 6, -5, 50, 5L + (1L << 32), 5L + (1L << 56), Long.MIN_VALUE + 5};
        for (long card : others) {
            due("of " + card, bench, card, MISSING, MISSING);
        }
        due("of 5", bench, 5, 100, 90);
    }

    private static void noSuchCardAmongSix() {
        CHECKS.about("-1099511627776 when there is no such card");
        Bench bench = new Bench();
        for (int card = 1; card <= 7; card++) {
            bench.desk.open(card, 0);
        }
        for (int card = 1; card <= 6; card++) {
            due("of " + card, bench, card, 0, 0);
        }
        due("of the seventh", bench, 7, MISSING, MISSING);
        due("of 0", bench, 0, MISSING, MISSING);
    }

    /** A card that is in an entry, but was never opened, is none. */
    private static void refusedCard() {
        CHECKS.about("-1099511627776 when there is no such card");
        Bench bench = Bench.withOneCard();
        bench.send(Message.hold(6, 10, 1));
        bench.send(Message.credit(6, 10, 2));
        due("of 6", bench, 6, MISSING, MISSING);
        bench.desk.open(6, 40);
        due("of 6, opened later", bench, 6, 40, 40);
        bench.send(Message.hold(6, 10, 1));
        due("of 6, the request repeated", bench, 6, 40, 40);
    }

    /** A desk with card 5 of 0 whose credits, all spent, are taken back: less than nothing. */
    private static Bench owing(long first, long second) {
        Bench bench = Bench.withCard(0);
        bench.send(Message.credit(5, first, 1));
        bench.send(Message.credit(5, second, 2));
        bench.send(Message.debit(5, first, 3));
        bench.send(Message.debit(5, second, 4));
        bench.send(Message.reversal(5, 5, 1));
        bench.send(Message.reversal(5, 6, 2));
        return bench;
    }

    private static void belowZero() {
        CHECKS.about("(It can be below 0.)");
        due("of -1", owing(1, 0), 5, -1, -1);
        due("of -30", owing(10, 20), 5, -30, -30);
        Bench bench = owing(MOST, 0);
        due("of the most", bench, 5, -MOST, -MOST);
        bench.send(Message.credit(5, MOST, 7));
        due("of nothing again", bench, 5, 0, 0);
    }

    private static void belowTheMark() {
        CHECKS.about("(It can be below 0.)");
        Bench bench = owing(MOST, MOST);
        due("below what tells that there is none", bench, 5, -2 * MOST, -2 * MOST);
        CHECKS.due("it is a card", bench.send(Message.hold(5, 0, 7)), 51);
        CHECKS.due("it is opened", bench.desk.open(5, 0), false);
    }

    /** A card that is there is answered with its balance, even when that is the same number. */
    private static void balanceOnTheMark() {
        CHECKS.about("The balance of a card; -1099511627776 when there is no such card");
        due("just above", owing(MOST, -MISSING - MOST - 1), 5, MISSING + 1, MISSING + 1);
        due("just below", owing(MOST, -MISSING - MOST + 1), 5, MISSING - 1, MISSING - 1);
        Bench bench = owing(MOST, -MISSING - MOST);
        due("on what tells that there is none", bench, 5, MISSING, MISSING);
        stillThere(bench);
        due("after a credit of 1", bench, 5, MISSING + 1, MISSING + 1);
        CHECKS.due("its reversal", bench.send(Message.reversal(5, 24, 23)), 0);
        due("after its reversal", bench, 5, MISSING, MISSING);
    }

    /** The balance is above: what is held makes the difference. */
    private static void availableOnTheMark() {
        CHECKS.about("What is available on a card; -1099511627776 when there is no such card");
        long balance = 2 * MOST + MISSING;
        Bench bench = Bench.withCard(balance);
        bench.send(Message.credit(5, MOST, 1));
        bench.send(Message.credit(5, MOST, 2));
        bench.send(Message.hold(5, MOST, 3));
        bench.send(Message.hold(5, MOST, 4));
        bench.send(Message.debit(5, balance, 5));
        due("all is spent or held", bench, 5, 2 * MOST, 0);
        bench.send(Message.reversal(5, 6, 1));
        bench.send(Message.reversal(5, 7, 2));
        due("the credits are taken back", bench, 5, 0, -2 * MOST);
        bench.send(Message.credit(5, balance, 8));
        due("on what tells that there is none", bench, 5, balance, MISSING);
        stillThere(bench);
        due("after a credit of 1", bench, 5, balance + 1, MISSING + 1);
        bench.desk.tick(50);
        due("when the holds are over", bench, 5, balance + 1, balance + 1);
    }

    /** Requests of the traces 20 .. 23, of which the last alone changes a balance: by 1. */
    private static void stillThere(Bench bench) {
        CHECKS.due("it is opened", bench.desk.open(5, 0), false);
        CHECKS.due("a hold", bench.send(Message.hold(5, 0, 20)), 51);
        CHECKS.due("a debit", bench.send(Message.debit(5, 0, 21)), 51);
        CHECKS.due("a reversal", bench.send(Message.reversal(5, 22, 999)), 25);
        CHECKS.due("a credit", bench.send(Message.credit(5, 1, 23)), 0);
        CHECKS.due("a card that is not there", bench.send(Message.hold(6, 0, 23)), 14);
        due("of a card that is not there", bench, 6, MISSING, MISSING);
    }

    private static void aboveWhatIsOpened() {
        CHECKS.about("The balance of a card");
        Bench bench = Bench.withCard(1000000000000L);
        due("as opened", bench, 5, 1000000000000L, 1000000000000L);
        bench.send(Message.hold(5, MOST, 1));
        due("after a hold", bench, 5, 1000000000000L, 1);
        bench.send(Message.credit(5, MOST, 2));
        due("after a credit", bench, 5, 1999999999999L, 1000000000000L);
        bench.send(Message.debit(5, MOST, 3).original(1));
        due("after a completion", bench, 5, 1000000000000L, 1000000000000L);
    }

    private static void availableBelowZero() {
        CHECKS.about("What is available on a card");
        Bench bench = Bench.withOneCard();
        bench.send(Message.credit(5, 50, 1));
        bench.send(Message.hold(5, 150, 2));
        due("all is held", bench, 5, 150, 0);
        bench.send(Message.reversal(5, 3, 1));
        due("the credit is taken back", bench, 5, 100, -50);
        bench.desk.tick(49);
        due("49 ticks later", bench, 5, 100, -50);
        bench.desk.tick(1);
        due("50 ticks later", bench, 5, 100, 100);
    }

    /** Holds up to the journal's last place count, and stay when all else is taken out. */
    private static void availableOfTheLastHold() {
        CHECKS.about("that less the amounts of its HOLDS");
        Bench bench = Bench.withTwoCards();
        for (int trace = 1; trace <= 24; trace++) {
            bench.send(Message.hold(trace % 2 == 0 ? 5 : 77, trace, trace));
        }
        due("of 5 refused beyond 100", bench, 5, 100, 100 - 90);
        due("of 77", bench, 77, 1000, 1000 - 144);
        bench.send(Message.settlement(25));
        due("of 5 after a settlement", bench, 5, 100, 10);
        due("of 77 after a settlement", bench, 77, 1000, 1000 - 144);
    }
}
